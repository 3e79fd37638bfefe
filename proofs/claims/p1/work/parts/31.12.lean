noncomputable def r_Mo_minus_61 (h : ja_H) (y5 : Int64) : Option (Int64 × ja_H) := (some (y5, h))
theorem t_Mo_minus_61 {h : ja_H} {y5 : Int64} : ja_D ja_gL M_Mo_minus 61 [none, none, none, none, none, some (.long y5), none] [] h (r_Mo_minus_61 h y5) := by
  unfold r_Mo_minus_61
  refine jd_lload i_Mo_minus_61 rfl ?_
  exact jd_lreturn i_Mo_minus_63 rfl
noncomputable def r_Mo_minus_53 (h : ja_H) (y0 : Nat) (y5 : Int64) (z0 : Int32) (z1 : Int32) : Option (Int64 × ja_H) := (if z1 = z0 then (r_Mo_minus_61 h y5) else (jp_Z h y0 9 16 (1 : Int32) (fun h1 => (r_Mo_minus_61 h1 y5))))
theorem t_Mo_minus_53 {h : ja_H} {y0 : Nat} {y5 : Int64} {z0 : Int32} {z1 : Int32} : ja_D ja_gL M_Mo_minus 53 [some (.ref y0), none, none, none, none, some (.long y5), none] [.int z0, .int z1] h (r_Mo_minus_53 h y0 y5 z0 z1) := by
  unfold r_Mo_minus_53
  refine jd_icmp_eq 61 i_Mo_minus_53 (by decide) ?_ ?_
  · exact jd_less (t_Mo_minus_61) ⟨rfl, trivial⟩
  · refine jd_aload_n i_Mo_minus_56 rfl ?_
    refine jd_iconst 1 i_Mo_minus_57 (by decide) ?_
    refine jd_putZ F_Mo_201 P_Mo_wrapped i_Mo_minus_58 (fun h1 => ?_)
    exact jd_less (t_Mo_minus_61) ⟨rfl, trivial⟩
noncomputable def r_Mo_minus_42 (h : ja_H) (y0 : Nat) (y1 : Int64) (y5 : Int64) (z0 : Int32) : Option (Int64 × ja_H) := (if (0 : Int64) ≤ y1 then (r_Mo_minus_53 h y0 y5 (0 : Int32) z0) else (r_Mo_minus_53 h y0 y5 (1 : Int32) z0))
theorem t_Mo_minus_42 {h : ja_H} {y0 : Nat} {y1 : Int64} {y5 : Int64} {z0 : Int32} : ja_D ja_gL M_Mo_minus 42 [some (.ref y0), some (.long y1), none, none, none, some (.long y5), none] [.int z0] h (r_Mo_minus_42 h y0 y1 y5 z0) := by
  unfold r_Mo_minus_42
  refine jd_lload_n i_Mo_minus_42 rfl ?_
  refine jd_lconst 0 i_Mo_minus_43 (by decide) ?_
  refine jd_lcmp_ge 52 i_Mo_minus_44 i_Mo_minus_45 (by decide) ?_ ?_
  · refine jd_iconst 0 i_Mo_minus_52 (by decide) ?_
    exact jd_less (t_Mo_minus_53) ⟨rfl, rfl, trivial⟩
  · refine jd_iconst 1 i_Mo_minus_48 (by decide) ?_
    refine jd_goto 53 i_Mo_minus_49 (by decide) ?_
    exact jd_less (t_Mo_minus_53) ⟨rfl, rfl, trivial⟩
noncomputable def r_Mo_minus_27 (h : ja_H) (y0 : Nat) (y1 : Int64) (y5 : Int64) (z0 : Int32) (z1 : Int32) : Option (Int64 × ja_H) := (if z1 = z0 then (r_Mo_minus_61 h y5) else (if (0 : Int64) ≤ y5 then (r_Mo_minus_42 h y0 y1 y5 (0 : Int32)) else (r_Mo_minus_42 h y0 y1 y5 (1 : Int32))))
theorem t_Mo_minus_27 {h : ja_H} {y0 : Nat} {y1 : Int64} {y5 : Int64} {z0 : Int32} {z1 : Int32} : ja_D ja_gL M_Mo_minus 27 [some (.ref y0), some (.long y1), none, none, none, some (.long y5), none] [.int z0, .int z1] h (r_Mo_minus_27 h y0 y1 y5 z0 z1) := by
  unfold r_Mo_minus_27
  refine jd_icmp_eq 61 i_Mo_minus_27 (by decide) ?_ ?_
  · exact jd_less (t_Mo_minus_61) ⟨rfl, trivial⟩
  · refine jd_lload i_Mo_minus_30 rfl ?_
    refine jd_lconst 0 i_Mo_minus_32 (by decide) ?_
    refine jd_lcmp_ge 41 i_Mo_minus_33 i_Mo_minus_34 (by decide) ?_ ?_
    · refine jd_iconst 0 i_Mo_minus_41 (by decide) ?_
      exact jd_less (t_Mo_minus_42) ⟨rfl, rfl, rfl, trivial⟩
    · refine jd_iconst 1 i_Mo_minus_37 (by decide) ?_
      refine jd_goto 42 i_Mo_minus_38 (by decide) ?_
      exact jd_less (t_Mo_minus_42) ⟨rfl, rfl, rfl, trivial⟩
noncomputable def r_Mo_minus_16 (h : ja_H) (y0 : Nat) (y1 : Int64) (y3 : Int64) (y5 : Int64) (z0 : Int32) : Option (Int64 × ja_H) := (if (0 : Int64) ≤ y3 then (r_Mo_minus_27 h y0 y1 y5 (0 : Int32) z0) else (r_Mo_minus_27 h y0 y1 y5 (1 : Int32) z0))
theorem t_Mo_minus_16 {h : ja_H} {y0 : Nat} {y1 : Int64} {y3 : Int64} {y5 : Int64} {z0 : Int32} : ja_D ja_gL M_Mo_minus 16 [some (.ref y0), some (.long y1), none, some (.long y3), none, some (.long y5), none] [.int z0] h (r_Mo_minus_16 h y0 y1 y3 y5 z0) := by
  unfold r_Mo_minus_16
  refine jd_lload_n i_Mo_minus_16 rfl ?_
  refine jd_lconst 0 i_Mo_minus_17 (by decide) ?_
  refine jd_lcmp_ge 26 i_Mo_minus_18 i_Mo_minus_19 (by decide) ?_ ?_
  · refine jd_iconst 0 i_Mo_minus_26 (by decide) ?_
    exact jd_less (t_Mo_minus_27) ⟨rfl, rfl, rfl, trivial⟩
  · refine jd_iconst 1 i_Mo_minus_22 (by decide) ?_
    refine jd_goto 27 i_Mo_minus_23 (by decide) ?_
    exact jd_less (t_Mo_minus_27) ⟨rfl, rfl, rfl, trivial⟩
noncomputable def r_Mo_minus (h : ja_H) (a0 : Nat) (a1 : Int64) (a3 : Int64) : Option (Int64 × ja_H) := (jl ((a1 - a3) : Int64) (fun (x101 : Int64) => (if (0 : Int64) ≤ a1 then (r_Mo_minus_16 h a0 a1 a3 x101 (0 : Int32)) else (r_Mo_minus_16 h a0 a1 a3 x101 (1 : Int32)))))
theorem e_Mo_minus {h : ja_H} {a0 : Nat} {a1 : Int64} {a3 : Int64} : ja_D ja_gL M_Mo_minus 0 [some (.ref a0), some (.long a1), none, some (.long a3), none, none, none] [] h (r_Mo_minus h a0 a1 a3) := by
  unfold r_Mo_minus
  refine jd_lload_n i_Mo_minus_0 rfl ?_
  refine jd_lload_n i_Mo_minus_1 rfl ?_
  refine jd_lsub i_Mo_minus_2 ?_
  refine jd_lstore (fun x101 => [some (.ref a0), some (.long a1), none, some (.long a3), none, some (.long x101), none]) i_Mo_minus_3 (by decide) rfl (fun _ => rfl) (fun x101 => ?_)
  refine jd_lload_n i_Mo_minus_5 rfl ?_
  refine jd_lconst 0 i_Mo_minus_6 (by decide) ?_
  refine jd_lcmp_ge 15 i_Mo_minus_7 i_Mo_minus_8 (by decide) ?_ ?_
  · refine jd_iconst 0 i_Mo_minus_15 (by decide) ?_
    exact jd_less (t_Mo_minus_16) ⟨rfl, rfl, rfl, rfl, trivial⟩
  · refine jd_iconst 1 i_Mo_minus_11 (by decide) ?_
    refine jd_goto 16 i_Mo_minus_12 (by decide) ?_
    exact jd_less (t_Mo_minus_16) ⟨rfl, rfl, rfl, rfl, trivial⟩
theorem c_Mo_minus {h : ja_H} {a0 : Nat} {a1 : Int64} {a3 : Int64} {o : Int64 × ja_H} (e : r_Mo_minus h a0 a1 a3 = some o) : ja_M (0, 0) y_Mo_minus b_Mo_minus 7 (some .long) [.ref a0, .long a1, .long a3] h [.long o.1] o.2 := jc_of (g := ja_gL) false _ e e_Mo_minus rfl (by decide +kernel) (fun q => nomatch q) (Nat.le_of_ble_eq_true rfl) (fun _ q => nomatch q) (Nat.le_of_ble_eq_true rfl)
noncomputable def r_Mo_plus_61 (h : ja_H) (y5 : Int64) : Option (Int64 × ja_H) := (some (y5, h))
theorem t_Mo_plus_61 {h : ja_H} {y5 : Int64} : ja_D ja_gL M_Mo_plus 61 [none, none, none, none, none, some (.long y5), none] [] h (r_Mo_plus_61 h y5) := by
  unfold r_Mo_plus_61
  refine jd_lload i_Mo_plus_61 rfl ?_
  exact jd_lreturn i_Mo_plus_63 rfl
noncomputable def r_Mo_plus_53 (h : ja_H) (y0 : Nat) (y5 : Int64) (z0 : Int32) (z1 : Int32) : Option (Int64 × ja_H) := (if z1 = z0 then (r_Mo_plus_61 h y5) else (jp_Z h y0 9 16 (1 : Int32) (fun h1 => (r_Mo_plus_61 h1 y5))))
theorem t_Mo_plus_53 {h : ja_H} {y0 : Nat} {y5 : Int64} {z0 : Int32} {z1 : Int32} : ja_D ja_gL M_Mo_plus 53 [some (.ref y0), none, none, none, none, some (.long y5), none] [.int z0, .int z1] h (r_Mo_plus_53 h y0 y5 z0 z1) := by
  unfold r_Mo_plus_53
  refine jd_icmp_eq 61 i_Mo_plus_53 (by decide) ?_ ?_
  · exact jd_less (t_Mo_plus_61) ⟨rfl, trivial⟩
  · refine jd_aload_n i_Mo_plus_56 rfl ?_
    refine jd_iconst 1 i_Mo_plus_57 (by decide) ?_
    refine jd_putZ F_Mo_201 P_Mo_wrapped i_Mo_plus_58 (fun h1 => ?_)
    exact jd_less (t_Mo_plus_61) ⟨rfl, trivial⟩
noncomputable def r_Mo_plus_42 (h : ja_H) (y0 : Nat) (y1 : Int64) (y5 : Int64) (z0 : Int32) : Option (Int64 × ja_H) := (if (0 : Int64) ≤ y1 then (r_Mo_plus_53 h y0 y5 (0 : Int32) z0) else (r_Mo_plus_53 h y0 y5 (1 : Int32) z0))
theorem t_Mo_plus_42 {h : ja_H} {y0 : Nat} {y1 : Int64} {y5 : Int64} {z0 : Int32} : ja_D ja_gL M_Mo_plus 42 [some (.ref y0), some (.long y1), none, none, none, some (.long y5), none] [.int z0] h (r_Mo_plus_42 h y0 y1 y5 z0) := by
  unfold r_Mo_plus_42
  refine jd_lload_n i_Mo_plus_42 rfl ?_
  refine jd_lconst 0 i_Mo_plus_43 (by decide) ?_
  refine jd_lcmp_ge 52 i_Mo_plus_44 i_Mo_plus_45 (by decide) ?_ ?_
  · refine jd_iconst 0 i_Mo_plus_52 (by decide) ?_
    exact jd_less (t_Mo_plus_53) ⟨rfl, rfl, trivial⟩
  · refine jd_iconst 1 i_Mo_plus_48 (by decide) ?_
    refine jd_goto 53 i_Mo_plus_49 (by decide) ?_
    exact jd_less (t_Mo_plus_53) ⟨rfl, rfl, trivial⟩
noncomputable def r_Mo_plus_27 (h : ja_H) (y0 : Nat) (y1 : Int64) (y5 : Int64) (z0 : Int32) (z1 : Int32) : Option (Int64 × ja_H) := (if z1 = z0 then (if (0 : Int64) ≤ y5 then (r_Mo_plus_42 h y0 y1 y5 (0 : Int32)) else (r_Mo_plus_42 h y0 y1 y5 (1 : Int32))) else (r_Mo_plus_61 h y5))
theorem t_Mo_plus_27 {h : ja_H} {y0 : Nat} {y1 : Int64} {y5 : Int64} {z0 : Int32} {z1 : Int32} : ja_D ja_gL M_Mo_plus 27 [some (.ref y0), some (.long y1), none, none, none, some (.long y5), none] [.int z0, .int z1] h (r_Mo_plus_27 h y0 y1 y5 z0 z1) := by
  unfold r_Mo_plus_27
  refine jd_icmp_ne 61 i_Mo_plus_27 (by decide) ?_ ?_
  · exact jd_less (t_Mo_plus_61) ⟨rfl, trivial⟩
  · refine jd_lload i_Mo_plus_30 rfl ?_
    refine jd_lconst 0 i_Mo_plus_32 (by decide) ?_
    refine jd_lcmp_ge 41 i_Mo_plus_33 i_Mo_plus_34 (by decide) ?_ ?_
    · refine jd_iconst 0 i_Mo_plus_41 (by decide) ?_
      exact jd_less (t_Mo_plus_42) ⟨rfl, rfl, rfl, trivial⟩
    · refine jd_iconst 1 i_Mo_plus_37 (by decide) ?_
      refine jd_goto 42 i_Mo_plus_38 (by decide) ?_
      exact jd_less (t_Mo_plus_42) ⟨rfl, rfl, rfl, trivial⟩
noncomputable def r_Mo_plus_16 (h : ja_H) (y0 : Nat) (y1 : Int64) (y3 : Int64) (y5 : Int64) (z0 : Int32) : Option (Int64 × ja_H) := (if (0 : Int64) ≤ y3 then (r_Mo_plus_27 h y0 y1 y5 (0 : Int32) z0) else (r_Mo_plus_27 h y0 y1 y5 (1 : Int32) z0))
theorem t_Mo_plus_16 {h : ja_H} {y0 : Nat} {y1 : Int64} {y3 : Int64} {y5 : Int64} {z0 : Int32} : ja_D ja_gL M_Mo_plus 16 [some (.ref y0), some (.long y1), none, some (.long y3), none, some (.long y5), none] [.int z0] h (r_Mo_plus_16 h y0 y1 y3 y5 z0) := by
  unfold r_Mo_plus_16
  refine jd_lload_n i_Mo_plus_16 rfl ?_
  refine jd_lconst 0 i_Mo_plus_17 (by decide) ?_
  refine jd_lcmp_ge 26 i_Mo_plus_18 i_Mo_plus_19 (by decide) ?_ ?_
  · refine jd_iconst 0 i_Mo_plus_26 (by decide) ?_
    exact jd_less (t_Mo_plus_27) ⟨rfl, rfl, rfl, trivial⟩
  · refine jd_iconst 1 i_Mo_plus_22 (by decide) ?_
    refine jd_goto 27 i_Mo_plus_23 (by decide) ?_
    exact jd_less (t_Mo_plus_27) ⟨rfl, rfl, rfl, trivial⟩
noncomputable def r_Mo_plus (h : ja_H) (a0 : Nat) (a1 : Int64) (a3 : Int64) : Option (Int64 × ja_H) := (jl ((a1 + a3) : Int64) (fun (x101 : Int64) => (if (0 : Int64) ≤ a1 then (r_Mo_plus_16 h a0 a1 a3 x101 (0 : Int32)) else (r_Mo_plus_16 h a0 a1 a3 x101 (1 : Int32)))))
theorem e_Mo_plus {h : ja_H} {a0 : Nat} {a1 : Int64} {a3 : Int64} : ja_D ja_gL M_Mo_plus 0 [some (.ref a0), some (.long a1), none, some (.long a3), none, none, none] [] h (r_Mo_plus h a0 a1 a3) := by
  unfold r_Mo_plus
  refine jd_lload_n i_Mo_plus_0 rfl ?_
  refine jd_lload_n i_Mo_plus_1 rfl ?_
  refine jd_ladd i_Mo_plus_2 ?_
  refine jd_lstore (fun x101 => [some (.ref a0), some (.long a1), none, some (.long a3), none, some (.long x101), none]) i_Mo_plus_3 (by decide) rfl (fun _ => rfl) (fun x101 => ?_)
  refine jd_lload_n i_Mo_plus_5 rfl ?_
  refine jd_lconst 0 i_Mo_plus_6 (by decide) ?_
  refine jd_lcmp_ge 15 i_Mo_plus_7 i_Mo_plus_8 (by decide) ?_ ?_
  · refine jd_iconst 0 i_Mo_plus_15 (by decide) ?_
    exact jd_less (t_Mo_plus_16) ⟨rfl, rfl, rfl, rfl, trivial⟩
  · refine jd_iconst 1 i_Mo_plus_11 (by decide) ?_
    refine jd_goto 16 i_Mo_plus_12 (by decide) ?_
    exact jd_less (t_Mo_plus_16) ⟨rfl, rfl, rfl, rfl, trivial⟩
theorem c_Mo_plus {h : ja_H} {a0 : Nat} {a1 : Int64} {a3 : Int64} {o : Int64 × ja_H} (e : r_Mo_plus h a0 a1 a3 = some o) : ja_M (0, 0) y_Mo_plus b_Mo_plus 7 (some .long) [.ref a0, .long a1, .long a3] h [.long o.1] o.2 := jc_of (g := ja_gL) false _ e e_Mo_plus rfl (by decide +kernel) (fun q => nomatch q) (Nat.le_of_ble_eq_true rfl) (fun _ q => nomatch q) (Nat.le_of_ble_eq_true rfl)
noncomputable def r_Mt_multiplyHigh (h : ja_H) (a0 : Int64) (a2 : Int64) : Option (Int64 × ja_H) := (jl ((a0 >>> (Int32.toInt64 (32 : Int32) &&& 63)) : Int64) (fun (x101 : Int64) => (jl ((a0 &&& (4294967295 : Int64)) : Int64) (fun (x102 : Int64) => (jl ((a2 >>> (Int32.toInt64 (32 : Int32) &&& 63)) : Int64) (fun (x103 : Int64) => (jl ((a2 &&& (4294967295 : Int64)) : Int64) (fun (x104 : Int64) => (jl ((x102 * x104) : Int64) (fun (x105 : Int64) => (jl (((x101 * x104) + (UInt64.toInt64 (Int64.toUInt64 x105 >>> (Int64.toUInt64 (Int32.toInt64 (32 : Int32)) &&& Int64.toUInt64 63)))) : Int64) (fun (x106 : Int64) => (jl ((x106 &&& (4294967295 : Int64)) : Int64) (fun (x107 : Int64) => (jl ((x106 >>> (Int32.toInt64 (32 : Int32) &&& 63)) : Int64) (fun (x108 : Int64) => (jl ((x107 + (x102 * x103)) : Int64) (fun (x109 : Int64) => (some ((((x101 * x103) + x108) + (x109 >>> (Int32.toInt64 (32 : Int32) &&& 63))), h))))))))))))))))))))
theorem e_Mt_multiplyHigh {h : ja_H} {a0 : Int64} {a2 : Int64} : ja_D ja_gL M_Mt_multiplyHigh 0 [some (.long a0), none, some (.long a2), none, none, none, none, none, none, none, none, none, none, none, none, none, none, none, none, none] [] h (r_Mt_multiplyHigh h a0 a2) := by
  unfold r_Mt_multiplyHigh
  refine jd_lload_n i_Mt_multiplyHigh_0 rfl ?_
  refine jd_bipush 32 i_Mt_multiplyHigh_1 (by decide) ?_
  refine jd_lshr i_Mt_multiplyHigh_3 ?_
  refine jd_lstore (fun x101 => [some (.long a0), none, some (.long a2), none, some (.long x101), none, none, none, none, none, none, none, none, none, none, none, none, none, none, none]) i_Mt_multiplyHigh_4 (by decide) rfl (fun _ => rfl) (fun x101 => ?_)
  refine jd_lload_n i_Mt_multiplyHigh_6 rfl ?_
  refine jd_ldc2 i_Mt_multiplyHigh_7 K_Mt_138 ?_
  refine jd_land i_Mt_multiplyHigh_10 ?_
  refine jd_lstore (fun x102 => [some (.long a0), none, some (.long a2), none, some (.long x101), none, some (.long x102), none, none, none, none, none, none, none, none, none, none, none, none, none]) i_Mt_multiplyHigh_11 (by decide) rfl (fun _ => rfl) (fun x102 => ?_)
  refine jd_lload_n i_Mt_multiplyHigh_13 rfl ?_
  refine jd_bipush 32 i_Mt_multiplyHigh_14 (by decide) ?_
  refine jd_lshr i_Mt_multiplyHigh_16 ?_
  refine jd_lstore (fun x103 => [some (.long a0), none, some (.long a2), none, some (.long x101), none, some (.long x102), none, some (.long x103), none, none, none, none, none, none, none, none, none, none, none]) i_Mt_multiplyHigh_17 (by decide) rfl (fun _ => rfl) (fun x103 => ?_)
  refine jd_lload_n i_Mt_multiplyHigh_19 rfl ?_
  refine jd_ldc2 i_Mt_multiplyHigh_20 K_Mt_138 ?_
  refine jd_land i_Mt_multiplyHigh_23 ?_
  refine jd_lstore (fun x104 => [some (.long a0), none, some (.long a2), none, some (.long x101), none, some (.long x102), none, some (.long x103), none, some (.long x104), none, none, none, none, none, none, none, none, none]) i_Mt_multiplyHigh_24 (by decide) rfl (fun _ => rfl) (fun x104 => ?_)
  refine jd_lload i_Mt_multiplyHigh_26 rfl ?_
  refine jd_lload i_Mt_multiplyHigh_28 rfl ?_
  refine jd_lmul i_Mt_multiplyHigh_30 ?_
  refine jd_lstore (fun x105 => [some (.long a0), none, some (.long a2), none, some (.long x101), none, some (.long x102), none, some (.long x103), none, some (.long x104), none, some (.long x105), none, none, none, none, none, none, none]) i_Mt_multiplyHigh_31 (by decide) rfl (fun _ => rfl) (fun x105 => ?_)
  refine jd_lload i_Mt_multiplyHigh_33 rfl ?_
  refine jd_lload i_Mt_multiplyHigh_35 rfl ?_
  refine jd_lmul i_Mt_multiplyHigh_37 ?_
  refine jd_lload i_Mt_multiplyHigh_38 rfl ?_
  refine jd_bipush 32 i_Mt_multiplyHigh_40 (by decide) ?_
  refine jd_lushr i_Mt_multiplyHigh_42 ?_
  refine jd_ladd i_Mt_multiplyHigh_43 ?_
  refine jd_lstore (fun x106 => [some (.long a0), none, some (.long a2), none, some (.long x101), none, some (.long x102), none, some (.long x103), none, some (.long x104), none, some (.long x105), none, some (.long x106), none, none, none, none, none]) i_Mt_multiplyHigh_44 (by decide) rfl (fun _ => rfl) (fun x106 => ?_)
  refine jd_lload i_Mt_multiplyHigh_46 rfl ?_
  refine jd_ldc2 i_Mt_multiplyHigh_48 K_Mt_138 ?_
  refine jd_land i_Mt_multiplyHigh_51 ?_
  refine jd_lstore (fun x107 => [some (.long a0), none, some (.long a2), none, some (.long x101), none, some (.long x102), none, some (.long x103), none, some (.long x104), none, some (.long x105), none, some (.long x106), none, some (.long x107), none, none, none]) i_Mt_multiplyHigh_52 (by decide) rfl (fun _ => rfl) (fun x107 => ?_)
  refine jd_lload i_Mt_multiplyHigh_54 rfl ?_
  refine jd_bipush 32 i_Mt_multiplyHigh_56 (by decide) ?_
  refine jd_lshr i_Mt_multiplyHigh_58 ?_
  refine jd_lstore (fun x108 => [some (.long a0), none, some (.long a2), none, some (.long x101), none, some (.long x102), none, some (.long x103), none, some (.long x104), none, some (.long x105), none, some (.long x106), none, some (.long x107), none, some (.long x108), none]) i_Mt_multiplyHigh_59 (by decide) rfl (fun _ => rfl) (fun x108 => ?_)
  refine jd_lload i_Mt_multiplyHigh_61 rfl ?_
  refine jd_lload i_Mt_multiplyHigh_63 rfl ?_
  refine jd_lload i_Mt_multiplyHigh_65 rfl ?_
  refine jd_lmul i_Mt_multiplyHigh_67 ?_
  refine jd_ladd i_Mt_multiplyHigh_68 ?_
  refine jd_lstore (fun x109 => [some (.long a0), none, some (.long a2), none, some (.long x101), none, some (.long x102), none, some (.long x103), none, some (.long x104), none, some (.long x105), none, some (.long x106), none, some (.long x109), none, some (.long x108), none]) i_Mt_multiplyHigh_69 (by decide) rfl (fun _ => rfl) (fun x109 => ?_)
  refine jd_lload i_Mt_multiplyHigh_71 rfl ?_
  refine jd_lload i_Mt_multiplyHigh_73 rfl ?_
  refine jd_lmul i_Mt_multiplyHigh_75 ?_
  refine jd_lload i_Mt_multiplyHigh_76 rfl ?_
  refine jd_ladd i_Mt_multiplyHigh_78 ?_
  refine jd_lload i_Mt_multiplyHigh_79 rfl ?_
  refine jd_bipush 32 i_Mt_multiplyHigh_81 (by decide) ?_
  refine jd_lshr i_Mt_multiplyHigh_83 ?_
  refine jd_ladd i_Mt_multiplyHigh_84 ?_
  exact jd_lreturn i_Mt_multiplyHigh_85 rfl
theorem c_Mt_multiplyHigh {h : ja_H} {a0 : Int64} {a2 : Int64} {o : Int64 × ja_H} (e : r_Mt_multiplyHigh h a0 a2 = some o) : ja_M (0, 0) y_Mt_multiplyHigh b_Mt_multiplyHigh 20 (some .long) [.long a0, .long a2] h [.long o.1] o.2 := jc_of (g := ja_gL) false _ e e_Mt_multiplyHigh rfl (by decide +kernel) (fun q => nomatch q) (Nat.le_of_ble_eq_true rfl) (fun _ q => nomatch q) (Nat.le_of_ble_eq_true rfl)
noncomputable def r_Mo_times_24 (h : ja_H) (y5 : Int64) : Option (Int64 × ja_H) := (some (y5, h))
theorem t_Mo_times_24 {h : ja_H} {y5 : Int64} : ja_D ja_gL M_Mo_times 24 [none, none, none, none, none, some (.long y5), none] [] h (r_Mo_times_24 h y5) := by
  unfold r_Mo_times_24
  refine jd_lload i_Mo_times_24 rfl ?_
  exact jd_lreturn i_Mo_times_26 rfl
noncomputable def r_Mo_times (h : ja_H) (a0 : Nat) (a1 : Int64) (a3 : Int64) : Option (Int64 × ja_H) := (jl ((a1 * a3) : Int64) (fun (x101 : Int64) => (jc_L (r_Mt_multiplyHigh h a1 a3) (fun v103 h102 => (if v103 = (x101 >>> (Int32.toInt64 (63 : Int32) &&& 63)) then (r_Mo_times_24 h102 x101) else (jp_Z h102 a0 9 16 (1 : Int32) (fun h104 => (r_Mo_times_24 h104 x101))))))))
theorem e_Mo_times {h : ja_H} {a0 : Nat} {a1 : Int64} {a3 : Int64} : ja_D ja_gL M_Mo_times 0 [some (.ref a0), some (.long a1), none, some (.long a3), none, none, none] [] h (r_Mo_times h a0 a1 a3) := by
  unfold r_Mo_times
  refine jd_lload_n i_Mo_times_0 rfl ?_
  refine jd_lload_n i_Mo_times_1 rfl ?_
  refine jd_lmul i_Mo_times_2 ?_
  refine jd_lstore (fun x101 => [some (.ref a0), some (.long a1), none, some (.long a3), none, some (.long x101), none]) i_Mo_times_3 (by decide) rfl (fun _ => rfl) (fun x101 => ?_)
  refine jd_lload_n i_Mo_times_5 rfl ?_
  refine jd_lload_n i_Mo_times_6 rfl ?_
  refine jd_callSL G_Mo_204 sc_Mt_multiplyHigh (fun _ e => c_Mt_multiplyHigh e) rfl ⟨by decide, by decide⟩ rfl (Nat.le_of_ble_eq_true rfl) i_Mo_times_7 (fun v103 h102 => ?_)
  refine jd_lload i_Mo_times_10 rfl ?_
  refine jd_bipush 63 i_Mo_times_12 (by decide) ?_
  refine jd_lshr i_Mo_times_14 ?_
  refine jd_lcmp_eq 24 i_Mo_times_15 i_Mo_times_16 (by decide) ?_ ?_
  · exact jd_less (t_Mo_times_24) ⟨rfl, trivial⟩
  · refine jd_aload_n i_Mo_times_19 rfl ?_
    refine jd_iconst 1 i_Mo_times_20 (by decide) ?_
    refine jd_putZ F_Mo_201 P_Mo_wrapped i_Mo_times_21 (fun h104 => ?_)
    exact jd_less (t_Mo_times_24) ⟨rfl, trivial⟩
theorem c_Mo_times {h : ja_H} {a0 : Nat} {a1 : Int64} {a3 : Int64} {o : Int64 × ja_H} (e : r_Mo_times h a0 a1 a3 = some o) : ja_M (1, 39) y_Mo_times b_Mo_times 7 (some .long) [.ref a0, .long a1, .long a3] h [.long o.1] o.2 := jc_of (g := ja_gL) false _ e e_Mo_times rfl (by decide +kernel) (fun q => nomatch q) (Nat.le_of_ble_eq_true rfl) (fun _ q => nomatch q) (Nat.le_of_ble_eq_true rfl)
noncomputable def r_Mo_up_19 (h : ja_H) (y4 : Int64) : Option (Int64 × ja_H) := (some (y4, h))
theorem t_Mo_up_19 {h : ja_H} {y4 : Int64} : ja_D ja_gL M_Mo_up 19 [none, none, none, none, some (.long y4), none] [] h (r_Mo_up_19 h y4) := by
  unfold r_Mo_up_19
  refine jd_lload i_Mo_up_19 rfl ?_
  exact jd_lreturn i_Mo_up_21 rfl
noncomputable def r_Mo_up (h : ja_H) (a0 : Nat) (a1 : Int64) (a3 : Int32) : Option (Int64 × ja_H) := (jl ((a1 <<< (Int32.toInt64 a3 &&& 63)) : Int64) (fun (x101 : Int64) => (if (x101 >>> (Int32.toInt64 a3 &&& 63)) = a1 then (r_Mo_up_19 h x101) else (jp_Z h a0 9 16 (1 : Int32) (fun h102 => (r_Mo_up_19 h102 x101))))))
theorem e_Mo_up {h : ja_H} {a0 : Nat} {a1 : Int64} {a3 : Int32} : ja_D ja_gL M_Mo_up 0 [some (.ref a0), some (.long a1), none, some (.int a3), none, none] [] h (r_Mo_up h a0 a1 a3) := by
  unfold r_Mo_up
  refine jd_lload_n i_Mo_up_0 rfl ?_
  refine jd_iload_n i_Mo_up_1 rfl ?_
  refine jd_lshl i_Mo_up_2 ?_
  refine jd_lstore (fun x101 => [some (.ref a0), some (.long a1), none, some (.int a3), some (.long x101), none]) i_Mo_up_3 (by decide) rfl (fun _ => rfl) (fun x101 => ?_)
  refine jd_lload i_Mo_up_5 rfl ?_
  refine jd_iload_n i_Mo_up_7 rfl ?_
  refine jd_lshr i_Mo_up_8 ?_
  refine jd_lload_n i_Mo_up_9 rfl ?_
  refine jd_lcmp_eq 19 i_Mo_up_10 i_Mo_up_11 (by decide) ?_ ?_
  · exact jd_less (t_Mo_up_19) ⟨rfl, trivial⟩
  · refine jd_aload_n i_Mo_up_14 rfl ?_
    refine jd_iconst 1 i_Mo_up_15 (by decide) ?_
    refine jd_putZ F_Mo_201 P_Mo_wrapped i_Mo_up_16 (fun h102 => ?_)
    exact jd_less (t_Mo_up_19) ⟨rfl, trivial⟩
theorem c_Mo_up {h : ja_H} {a0 : Nat} {a1 : Int64} {a3 : Int32} {o : Int64 × ja_H} (e : r_Mo_up h a0 a1 a3 = some o) : ja_M (0, 0) y_Mo_up b_Mo_up 6 (some .long) [.ref a0, .long a1, .int a3] h [.long o.1] o.2 := jc_of (g := ja_gL) false _ e e_Mo_up rfl (by decide +kernel) (fun q => nomatch q) (Nat.le_of_ble_eq_true rfl) (fun _ q => nomatch q) (Nat.le_of_ble_eq_true rfl)
noncomputable def r_Mo_numbers_933 (h : ja_H) (y0 : Nat) (y8 : Int32) (y19 : Int64) (y21 : Int64) : Option (ja_H) := (jk h y0 9 (jc_V (r_Mo_give h y0 (1024 : Int32) y8 (1 : Int32) y19 y21) (fun h1 => (some h1))))
theorem t_Mo_numbers_933 {h : ja_H} {y0 : Nat} {y8 : Int32} {y19 : Int64} {y21 : Int64} : ja_D ja_gV M_Mo_numbers 933 [some (.ref y0), none, none, none, none, none, none, none, some (.int y8), none, none, none, none, none, none, none, none, none, none, some (.long y19), none, some (.long y21), none, none, none, none, none, none, none, none, none, none, none] [] h (r_Mo_numbers_933 h y0 y8 y19 y21) := by
  unfold r_Mo_numbers_933
  refine jd_aload_n i_Mo_numbers_933 rfl ?_
  refine jd_sipush 1024 i_Mo_numbers_934 (by decide) ?_
  refine jd_iload i_Mo_numbers_937 rfl ?_
  refine jd_iconst 1 i_Mo_numbers_939 (by decide) ?_
  refine jd_lload i_Mo_numbers_940 rfl ?_
  refine jd_lload i_Mo_numbers_942 rfl ?_
  refine jd_callVV G_Mo_144 in_Mo_give se_Mo_give rfl (fun _ e => c_Mo_give e) rfl ⟨by decide, by decide⟩ rfl (Nat.le_of_ble_eq_true rfl) i_Mo_numbers_944 (fun h1 => ?_)
  exact jd_return i_Mo_numbers_947 rfl
noncomputable def r_Mo_numbers_925 (h : ja_H) (y0 : Nat) (y8 : Int32) : Option (ja_H) := (jl ((0 : Int64) : Int64) (fun (x1 : Int64) => (jl ((4294967295 : Int64) : Int64) (fun (x2 : Int64) => (r_Mo_numbers_933 h y0 y8 x1 x2)))))
theorem t_Mo_numbers_925 {h : ja_H} {y0 : Nat} {y8 : Int32} : ja_D ja_gV M_Mo_numbers 925 [some (.ref y0), none, none, none, none, none, none, none, some (.int y8), none, none, none, none, none, none, none, none, none, none, none, none, none, none, none, none, none, none, none, none, none, none, none, none] [] h (r_Mo_numbers_925 h y0 y8) := by
  unfold r_Mo_numbers_925
  refine jd_lconst 0 i_Mo_numbers_925 (by decide) ?_
  refine jd_lstore (fun x1 => [some (.ref y0), none, none, none, none, none, none, none, some (.int y8), none, none, none, none, none, none, none, none, none, none, some (.long x1), none, none, none, none, none, none, none, none, none, none, none, none, none]) i_Mo_numbers_926 (by decide) rfl (fun _ => rfl) (fun x1 => ?_)
  refine jd_ldc2 i_Mo_numbers_928 K_Mo_122 ?_
  refine jd_lstore (fun x2 => [some (.ref y0), none, none, none, none, none, none, none, some (.int y8), none, none, none, none, none, none, none, none, none, none, some (.long x1), none, some (.long x2), none, none, none, none, none, none, none, none, none, none, none]) i_Mo_numbers_931 (by decide) rfl (fun _ => rfl) (fun x2 => ?_)
  exact jd_less (t_Mo_numbers_933) ⟨rfl, rfl, rfl, rfl, trivial⟩
noncomputable def r_Mo_numbers_904 (h : ja_H) (y0 : Nat) (y8 : Int32) (y17 : Int32) (y19 : Int64) (y21 : Int64) : Option (ja_H) := (if y17 = (0 : Int32) then (r_Mo_numbers_933 h y0 y8 y19 y21) else (if y19 < (0 : Int64) then (r_Mo_numbers_925 h y0 y8) else (if y21 ≤ (4294967295 : Int64) then (r_Mo_numbers_933 h y0 y8 y19 y21) else (r_Mo_numbers_925 h y0 y8))))
theorem t_Mo_numbers_904 {h : ja_H} {y0 : Nat} {y8 : Int32} {y17 : Int32} {y19 : Int64} {y21 : Int64} : ja_D ja_gV M_Mo_numbers 904 [some (.ref y0), none, none, none, none, none, none, none, some (.int y8), none, none, none, none, none, none, none, none, some (.int y17), none, some (.long y19), none, some (.long y21), none, none, none, none, none, none, none, none, none, none, none] [] h (r_Mo_numbers_904 h y0 y8 y17 y19 y21) := by
  unfold r_Mo_numbers_904
  refine jd_iload i_Mo_numbers_904 rfl ?_
  refine jd_if_eq 933 i_Mo_numbers_906 (by decide) ?_ ?_
  · exact jd_less (t_Mo_numbers_933) ⟨rfl, rfl, rfl, rfl, trivial⟩
  · refine jd_lload i_Mo_numbers_909 rfl ?_
    refine jd_lconst 0 i_Mo_numbers_911 (by decide) ?_
    refine jd_lcmp_lt 925 i_Mo_numbers_912 i_Mo_numbers_913 (by decide) ?_ ?_
    · exact jd_less (t_Mo_numbers_925) ⟨rfl, rfl, trivial⟩
    · refine jd_lload i_Mo_numbers_916 rfl ?_
      refine jd_ldc2 i_Mo_numbers_918 K_Mo_122 ?_
      refine jd_lcmp_le 933 i_Mo_numbers_921 i_Mo_numbers_922 (by decide) ?_ ?_
      · exact jd_less (t_Mo_numbers_933) ⟨rfl, rfl, rfl, rfl, trivial⟩
      · exact jd_less (t_Mo_numbers_925) ⟨rfl, rfl, trivial⟩
noncomputable def r_Mo_numbers_894 (h : ja_H) (y0 : Nat) (y8 : Int32) (y17 : Int32) : Option (ja_H) := (jl ((-9223372036854775808 : Int64) : Int64) (fun (x1 : Int64) => (jl ((9223372036854775807 : Int64) : Int64) (fun (x2 : Int64) => (r_Mo_numbers_904 h y0 y8 y17 x1 x2)))))
theorem t_Mo_numbers_894 {h : ja_H} {y0 : Nat} {y8 : Int32} {y17 : Int32} : ja_D ja_gV M_Mo_numbers 894 [some (.ref y0), none, none, none, none, none, none, none, some (.int y8), none, none, none, none, none, none, none, none, some (.int y17), none, none, none, none, none, none, none, none, none, none, none, none, none, none, none] [] h (r_Mo_numbers_894 h y0 y8 y17) := by
  unfold r_Mo_numbers_894
  refine jd_ldc2 i_Mo_numbers_894 K_Mo_207 ?_
  refine jd_lstore (fun x1 => [some (.ref y0), none, none, none, none, none, none, none, some (.int y8), none, none, none, none, none, none, none, none, some (.int y17), none, some (.long x1), none, none, none, none, none, none, none, none, none, none, none, none, none]) i_Mo_numbers_897 (by decide) rfl (fun _ => rfl) (fun x1 => ?_)
  refine jd_ldc2 i_Mo_numbers_899 K_Mo_209 ?_
  refine jd_lstore (fun x2 => [some (.ref y0), none, none, none, none, none, none, none, some (.int y8), none, none, none, none, none, none, none, none, some (.int y17), none, some (.long x1), none, some (.long x2), none, none, none, none, none, none, none, none, none, none, none]) i_Mo_numbers_902 (by decide) rfl (fun _ => rfl) (fun x2 => ?_)
  exact jd_less (t_Mo_numbers_904) ⟨rfl, rfl, rfl, rfl, rfl, trivial⟩
noncomputable def r_Mo_numbers_882 (h : ja_H) (y0 : Nat) (y8 : Int32) (y17 : Int32) (y19 : Int64) (y21 : Int64) (y24 : Int32) : Option (ja_H) := (if y24 = (0 : Int32) then (r_Mo_numbers_894 h y0 y8 y17) else (jf_I h y0 9 16 (fun v1 => (if v1 = (0 : Int32) then (r_Mo_numbers_904 h y0 y8 y17 y19 y21) else (r_Mo_numbers_894 h y0 y8 y17)))))
theorem t_Mo_numbers_882 {h : ja_H} {y0 : Nat} {y8 : Int32} {y17 : Int32} {y19 : Int64} {y21 : Int64} {y24 : Int32} : ja_D ja_gV M_Mo_numbers 882 [some (.ref y0), none, none, none, none, none, none, none, some (.int y8), none, none, none, none, none, none, none, none, some (.int y17), none, some (.long y19), none, some (.long y21), none, none, some (.int y24), none, none, none, none, none, none, none, none] [] h (r_Mo_numbers_882 h y0 y8 y17 y19 y21 y24) := by
  unfold r_Mo_numbers_882
  refine jd_iload i_Mo_numbers_882 rfl ?_
  refine jd_if_eq 894 i_Mo_numbers_884 (by decide) ?_ ?_
  · exact jd_less (t_Mo_numbers_894) ⟨rfl, rfl, rfl, trivial⟩
  · refine jd_aload_n i_Mo_numbers_887 rfl ?_
    refine jd_getI F_Mo_201 i_Mo_numbers_888 (fun v1 => ?_)
    refine jd_if_eq 904 i_Mo_numbers_891 (by decide) ?_ ?_
    · exact jd_less (t_Mo_numbers_904) ⟨rfl, rfl, rfl, rfl, rfl, trivial⟩
    · exact jd_less (t_Mo_numbers_894) ⟨rfl, rfl, rfl, trivial⟩
noncomputable def r_Mo_numbers_880 (h : ja_H) (y0 : Nat) (y8 : Int32) (y17 : Int32) (y19 : Int64) (y24 : Int32) (z0 : Int64) : Option (ja_H) := (jl (z0 : Int64) (fun (x1 : Int64) => (r_Mo_numbers_882 h y0 y8 y17 y19 x1 y24)))
theorem t_Mo_numbers_880 {h : ja_H} {y0 : Nat} {y8 : Int32} {y17 : Int32} {y19 : Int64} {y24 : Int32} {z0 : Int64} : ja_D ja_gV M_Mo_numbers 880 [some (.ref y0), none, none, none, none, none, none, none, some (.int y8), none, none, none, none, none, none, none, none, some (.int y17), none, some (.long y19), none, none, none, none, some (.int y24), none, none, none, none, none, none, none, none] [.long z0] h (r_Mo_numbers_880 h y0 y8 y17 y19 y24 z0) := by
  unfold r_Mo_numbers_880
  refine jd_lstore (fun x1 => [some (.ref y0), none, none, none, none, none, none, none, some (.int y8), none, none, none, none, none, none, none, none, some (.int y17), none, some (.long y19), none, some (.long x1), none, none, some (.int y24), none, none, none, none, none, none, none, none]) i_Mo_numbers_880 (by decide) rfl (fun _ => rfl) (fun x1 => ?_)
  exact jd_less (t_Mo_numbers_882) ⟨rfl, rfl, rfl, rfl, rfl, rfl, trivial⟩
noncomputable def r_Mo_numbers_857 (h : ja_H) (y0 : Nat) (y1 : Int32) (y8 : Int32) (y17 : Int32) (z0 : Int32) : Option (ja_H) := (jl (z0 : Int32) (fun (x1 : Int32) => (jl ((0 : Int64) : Int64) (fun (x2 : Int64) => (if x1 = (0 : Int32) then (r_Mo_numbers_880 h y0 y8 y17 x2 x1 (0 : Int64)) else (jk h y0 9 (jc_I (r_Mo_imm h y0 y1) (fun v4 h3 => (r_Mo_numbers_880 h3 y0 y8 y17 x2 x1 (((1 : Int64) <<< (Int32.toInt64 v4 &&& 63)) - (1 : Int64)))))))))))
theorem t_Mo_numbers_857 {h : ja_H} {y0 : Nat} {y1 : Int32} {y8 : Int32} {y17 : Int32} {z0 : Int32} : ja_D ja_gV M_Mo_numbers 857 [some (.ref y0), some (.int y1), none, none, none, none, none, none, some (.int y8), none, none, none, none, none, none, none, none, some (.int y17), none, none, none, none, none, none, none, none, none, none, none, none, none, none, none] [.int z0] h (r_Mo_numbers_857 h y0 y1 y8 y17 z0) := by
  unfold r_Mo_numbers_857
  refine jd_istore (fun x1 => [some (.ref y0), some (.int y1), none, none, none, none, none, none, some (.int y8), none, none, none, none, none, none, none, none, some (.int y17), none, none, none, none, none, none, some (.int x1), none, none, none, none, none, none, none, none]) i_Mo_numbers_857 (by decide) rfl (fun _ => rfl) (fun x1 => ?_)
  refine jd_lconst 0 i_Mo_numbers_859 (by decide) ?_
  refine jd_lstore (fun x2 => [some (.ref y0), some (.int y1), none, none, none, none, none, none, some (.int y8), none, none, none, none, none, none, none, none, some (.int y17), none, some (.long x2), none, none, none, none, some (.int x1), none, none, none, none, none, none, none, none]) i_Mo_numbers_860 (by decide) rfl (fun _ => rfl) (fun x2 => ?_)
  refine jd_iload i_Mo_numbers_862 rfl ?_
  refine jd_if_eq 879 i_Mo_numbers_864 (by decide) ?_ ?_
  · refine jd_lconst 0 i_Mo_numbers_879 (by decide) ?_
    exact jd_less (t_Mo_numbers_880) ⟨rfl, rfl, rfl, rfl, rfl, trivial⟩
  · refine jd_lconst 1 i_Mo_numbers_867 (by decide) ?_
    refine jd_aload_n i_Mo_numbers_868 rfl ?_
    refine jd_iload_n i_Mo_numbers_869 rfl ?_
    refine jd_callVI G_Mo_92 in_Mo_imm se_Mo_imm rfl (fun _ e => c_Mo_imm e) rfl ⟨by decide, by decide⟩ rfl (Nat.le_of_ble_eq_true rfl) i_Mo_numbers_870 (fun v4 h3 => ?_)
    refine jd_lshl i_Mo_numbers_873 ?_
    refine jd_lconst 1 i_Mo_numbers_874 (by decide) ?_
    refine jd_lsub i_Mo_numbers_875 ?_
    refine jd_goto 880 i_Mo_numbers_876 (by decide) ?_
    exact jd_less (t_Mo_numbers_880) ⟨rfl, rfl, rfl, rfl, rfl, trivial⟩
noncomputable def r_Mo_numbers_823 (h : ja_H) (y0 : Nat) (y8 : Int32) (y9 : Int64) (y11 : Int64) (y17 : Int32) (y23 : Int32) (z0 : Int32) : Option (ja_H) := (jl (z0 : Int32) (fun (x1 : Int32) => (jl ((y9 >>> (Int32.toInt64 y23 &&& 63)) : Int64) (fun (x2 : Int64) => (jl ((y11 >>> (Int32.toInt64 y23 &&& 63)) : Int64) (fun (x3 : Int64) => (r_Mo_numbers_882 h y0 y8 y17 x2 x3 x1)))))))
theorem t_Mo_numbers_823 {h : ja_H} {y0 : Nat} {y8 : Int32} {y9 : Int64} {y11 : Int64} {y17 : Int32} {y23 : Int32} {z0 : Int32} : ja_D ja_gV M_Mo_numbers 823 [some (.ref y0), none, none, none, none, none, none, none, some (.int y8), some (.long y9), none, some (.long y11), none, none, none, none, none, some (.int y17), none, none, none, none, none, some (.int y23), none, none, none, none, none, none, none, none, none] [.int z0] h (r_Mo_numbers_823 h y0 y8 y9 y11 y17 y23 z0) := by
  unfold r_Mo_numbers_823
  refine jd_istore (fun x1 => [some (.ref y0), none, none, none, none, none, none, none, some (.int y8), some (.long y9), none, some (.long y11), none, none, none, none, none, some (.int y17), none, none, none, none, none, some (.int y23), some (.int x1), none, none, none, none, none, none, none, none]) i_Mo_numbers_823 (by decide) rfl (fun _ => rfl) (fun x1 => ?_)
  refine jd_lload i_Mo_numbers_825 rfl ?_
  refine jd_iload i_Mo_numbers_827 rfl ?_
  refine jd_lshr i_Mo_numbers_829 ?_
  refine jd_lstore (fun x2 => [some (.ref y0), none, none, none, none, none, none, none, some (.int y8), some (.long y9), none, some (.long y11), none, none, none, none, none, some (.int y17), none, some (.long x2), none, none, none, some (.int y23), some (.int x1), none, none, none, none, none, none, none, none]) i_Mo_numbers_830 (by decide) rfl (fun _ => rfl) (fun x2 => ?_)
  refine jd_lload i_Mo_numbers_832 rfl ?_
  refine jd_iload i_Mo_numbers_834 rfl ?_
  refine jd_lshr i_Mo_numbers_836 ?_
  refine jd_lstore (fun x3 => [some (.ref y0), none, none, none, none, none, none, none, some (.int y8), some (.long y9), none, some (.long y11), none, none, none, none, none, some (.int y17), none, some (.long x2), none, some (.long x3), none, some (.int y23), some (.int x1), none, none, none, none, none, none, none, none]) i_Mo_numbers_837 (by decide) rfl (fun _ => rfl) (fun x3 => ?_)
  refine jd_goto 882 i_Mo_numbers_839 (by decide) ?_
  exact jd_less (t_Mo_numbers_882) ⟨rfl, rfl, rfl, rfl, rfl, rfl, trivial⟩
noncomputable def r_Mo_numbers_822 (h : ja_H) (y0 : Nat) (y8 : Int32) (y9 : Int64) (y11 : Int64) (y17 : Int32) (y23 : Int32) : Option (ja_H) := (r_Mo_numbers_823 h y0 y8 y9 y11 y17 y23 (0 : Int32))
theorem t_Mo_numbers_822 {h : ja_H} {y0 : Nat} {y8 : Int32} {y9 : Int64} {y11 : Int64} {y17 : Int32} {y23 : Int32} : ja_D ja_gV M_Mo_numbers 822 [some (.ref y0), none, none, none, none, none, none, none, some (.int y8), some (.long y9), none, some (.long y11), none, none, none, none, none, some (.int y17), none, none, none, none, none, some (.int y23), none, none, none, none, none, none, none, none, none] [] h (r_Mo_numbers_822 h y0 y8 y9 y11 y17 y23) := by
  unfold r_Mo_numbers_822
  refine jd_iconst 0 i_Mo_numbers_822 (by decide) ?_
  exact jd_less (t_Mo_numbers_823) ⟨rfl, rfl, rfl, rfl, rfl, rfl, trivial⟩
noncomputable def r_Mo_numbers_818 (h : ja_H) (y0 : Nat) (y8 : Int32) (y9 : Int64) (y11 : Int64) (y17 : Int32) (y23 : Int32) : Option (ja_H) := (r_Mo_numbers_823 h y0 y8 y9 y11 y17 y23 (1 : Int32))
theorem t_Mo_numbers_818 {h : ja_H} {y0 : Nat} {y8 : Int32} {y9 : Int64} {y11 : Int64} {y17 : Int32} {y23 : Int32} : ja_D ja_gV M_Mo_numbers 818 [some (.ref y0), none, none, none, none, none, none, none, some (.int y8), some (.long y9), none, some (.long y11), none, none, none, none, none, some (.int y17), none, none, none, none, none, some (.int y23), none, none, none, none, none, none, none, none, none] [] h (r_Mo_numbers_818 h y0 y8 y9 y11 y17 y23) := by
  unfold r_Mo_numbers_818
  refine jd_iconst 1 i_Mo_numbers_818 (by decide) ?_
  refine jd_goto 823 i_Mo_numbers_819 (by decide) ?_
  exact jd_less (t_Mo_numbers_823) ⟨rfl, rfl, rfl, rfl, rfl, rfl, trivial⟩
noncomputable def r_Mo_numbers_767 (h : ja_H) (y0 : Nat) (y8 : Int32) (y11 : Int64) (y15 : Int64) (y17 : Int32) (z0 : Int32) : Option (ja_H) := (jl (z0 : Int32) (fun (x1 : Int32) => (jl ((0 : Int64) : Int64) (fun (x2 : Int64) => (jc_L (r_Mt_min_J h y11 (y15 - (1 : Int64))) (fun v4 h3 => (jl (v4 : Int64) (fun (x5 : Int64) => (r_Mo_numbers_882 h3 y0 y8 y17 x2 x5 x1)))))))))
theorem t_Mo_numbers_767 {h : ja_H} {y0 : Nat} {y8 : Int32} {y11 : Int64} {y15 : Int64} {y17 : Int32} {z0 : Int32} : ja_D ja_gV M_Mo_numbers 767 [some (.ref y0), none, none, none, none, none, none, none, some (.int y8), none, none, some (.long y11), none, none, none, some (.long y15), none, some (.int y17), none, none, none, none, none, none, none, none, none, none, none, none, none, none, none] [.int z0] h (r_Mo_numbers_767 h y0 y8 y11 y15 y17 z0) := by
  unfold r_Mo_numbers_767
  refine jd_istore (fun x1 => [some (.ref y0), none, none, none, none, none, none, none, some (.int y8), none, none, some (.long y11), none, none, none, some (.long y15), none, some (.int y17), none, none, none, none, none, none, some (.int x1), none, none, none, none, none, none, none, none]) i_Mo_numbers_767 (by decide) rfl (fun _ => rfl) (fun x1 => ?_)
  refine jd_lconst 0 i_Mo_numbers_769 (by decide) ?_
  refine jd_lstore (fun x2 => [some (.ref y0), none, none, none, none, none, none, none, some (.int y8), none, none, some (.long y11), none, none, none, some (.long y15), none, some (.int y17), none, some (.long x2), none, none, none, none, some (.int x1), none, none, none, none, none, none, none, none]) i_Mo_numbers_770 (by decide) rfl (fun _ => rfl) (fun x2 => ?_)
  refine jd_lload i_Mo_numbers_772 rfl ?_
  refine jd_lload i_Mo_numbers_774 rfl ?_
  refine jd_lconst 1 i_Mo_numbers_776 (by decide) ?_
  refine jd_lsub i_Mo_numbers_777 ?_
  refine jd_callSL G_Mo_162 sc_Mt_min_J (fun _ e => c_Mt_min_J e) rfl ⟨by decide, by decide⟩ rfl (Nat.le_of_ble_eq_true rfl) i_Mo_numbers_778 (fun v4 h3 => ?_)
  refine jd_lstore (fun x5 => [some (.ref y0), none, none, none, none, none, none, none, some (.int y8), none, none, some (.long y11), none, none, none, some (.long y15), none, some (.int y17), none, some (.long x2), none, some (.long x5), none, none, some (.int x1), none, none, none, none, none, none, none, none]) i_Mo_numbers_781 (by decide) rfl (fun _ => rfl) (fun x5 => ?_)
  refine jd_goto 882 i_Mo_numbers_783 (by decide) ?_
  exact jd_less (t_Mo_numbers_882) ⟨rfl, rfl, rfl, rfl, rfl, rfl, trivial⟩
noncomputable def r_Mo_numbers_766 (h : ja_H) (y0 : Nat) (y8 : Int32) (y11 : Int64) (y15 : Int64) (y17 : Int32) : Option (ja_H) := (r_Mo_numbers_767 h y0 y8 y11 y15 y17 (0 : Int32))
theorem t_Mo_numbers_766 {h : ja_H} {y0 : Nat} {y8 : Int32} {y11 : Int64} {y15 : Int64} {y17 : Int32} : ja_D ja_gV M_Mo_numbers 766 [some (.ref y0), none, none, none, none, none, none, none, some (.int y8), none, none, some (.long y11), none, none, none, some (.long y15), none, some (.int y17), none, none, none, none, none, none, none, none, none, none, none, none, none, none, none] [] h (r_Mo_numbers_766 h y0 y8 y11 y15 y17) := by
  unfold r_Mo_numbers_766
  refine jd_iconst 0 i_Mo_numbers_766 (by decide) ?_
  exact jd_less (t_Mo_numbers_767) ⟨rfl, rfl, rfl, rfl, rfl, trivial⟩
noncomputable def r_Mo_numbers_708 (h : ja_H) (y0 : Nat) (y8 : Int32) (y9 : Int64) (y11 : Int64) (y17 : Int32) (y23 : Int32) (z0 : Int32) : Option (ja_H) := (jl (z0 : Int32) (fun (x1 : Int32) => (jl ((y9 >>> (Int32.toInt64 y23 &&& 63)) : Int64) (fun (x2 : Int64) => (jl ((y11 >>> (Int32.toInt64 y23 &&& 63)) : Int64) (fun (x3 : Int64) => (r_Mo_numbers_882 h y0 y8 y17 x2 x3 x1)))))))
theorem t_Mo_numbers_708 {h : ja_H} {y0 : Nat} {y8 : Int32} {y9 : Int64} {y11 : Int64} {y17 : Int32} {y23 : Int32} {z0 : Int32} : ja_D ja_gV M_Mo_numbers 708 [some (.ref y0), none, none, none, none, none, none, none, some (.int y8), some (.long y9), none, some (.long y11), none, none, none, none, none, some (.int y17), none, none, none, none, none, some (.int y23), none, none, none, none, none, none, none, none, none] [.int z0] h (r_Mo_numbers_708 h y0 y8 y9 y11 y17 y23 z0) := by
  unfold r_Mo_numbers_708
  refine jd_istore (fun x1 => [some (.ref y0), none, none, none, none, none, none, none, some (.int y8), some (.long y9), none, some (.long y11), none, none, none, none, none, some (.int y17), none, none, none, none, none, some (.int y23), some (.int x1), none, none, none, none, none, none, none, none]) i_Mo_numbers_708 (by decide) rfl (fun _ => rfl) (fun x1 => ?_)
  refine jd_lload i_Mo_numbers_710 rfl ?_
  refine jd_iload i_Mo_numbers_712 rfl ?_
  refine jd_lshr i_Mo_numbers_714 ?_
  refine jd_lstore (fun x2 => [some (.ref y0), none, none, none, none, none, none, none, some (.int y8), some (.long y9), none, some (.long y11), none, none, none, none, none, some (.int y17), none, some (.long x2), none, none, none, some (.int y23), some (.int x1), none, none, none, none, none, none, none, none]) i_Mo_numbers_715 (by decide) rfl (fun _ => rfl) (fun x2 => ?_)
  refine jd_lload i_Mo_numbers_717 rfl ?_
  refine jd_iload i_Mo_numbers_719 rfl ?_
  refine jd_lshr i_Mo_numbers_721 ?_
  refine jd_lstore (fun x3 => [some (.ref y0), none, none, none, none, none, none, none, some (.int y8), some (.long y9), none, some (.long y11), none, none, none, none, none, some (.int y17), none, some (.long x2), none, some (.long x3), none, some (.int y23), some (.int x1), none, none, none, none, none, none, none, none]) i_Mo_numbers_722 (by decide) rfl (fun _ => rfl) (fun x3 => ?_)
  refine jd_goto 882 i_Mo_numbers_724 (by decide) ?_
  exact jd_less (t_Mo_numbers_882) ⟨rfl, rfl, rfl, rfl, rfl, rfl, trivial⟩
noncomputable def r_Mo_numbers_707 (h : ja_H) (y0 : Nat) (y8 : Int32) (y9 : Int64) (y11 : Int64) (y17 : Int32) (y23 : Int32) : Option (ja_H) := (r_Mo_numbers_708 h y0 y8 y9 y11 y17 y23 (0 : Int32))
theorem t_Mo_numbers_707 {h : ja_H} {y0 : Nat} {y8 : Int32} {y9 : Int64} {y11 : Int64} {y17 : Int32} {y23 : Int32} : ja_D ja_gV M_Mo_numbers 707 [some (.ref y0), none, none, none, none, none, none, none, some (.int y8), some (.long y9), none, some (.long y11), none, none, none, none, none, some (.int y17), none, none, none, none, none, some (.int y23), none, none, none, none, none, none, none, none, none] [] h (r_Mo_numbers_707 h y0 y8 y9 y11 y17 y23) := by
  unfold r_Mo_numbers_707
  refine jd_iconst 0 i_Mo_numbers_707 (by decide) ?_
  exact jd_less (t_Mo_numbers_708) ⟨rfl, rfl, rfl, rfl, rfl, rfl, trivial⟩
noncomputable def r_Mo_numbers_663 (h : ja_H) (y0 : Nat) (y8 : Int32) (y9 : Int64) (y11 : Int64) (y17 : Int32) (y23 : Int32) (z0 : Int32) : Option (ja_H) := (jl (z0 : Int32) (fun (x1 : Int32) => (jk h y0 9 (jc_L (r_Mo_up h y0 y9 y23) (fun v3 h2 => (jl (v3 : Int64) (fun (x4 : Int64) => (jk h2 y0 9 (jc_L (r_Mo_up h2 y0 y11 y23) (fun v6 h5 => (jl (v6 : Int64) (fun (x7 : Int64) => (r_Mo_numbers_882 h5 y0 y8 y17 x4 x7 x1)))))))))))))
theorem t_Mo_numbers_663 {h : ja_H} {y0 : Nat} {y8 : Int32} {y9 : Int64} {y11 : Int64} {y17 : Int32} {y23 : Int32} {z0 : Int32} : ja_D ja_gV M_Mo_numbers 663 [some (.ref y0), none, none, none, none, none, none, none, some (.int y8), some (.long y9), none, some (.long y11), none, none, none, none, none, some (.int y17), none, none, none, none, none, some (.int y23), none, none, none, none, none, none, none, none, none] [.int z0] h (r_Mo_numbers_663 h y0 y8 y9 y11 y17 y23 z0) := by
  unfold r_Mo_numbers_663
  refine jd_istore (fun x1 => [some (.ref y0), none, none, none, none, none, none, none, some (.int y8), some (.long y9), none, some (.long y11), none, none, none, none, none, some (.int y17), none, none, none, none, none, some (.int y23), some (.int x1), none, none, none, none, none, none, none, none]) i_Mo_numbers_663 (by decide) rfl (fun _ => rfl) (fun x1 => ?_)
  refine jd_aload_n i_Mo_numbers_665 rfl ?_
  refine jd_lload i_Mo_numbers_666 rfl ?_
  refine jd_iload i_Mo_numbers_668 rfl ?_
  refine jd_callVL G_Mo_224 in_Mo_up se_Mo_up rfl (fun _ e => c_Mo_up e) rfl ⟨by decide, by decide⟩ rfl (Nat.le_of_ble_eq_true rfl) i_Mo_numbers_670 (fun v3 h2 => ?_)
  refine jd_lstore (fun x4 => [some (.ref y0), none, none, none, none, none, none, none, some (.int y8), some (.long y9), none, some (.long y11), none, none, none, none, none, some (.int y17), none, some (.long x4), none, none, none, some (.int y23), some (.int x1), none, none, none, none, none, none, none, none]) i_Mo_numbers_673 (by decide) rfl (fun _ => rfl) (fun x4 => ?_)
  refine jd_aload_n i_Mo_numbers_675 rfl ?_
  refine jd_lload i_Mo_numbers_676 rfl ?_
  refine jd_iload i_Mo_numbers_678 rfl ?_
  refine jd_callVL G_Mo_224 in_Mo_up se_Mo_up rfl (fun _ e => c_Mo_up e) rfl ⟨by decide, by decide⟩ rfl (Nat.le_of_ble_eq_true rfl) i_Mo_numbers_680 (fun v6 h5 => ?_)
  refine jd_lstore (fun x7 => [some (.ref y0), none, none, none, none, none, none, none, some (.int y8), some (.long y9), none, some (.long y11), none, none, none, none, none, some (.int y17), none, some (.long x4), none, some (.long x7), none, some (.int y23), some (.int x1), none, none, none, none, none, none, none, none]) i_Mo_numbers_683 (by decide) rfl (fun _ => rfl) (fun x7 => ?_)
  refine jd_goto 882 i_Mo_numbers_685 (by decide) ?_
  exact jd_less (t_Mo_numbers_882) ⟨rfl, rfl, rfl, rfl, rfl, rfl, trivial⟩
noncomputable def r_Mo_numbers_645 (h : ja_H) (y0 : Nat) (y8 : Int32) (y17 : Int32) (y19 : Int64) (y24 : Int32) (z0 : Int64) : Option (ja_H) := (jl (z0 : Int64) (fun (x1 : Int64) => (r_Mo_numbers_882 h y0 y8 y17 y19 x1 y24)))
theorem t_Mo_numbers_645 {h : ja_H} {y0 : Nat} {y8 : Int32} {y17 : Int32} {y19 : Int64} {y24 : Int32} {z0 : Int64} : ja_D ja_gV M_Mo_numbers 645 [some (.ref y0), none, none, none, none, none, none, none, some (.int y8), none, none, none, none, none, none, none, none, some (.int y17), none, some (.long y19), none, none, none, none, some (.int y24), none, none, none, none, none, none, none, none] [.long z0] h (r_Mo_numbers_645 h y0 y8 y17 y19 y24 z0) := by
  unfold r_Mo_numbers_645
  refine jd_lstore (fun x1 => [some (.ref y0), none, none, none, none, none, none, none, some (.int y8), none, none, none, none, none, none, none, none, some (.int y17), none, some (.long y19), none, some (.long x1), none, none, some (.int y24), none, none, none, none, none, none, none, none]) i_Mo_numbers_645 (by decide) rfl (fun _ => rfl) (fun x1 => ?_)
  refine jd_goto 882 i_Mo_numbers_647 (by decide) ?_
  exact jd_less (t_Mo_numbers_882) ⟨rfl, rfl, rfl, rfl, rfl, rfl, trivial⟩
noncomputable def r_Mo_numbers_609 (h : ja_H) (y0 : Nat) (y8 : Int32) (y9 : Int64) (y11 : Int64) (y13 : Int64) (y15 : Int64) (y17 : Int32) (z0 : Int32) : Option (ja_H) := (jl (z0 : Int32) (fun (x1 : Int32) => (jl ((0 : Int64) : Int64) (fun (x2 : Int64) => (if (0 : Int64) ≤ y9 then (if (0 : Int64) ≤ y13 then (jc_L (r_Mt_min_J h y11 y15) (fun v4 h3 => (r_Mo_numbers_645 h3 y0 y8 y17 x2 x1 v4))) else (r_Mo_numbers_645 h y0 y8 y17 x2 x1 y11)) else (r_Mo_numbers_645 h y0 y8 y17 x2 x1 y15))))))
theorem t_Mo_numbers_609 {h : ja_H} {y0 : Nat} {y8 : Int32} {y9 : Int64} {y11 : Int64} {y13 : Int64} {y15 : Int64} {y17 : Int32} {z0 : Int32} : ja_D ja_gV M_Mo_numbers 609 [some (.ref y0), none, none, none, none, none, none, none, some (.int y8), some (.long y9), none, some (.long y11), none, some (.long y13), none, some (.long y15), none, some (.int y17), none, none, none, none, none, none, none, none, none, none, none, none, none, none, none] [.int z0] h (r_Mo_numbers_609 h y0 y8 y9 y11 y13 y15 y17 z0) := by
  unfold r_Mo_numbers_609
  refine jd_istore (fun x1 => [some (.ref y0), none, none, none, none, none, none, none, some (.int y8), some (.long y9), none, some (.long y11), none, some (.long y13), none, some (.long y15), none, some (.int y17), none, none, none, none, none, none, some (.int x1), none, none, none, none, none, none, none, none]) i_Mo_numbers_609 (by decide) rfl (fun _ => rfl) (fun x1 => ?_)
  refine jd_lconst 0 i_Mo_numbers_611 (by decide) ?_
  refine jd_lstore (fun x2 => [some (.ref y0), none, none, none, none, none, none, none, some (.int y8), some (.long y9), none, some (.long y11), none, some (.long y13), none, some (.long y15), none, some (.int y17), none, some (.long x2), none, none, none, none, some (.int x1), none, none, none, none, none, none, none, none]) i_Mo_numbers_612 (by decide) rfl (fun _ => rfl) (fun x2 => ?_)
  refine jd_lload i_Mo_numbers_614 rfl ?_
  refine jd_lconst 0 i_Mo_numbers_616 (by decide) ?_
  refine jd_lcmp_ge 626 i_Mo_numbers_617 i_Mo_numbers_618 (by decide) ?_ ?_
  · refine jd_lload i_Mo_numbers_626 rfl ?_
    refine jd_lconst 0 i_Mo_numbers_628 (by decide) ?_
    refine jd_lcmp_ge 638 i_Mo_numbers_629 i_Mo_numbers_630 (by decide) ?_ ?_
    · refine jd_lload i_Mo_numbers_638 rfl ?_
      refine jd_lload i_Mo_numbers_640 rfl ?_
      refine jd_callSL G_Mo_162 sc_Mt_min_J (fun _ e => c_Mt_min_J e) rfl ⟨by decide, by decide⟩ rfl (Nat.le_of_ble_eq_true rfl) i_Mo_numbers_642 (fun v4 h3 => ?_)
      exact jd_less (t_Mo_numbers_645) ⟨rfl, rfl, rfl, rfl, rfl, trivial⟩
    · refine jd_lload i_Mo_numbers_633 rfl ?_
      refine jd_goto 645 i_Mo_numbers_635 (by decide) ?_
      exact jd_less (t_Mo_numbers_645) ⟨rfl, rfl, rfl, rfl, rfl, trivial⟩
  · refine jd_lload i_Mo_numbers_621 rfl ?_
    refine jd_goto 645 i_Mo_numbers_623 (by decide) ?_
    exact jd_less (t_Mo_numbers_645) ⟨rfl, rfl, rfl, rfl, rfl, trivial⟩
noncomputable def r_Mo_numbers_604 (h : ja_H) (y0 : Nat) (y8 : Int32) (y9 : Int64) (y11 : Int64) (y13 : Int64) (y15 : Int64) (y17 : Int32) : Option (ja_H) := (r_Mo_numbers_609 h y0 y8 y9 y11 y13 y15 y17 (1 : Int32))
theorem t_Mo_numbers_604 {h : ja_H} {y0 : Nat} {y8 : Int32} {y9 : Int64} {y11 : Int64} {y13 : Int64} {y15 : Int64} {y17 : Int32} : ja_D ja_gV M_Mo_numbers 604 [some (.ref y0), none, none, none, none, none, none, none, some (.int y8), some (.long y9), none, some (.long y11), none, some (.long y13), none, some (.long y15), none, some (.int y17), none, none, none, none, none, none, none, none, none, none, none, none, none, none, none] [] h (r_Mo_numbers_604 h y0 y8 y9 y11 y13 y15 y17) := by
  unfold r_Mo_numbers_604
  refine jd_iconst 1 i_Mo_numbers_604 (by decide) ?_
  refine jd_goto 609 i_Mo_numbers_605 (by decide) ?_
  exact jd_less (t_Mo_numbers_609) ⟨rfl, rfl, rfl, rfl, rfl, rfl, rfl, trivial⟩
noncomputable def q_Mo_numbers_566 (C566 : ja_H → Nat → Int32 → Int32 → Int64 → Int64 → Int32 → Int64 → Option (ja_H)) (h : ja_H) (y0 : Nat) (y8 : Int32) (y17 : Int32) (y19 : Int64) (y21 : Int64) (y24 : Int32) (y25 : Int64) : Option (ja_H) := (if y24 = (0 : Int32) then (r_Mo_numbers_882 h y0 y8 y17 y19 y21 y24) else (if y25 ≤ y21 then (r_Mo_numbers_882 h y0 y8 y17 y19 y21 y24) else (jl (((y21 <<< (Int32.toInt64 (1 : Int32) &&& 63)) ||| (1 : Int64)) : Int64) (fun (x1 : Int64) => (C566 h y0 y8 y17 y19 x1 y24 y25)))))
theorem t_Mo_numbers_566 {C566 : ja_H → Nat → Int32 → Int32 → Int64 → Int64 → Int32 → Int64 → Option (ja_H)} (k566 : ∀ (h : ja_H) (y0 : Nat) (y8 : Int32) (y17 : Int32) (y19 : Int64) (y21 : Int64) (y24 : Int32) (y25 : Int64), ja_D ja_gV M_Mo_numbers 566 [some (.ref y0), none, none, none, none, none, none, none, some (.int y8), none, none, none, none, none, none, none, none, some (.int y17), none, some (.long y19), none, some (.long y21), none, none, some (.int y24), some (.long y25), none, none, none, none, none, none, none] [] h (C566 h y0 y8 y17 y19 y21 y24 y25)) {h : ja_H} {y0 : Nat} {y8 : Int32} {y17 : Int32} {y19 : Int64} {y21 : Int64} {y24 : Int32} {y25 : Int64} : ja_D ja_gV M_Mo_numbers 566 [some (.ref y0), none, none, none, none, none, none, none, some (.int y8), none, none, none, none, none, none, none, none, some (.int y17), none, some (.long y19), none, some (.long y21), none, none, some (.int y24), some (.long y25), none, none, none, none, none, none, none] [] h (q_Mo_numbers_566 C566 h y0 y8 y17 y19 y21 y24 y25) := by
  unfold q_Mo_numbers_566
  refine jd_iload i_Mo_numbers_566 rfl ?_
  refine jd_if_eq 882 i_Mo_numbers_568 (by decide) ?_ ?_
  · exact jd_less (t_Mo_numbers_882) ⟨rfl, rfl, rfl, rfl, rfl, rfl, trivial⟩
  · refine jd_lload i_Mo_numbers_571 rfl ?_
    refine jd_lload i_Mo_numbers_573 rfl ?_
    refine jd_lcmp_ge 882 i_Mo_numbers_575 i_Mo_numbers_576 (by decide) ?_ ?_
    · exact jd_less (t_Mo_numbers_882) ⟨rfl, rfl, rfl, rfl, rfl, rfl, trivial⟩
    · refine jd_lload i_Mo_numbers_579 rfl ?_
      refine jd_iconst 1 i_Mo_numbers_581 (by decide) ?_
      refine jd_lshl i_Mo_numbers_582 ?_
      refine jd_lconst 1 i_Mo_numbers_583 (by decide) ?_
      refine jd_lor i_Mo_numbers_584 ?_
      refine jd_lstore (fun x1 => [some (.ref y0), none, none, none, none, none, none, none, some (.int y8), none, none, none, none, none, none, none, none, some (.int y17), none, some (.long y19), none, some (.long x1), none, none, some (.int y24), some (.long y25), none, none, none, none, none, none, none]) i_Mo_numbers_585 (by decide) rfl (fun _ => rfl) (fun x1 => ?_)
      refine jd_goto 566 i_Mo_numbers_587 (by decide) ?_
      exact jd_less (k566 _ _ _ _ _ _ _ _) ⟨rfl, rfl, rfl, rfl, rfl, rfl, rfl, trivial⟩
noncomputable def r_Mo_numbers_566 : Nat → ja_H → Nat → Int32 → Int32 → Int64 → Int64 → Int32 → Int64 → Option (ja_H) := ja_lo (q_Mo_numbers_566) (fun _ _ _ _ _ _ _ _ => none)
theorem s_Mo_numbers_566 : ∀ (n : Nat) (h : ja_H) (y0 : Nat) (y8 : Int32) (y17 : Int32) (y19 : Int64) (y21 : Int64) (y24 : Int32) (y25 : Int64), ja_D ja_gV M_Mo_numbers 566 [some (.ref y0), none, none, none, none, none, none, none, some (.int y8), none, none, none, none, none, none, none, none, some (.int y17), none, some (.long y19), none, some (.long y21), none, none, some (.int y24), some (.long y25), none, none, none, none, none, none, none] [] h (r_Mo_numbers_566 n h y0 y8 y17 y19 y21 y24 y25) := by
  intro n
  induction n with
  | zero => intro h y0 y8 y17 y19 y21 y24 y25 o e; cases e
  | succ n ih => intro h y0 y8 y17 y19 y21 y24 y25; exact t_Mo_numbers_566 ih
noncomputable def r_Mo_numbers_549 (h : ja_H) (y0 : Nat) (y8 : Int32) (y11 : Int64) (y15 : Int64) (y17 : Int32) (z0 : Int32) : Option (ja_H) := (jl (z0 : Int32) (fun (x1 : Int32) => (jl ((0 : Int64) : Int64) (fun (x2 : Int64) => (jl ((0 : Int64) : Int64) (fun (x3 : Int64) => (jc_L (r_Mt_max_J h y11 y15) (fun v5 h4 => (jl (v5 : Int64) (fun (x6 : Int64) => (r_Mo_numbers_566 ja_fu h4 y0 y8 y17 x2 x3 x1 x6)))))))))))
theorem t_Mo_numbers_549 {h : ja_H} {y0 : Nat} {y8 : Int32} {y11 : Int64} {y15 : Int64} {y17 : Int32} {z0 : Int32} : ja_D ja_gV M_Mo_numbers 549 [some (.ref y0), none, none, none, none, none, none, none, some (.int y8), none, none, some (.long y11), none, none, none, some (.long y15), none, some (.int y17), none, none, none, none, none, none, none, none, none, none, none, none, none, none, none] [.int z0] h (r_Mo_numbers_549 h y0 y8 y11 y15 y17 z0) := by
  unfold r_Mo_numbers_549
  refine jd_istore (fun x1 => [some (.ref y0), none, none, none, none, none, none, none, some (.int y8), none, none, some (.long y11), none, none, none, some (.long y15), none, some (.int y17), none, none, none, none, none, none, some (.int x1), none, none, none, none, none, none, none, none]) i_Mo_numbers_549 (by decide) rfl (fun _ => rfl) (fun x1 => ?_)
  refine jd_lconst 0 i_Mo_numbers_551 (by decide) ?_
  refine jd_lstore (fun x2 => [some (.ref y0), none, none, none, none, none, none, none, some (.int y8), none, none, some (.long y11), none, none, none, some (.long y15), none, some (.int y17), none, some (.long x2), none, none, none, none, some (.int x1), none, none, none, none, none, none, none, none]) i_Mo_numbers_552 (by decide) rfl (fun _ => rfl) (fun x2 => ?_)
  refine jd_lconst 0 i_Mo_numbers_554 (by decide) ?_
  refine jd_lstore (fun x3 => [some (.ref y0), none, none, none, none, none, none, none, some (.int y8), none, none, some (.long y11), none, none, none, some (.long y15), none, some (.int y17), none, some (.long x2), none, some (.long x3), none, none, some (.int x1), none, none, none, none, none, none, none, none]) i_Mo_numbers_555 (by decide) rfl (fun _ => rfl) (fun x3 => ?_)
  refine jd_lload i_Mo_numbers_557 rfl ?_
  refine jd_lload i_Mo_numbers_559 rfl ?_
  refine jd_callSL G_Mo_168 sc_Mt_max_J (fun _ e => c_Mt_max_J e) rfl ⟨by decide, by decide⟩ rfl (Nat.le_of_ble_eq_true rfl) i_Mo_numbers_561 (fun v5 h4 => ?_)
  refine jd_lstore (fun x6 => [some (.ref y0), none, none, none, none, none, none, none, some (.int y8), none, none, some (.long y11), none, none, none, some (.long y15), none, some (.int y17), none, some (.long x2), none, some (.long x3), none, none, some (.int x1), some (.long x6), none, none, none, none, none, none, none]) i_Mo_numbers_564 (by decide) rfl (fun _ => rfl) (fun x6 => ?_)
  exact jd_less (s_Mo_numbers_566 ja_fu _ _ _ _ _ _ _ _) ⟨rfl, rfl, rfl, rfl, rfl, rfl, rfl, trivial⟩
noncomputable def r_Mo_numbers_548 (h : ja_H) (y0 : Nat) (y8 : Int32) (y11 : Int64) (y15 : Int64) (y17 : Int32) : Option (ja_H) := (r_Mo_numbers_549 h y0 y8 y11 y15 y17 (0 : Int32))
theorem t_Mo_numbers_548 {h : ja_H} {y0 : Nat} {y8 : Int32} {y11 : Int64} {y15 : Int64} {y17 : Int32} : ja_D ja_gV M_Mo_numbers 548 [some (.ref y0), none, none, none, none, none, none, none, some (.int y8), none, none, some (.long y11), none, none, none, some (.long y15), none, some (.int y17), none, none, none, none, none, none, none, none, none, none, none, none, none, none, none] [] h (r_Mo_numbers_548 h y0 y8 y11 y15 y17) := by
  unfold r_Mo_numbers_548
  refine jd_iconst 0 i_Mo_numbers_548 (by decide) ?_
  exact jd_less (t_Mo_numbers_549) ⟨rfl, rfl, rfl, rfl, rfl, trivial⟩
noncomputable def r_Mo_numbers_530 (h : ja_H) (y0 : Nat) (y8 : Int32) (y9 : Int64) (y11 : Int64) (y13 : Int64) (y15 : Int64) (y17 : Int32) : Option (ja_H) := (if y9 < (0 : Int64) then (r_Mo_numbers_548 h y0 y8 y11 y15 y17) else (if y13 < (0 : Int64) then (r_Mo_numbers_548 h y0 y8 y11 y15 y17) else (r_Mo_numbers_549 h y0 y8 y11 y15 y17 (1 : Int32))))
theorem t_Mo_numbers_530 {h : ja_H} {y0 : Nat} {y8 : Int32} {y9 : Int64} {y11 : Int64} {y13 : Int64} {y15 : Int64} {y17 : Int32} : ja_D ja_gV M_Mo_numbers 530 [some (.ref y0), none, none, none, none, none, none, none, some (.int y8), some (.long y9), none, some (.long y11), none, some (.long y13), none, some (.long y15), none, some (.int y17), none, none, none, none, none, none, none, none, none, none, none, none, none, none, none] [] h (r_Mo_numbers_530 h y0 y8 y9 y11 y13 y15 y17) := by
  unfold r_Mo_numbers_530
  refine jd_lload i_Mo_numbers_530 rfl ?_
  refine jd_lconst 0 i_Mo_numbers_532 (by decide) ?_
  refine jd_lcmp_lt 548 i_Mo_numbers_533 i_Mo_numbers_534 (by decide) ?_ ?_
  · exact jd_less (t_Mo_numbers_548) ⟨rfl, rfl, rfl, rfl, rfl, trivial⟩
  · refine jd_lload i_Mo_numbers_537 rfl ?_
    refine jd_lconst 0 i_Mo_numbers_539 (by decide) ?_
    refine jd_lcmp_lt 548 i_Mo_numbers_540 i_Mo_numbers_541 (by decide) ?_ ?_
    · exact jd_less (t_Mo_numbers_548) ⟨rfl, rfl, rfl, rfl, rfl, trivial⟩
    · refine jd_iconst 1 i_Mo_numbers_544 (by decide) ?_
      refine jd_goto 549 i_Mo_numbers_545 (by decide) ?_
      exact jd_less (t_Mo_numbers_549) ⟨rfl, rfl, rfl, rfl, rfl, trivial⟩
noncomputable def r_Mo_numbers_506 (h : ja_H) (y0 : Nat) (y8 : Int32) (y9 : Int64) (y11 : Int64) (y13 : Int64) (y15 : Int64) (y17 : Int32) (y19 : Int64) (y21 : Int64) (z0 : Int32) : Option (ja_H) := (jl (z0 : Int32) (fun (x1 : Int32) => (if x1 = (0 : Int32) then (r_Mo_numbers_882 h y0 y8 y17 y19 y21 x1) else (jz_L y15 (jl ((y9 / y15) : Int64) (fun (x2 : Int64) => (jz_L y13 (jl ((y11 / y13) : Int64) (fun (x3 : Int64) => (r_Mo_numbers_882 h y0 y8 y17 x2 x3 x1))))))))))
theorem t_Mo_numbers_506 {h : ja_H} {y0 : Nat} {y8 : Int32} {y9 : Int64} {y11 : Int64} {y13 : Int64} {y15 : Int64} {y17 : Int32} {y19 : Int64} {y21 : Int64} {z0 : Int32} : ja_D ja_gV M_Mo_numbers 506 [some (.ref y0), none, none, none, none, none, none, none, some (.int y8), some (.long y9), none, some (.long y11), none, some (.long y13), none, some (.long y15), none, some (.int y17), none, some (.long y19), none, some (.long y21), none, none, none, none, none, none, none, none, none, none, none] [.int z0] h (r_Mo_numbers_506 h y0 y8 y9 y11 y13 y15 y17 y19 y21 z0) := by
  unfold r_Mo_numbers_506
  refine jd_istore (fun x1 => [some (.ref y0), none, none, none, none, none, none, none, some (.int y8), some (.long y9), none, some (.long y11), none, some (.long y13), none, some (.long y15), none, some (.int y17), none, some (.long y19), none, some (.long y21), none, none, some (.int x1), none, none, none, none, none, none, none, none]) i_Mo_numbers_506 (by decide) rfl (fun _ => rfl) (fun x1 => ?_)
  refine jd_iload i_Mo_numbers_508 rfl ?_
  refine jd_if_eq 882 i_Mo_numbers_510 (by decide) ?_ ?_
  · exact jd_less (t_Mo_numbers_882) ⟨rfl, rfl, rfl, rfl, rfl, rfl, trivial⟩
  · refine jd_lload i_Mo_numbers_513 rfl ?_
    refine jd_lload i_Mo_numbers_515 rfl ?_
    refine jd_ldiv i_Mo_numbers_517 ?_
    refine jd_lstore (fun x2 => [some (.ref y0), none, none, none, none, none, none, none, some (.int y8), some (.long y9), none, some (.long y11), none, some (.long y13), none, some (.long y15), none, some (.int y17), none, some (.long x2), none, some (.long y21), none, none, some (.int x1), none, none, none, none, none, none, none, none]) i_Mo_numbers_518 (by decide) rfl (fun _ => rfl) (fun x2 => ?_)
    refine jd_lload i_Mo_numbers_520 rfl ?_
    refine jd_lload i_Mo_numbers_522 rfl ?_
    refine jd_ldiv i_Mo_numbers_524 ?_
    refine jd_lstore (fun x3 => [some (.ref y0), none, none, none, none, none, none, none, some (.int y8), some (.long y9), none, some (.long y11), none, some (.long y13), none, some (.long y15), none, some (.int y17), none, some (.long x2), none, some (.long x3), none, none, some (.int x1), none, none, none, none, none, none, none, none]) i_Mo_numbers_525 (by decide) rfl (fun _ => rfl) (fun x3 => ?_)
    refine jd_goto 882 i_Mo_numbers_527 (by decide) ?_
    exact jd_less (t_Mo_numbers_882) ⟨rfl, rfl, rfl, rfl, rfl, rfl, trivial⟩
noncomputable def r_Mo_numbers_505 (h : ja_H) (y0 : Nat) (y8 : Int32) (y9 : Int64) (y11 : Int64) (y13 : Int64) (y15 : Int64) (y17 : Int32) (y19 : Int64) (y21 : Int64) : Option (ja_H) := (r_Mo_numbers_506 h y0 y8 y9 y11 y13 y15 y17 y19 y21 (0 : Int32))
theorem t_Mo_numbers_505 {h : ja_H} {y0 : Nat} {y8 : Int32} {y9 : Int64} {y11 : Int64} {y13 : Int64} {y15 : Int64} {y17 : Int32} {y19 : Int64} {y21 : Int64} : ja_D ja_gV M_Mo_numbers 505 [some (.ref y0), none, none, none, none, none, none, none, some (.int y8), some (.long y9), none, some (.long y11), none, some (.long y13), none, some (.long y15), none, some (.int y17), none, some (.long y19), none, some (.long y21), none, none, none, none, none, none, none, none, none, none, none] [] h (r_Mo_numbers_505 h y0 y8 y9 y11 y13 y15 y17 y19 y21) := by
  unfold r_Mo_numbers_505
  refine jd_iconst 0 i_Mo_numbers_505 (by decide) ?_
  exact jd_less (t_Mo_numbers_506) ⟨rfl, rfl, rfl, rfl, rfl, rfl, rfl, rfl, rfl, trivial⟩
noncomputable def r_Mo_numbers_283 (h : ja_H) (y0 : Nat) (y1 : Int32) (y2 : Int32) (y3 : Int32) (y8 : Int32) (y9 : Int64) (y11 : Int64) (y13 : Int64) (y15 : Int64) (y17 : Int32) (y19 : Int64) (y21 : Int64) (z0 : Int32) (z1 : Int64) : Option (ja_H) := (jl ((Int64.toInt32 (z1 &&& (Int32.toInt64 z0))) : Int32) (fun (x1 : Int32) => (jl ((1 : Int32) : Int32) (fun (x2 : Int32) => (jsw y2 [0, 1, 2, 3, 4, 5, 6, 7, 8, 9, 10, 11, 12] [(jk h y0 9 (jc_L (r_Mo_plus h y0 y9 y13) (fun v6 h5 => (jl (v6 : Int64) (fun (x7 : Int64) => (jk h5 y0 9 (jc_L (r_Mo_plus h5 y0 y11 y15) (fun v9 h8 => (jl (v9 : Int64) (fun (x10 : Int64) => (r_Mo_numbers_882 h8 y0 y8 y17 x7 x10 x2))))))))))), (jk h y0 9 (jc_L (r_Mo_minus h y0 y9 y15) (fun v12 h11 => (jl (v12 : Int64) (fun (x13 : Int64) => (jk h11 y0 9 (jc_L (r_Mo_minus h11 y0 y11 y13) (fun v15 h14 => (jl (v15 : Int64) (fun (x16 : Int64) => (r_Mo_numbers_882 h14 y0 y8 y17 x13 x16 x2))))))))))), (jk h y0 9 (jc_L (r_Mo_times h y0 y9 y13) (fun v18 h17 => (jl (v18 : Int64) (fun (x19 : Int64) => (jk h17 y0 9 (jc_L (r_Mo_times h17 y0 y9 y15) (fun v21 h20 => (jl (v21 : Int64) (fun (x22 : Int64) => (jk h20 y0 9 (jc_L (r_Mo_times h20 y0 y11 y13) (fun v24 h23 => (jl (v24 : Int64) (fun (x25 : Int64) => (jk h23 y0 9 (jc_L (r_Mo_times h23 y0 y11 y15) (fun v27 h26 => (jl (v27 : Int64) (fun (x28 : Int64) => (jc_L (r_Mt_min_J h26 x19 x22) (fun v30 h29 => (jc_L (r_Mt_min_J h29 x25 x28) (fun v32 h31 => (jc_L (r_Mt_min_J h31 v30 v32) (fun v34 h33 => (jl (v34 : Int64) (fun (x35 : Int64) => (jc_L (r_Mt_max_J h33 x19 x22) (fun v37 h36 => (jc_L (r_Mt_max_J h36 x25 x28) (fun v39 h38 => (jc_L (r_Mt_max_J h38 v37 v39) (fun v41 h40 => (jl (v41 : Int64) (fun (x42 : Int64) => (r_Mo_numbers_882 h40 y0 y8 y17 x35 x42 x2))))))))))))))))))))))))))))))))))))), (if y9 < (0 : Int64) then (r_Mo_numbers_505 h y0 y8 y9 y11 y13 y15 y17 y19 y21) else (if y13 ≤ (0 : Int64) then (r_Mo_numbers_505 h y0 y8 y9 y11 y13 y15 y17 y19 y21) else (r_Mo_numbers_506 h y0 y8 y9 y11 y13 y15 y17 y19 y21 (1 : Int32)))), (r_Mo_numbers_530 h y0 y8 y9 y11 y13 y15 y17), (if (0 : Int64) ≤ y9 then (r_Mo_numbers_604 h y0 y8 y9 y11 y13 y15 y17) else (if y13 < (0 : Int64) then (r_Mo_numbers_609 h y0 y8 y9 y11 y13 y15 y17 (0 : Int32)) else (r_Mo_numbers_604 h y0 y8 y9 y11 y13 y15 y17))), (if y13 = y15 then (r_Mo_numbers_663 h y0 y8 y9 y11 y17 x1 (1 : Int32)) else (r_Mo_numbers_663 h y0 y8 y9 y11 y17 x1 (0 : Int32))), (if y13 = y15 then (if y9 < (0 : Int64) then (r_Mo_numbers_707 h y0 y8 y9 y11 y17 x1) else (r_Mo_numbers_708 h y0 y8 y9 y11 y17 x1 (1 : Int32))) else (r_Mo_numbers_707 h y0 y8 y9 y11 y17 x1)), (jk h y0 9 (jc_L (r_Mo_minus h y0 (0 : Int64) y11) (fun v44 h43 => (jl (v44 : Int64) (fun (x45 : Int64) => (jk h43 y0 9 (jc_L (r_Mo_minus h43 y0 (0 : Int64) y9) (fun v47 h46 => (jl (v47 : Int64) (fun (x48 : Int64) => (r_Mo_numbers_882 h46 y0 y8 y17 x45 x48 x2))))))))))), (if y9 < (0 : Int64) then (r_Mo_numbers_766 h y0 y8 y11 y15 y17) else (if y13 ≤ (0 : Int64) then (r_Mo_numbers_766 h y0 y8 y11 y15 y17) else (r_Mo_numbers_767 h y0 y8 y11 y15 y17 (1 : Int32)))), (r_Mo_numbers_530 h y0 y8 y9 y11 y13 y15 y17), (jl (y13 : Int64) (fun (x49 : Int64) => (jl (y15 : Int64) (fun (x50 : Int64) => (r_Mo_numbers_882 h y0 y8 y17 x49 x50 x2))))), (if y13 = y15 then (if y3 = (0 : Int32) then (if (2147483648 : Int64) ≤ y11 then (r_Mo_numbers_822 h y0 y8 y9 y11 y17 x1) else (r_Mo_numbers_818 h y0 y8 y9 y11 y17 x1)) else (r_Mo_numbers_818 h y0 y8 y9 y11 y17 x1)) else (r_Mo_numbers_822 h y0 y8 y9 y11 y17 x1))] (jk h y0 9 (jc_I (r_Mo_imm h y0 y1) (fun v4 h3 => (if (64 : Int32) ≤ v4 then (r_Mo_numbers_857 h3 y0 y1 y8 y17 (0 : Int32)) else (r_Mo_numbers_857 h3 y0 y1 y8 y17 (1 : Int32)))))))))))
theorem t_Mo_numbers_283 {h : ja_H} {y0 : Nat} {y1 : Int32} {y2 : Int32} {y3 : Int32} {y8 : Int32} {y9 : Int64} {y11 : Int64} {y13 : Int64} {y15 : Int64} {y17 : Int32} {y19 : Int64} {y21 : Int64} {z0 : Int32} {z1 : Int64} : ja_D ja_gV M_Mo_numbers 283 [some (.ref y0), some (.int y1), some (.int y2), some (.int y3), none, none, none, none, some (.int y8), some (.long y9), none, some (.long y11), none, some (.long y13), none, some (.long y15), none, some (.int y17), none, some (.long y19), none, some (.long y21), none, none, none, none, none, none, none, none, none, none, none] [.int z0, .long z1] h (r_Mo_numbers_283 h y0 y1 y2 y3 y8 y9 y11 y13 y15 y17 y19 y21 z0 z1) := by
  unfold r_Mo_numbers_283
  refine jd_i2l i_Mo_numbers_283 ?_
  refine jd_land i_Mo_numbers_284 ?_
  refine jd_l2i i_Mo_numbers_285 ?_
  refine jd_istore (fun x1 => [some (.ref y0), some (.int y1), some (.int y2), some (.int y3), none, none, none, none, some (.int y8), some (.long y9), none, some (.long y11), none, some (.long y13), none, some (.long y15), none, some (.int y17), none, some (.long y19), none, some (.long y21), none, some (.int x1), none, none, none, none, none, none, none, none, none]) i_Mo_numbers_286 (by decide) rfl (fun _ => rfl) (fun x1 => ?_)
  refine jd_iconst 1 i_Mo_numbers_288 (by decide) ?_
  refine jd_istore (fun x2 => [some (.ref y0), some (.int y1), some (.int y2), some (.int y3), none, none, none, none, some (.int y8), some (.long y9), none, some (.long y11), none, some (.long y13), none, some (.long y15), none, some (.int y17), none, some (.long y19), none, some (.long y21), none, some (.int x1), some (.int x2), none, none, none, none, none, none, none, none]) i_Mo_numbers_289 (by decide) rfl (fun _ => rfl) (fun x2 => ?_)
  refine jd_iload_n i_Mo_numbers_291 rfl ?_
  refine jd_ts 842 [0, 1, 2, 3, 4, 5, 6, 7, 8, 9, 10, 11, 12] [360, 383, 406, 487, 530, 590, 650, 688, 727, 748, 530, 786, 797] i_Mo_numbers_292 rfl (by decide) (by decide) (by decide) ?_ ⟨?_, ?_, ?_, ?_, ?_, ?_, ?_, ?_, ?_, ?_, ?_, ?_, ?_, trivial⟩
  · refine jd_aload_n i_Mo_numbers_842 rfl ?_
    refine jd_iload_n i_Mo_numbers_843 rfl ?_
    refine jd_callVI G_Mo_92 in_Mo_imm se_Mo_imm rfl (fun _ e => c_Mo_imm e) rfl ⟨by decide, by decide⟩ rfl (Nat.le_of_ble_eq_true rfl) i_Mo_numbers_844 (fun v4 h3 => ?_)
    refine jd_bipush 64 i_Mo_numbers_847 (by decide) ?_
    refine jd_icmp_ge 856 i_Mo_numbers_849 (by decide) ?_ ?_
    · refine jd_iconst 0 i_Mo_numbers_856 (by decide) ?_
      exact jd_less (t_Mo_numbers_857) ⟨rfl, rfl, rfl, rfl, trivial⟩
    · refine jd_iconst 1 i_Mo_numbers_852 (by decide) ?_
      refine jd_goto 857 i_Mo_numbers_853 (by decide) ?_
      exact jd_less (t_Mo_numbers_857) ⟨rfl, rfl, rfl, rfl, trivial⟩
  · refine jd_aload_n i_Mo_numbers_360 rfl ?_
    refine jd_lload i_Mo_numbers_361 rfl ?_
    refine jd_lload i_Mo_numbers_363 rfl ?_
    refine jd_callVL G_Mo_215 in_Mo_plus se_Mo_plus rfl (fun _ e => c_Mo_plus e) rfl ⟨by decide, by decide⟩ rfl (Nat.le_of_ble_eq_true rfl) i_Mo_numbers_365 (fun v6 h5 => ?_)
    refine jd_lstore (fun x7 => [some (.ref y0), some (.int y1), some (.int y2), some (.int y3), none, none, none, none, some (.int y8), some (.long y9), none, some (.long y11), none, some (.long y13), none, some (.long y15), none, some (.int y17), none, some (.long x7), none, some (.long y21), none, some (.int x1), some (.int x2), none, none, none, none, none, none, none, none]) i_Mo_numbers_368 (by decide) rfl (fun _ => rfl) (fun x7 => ?_)
    refine jd_aload_n i_Mo_numbers_370 rfl ?_
    refine jd_lload i_Mo_numbers_371 rfl ?_
    refine jd_lload i_Mo_numbers_373 rfl ?_
    refine jd_callVL G_Mo_215 in_Mo_plus se_Mo_plus rfl (fun _ e => c_Mo_plus e) rfl ⟨by decide, by decide⟩ rfl (Nat.le_of_ble_eq_true rfl) i_Mo_numbers_375 (fun v9 h8 => ?_)
    refine jd_lstore (fun x10 => [some (.ref y0), some (.int y1), some (.int y2), some (.int y3), none, none, none, none, some (.int y8), some (.long y9), none, some (.long y11), none, some (.long y13), none, some (.long y15), none, some (.int y17), none, some (.long x7), none, some (.long x10), none, some (.int x1), some (.int x2), none, none, none, none, none, none, none, none]) i_Mo_numbers_378 (by decide) rfl (fun _ => rfl) (fun x10 => ?_)
    refine jd_goto 882 i_Mo_numbers_380 (by decide) ?_
    exact jd_less (t_Mo_numbers_882) ⟨rfl, rfl, rfl, rfl, rfl, rfl, trivial⟩
  · refine jd_aload_n i_Mo_numbers_383 rfl ?_
    refine jd_lload i_Mo_numbers_384 rfl ?_
    refine jd_lload i_Mo_numbers_386 rfl ?_
    refine jd_callVL G_Mo_218 in_Mo_minus se_Mo_minus rfl (fun _ e => c_Mo_minus e) rfl ⟨by decide, by decide⟩ rfl (Nat.le_of_ble_eq_true rfl) i_Mo_numbers_388 (fun v12 h11 => ?_)
    refine jd_lstore (fun x13 => [some (.ref y0), some (.int y1), some (.int y2), some (.int y3), none, none, none, none, some (.int y8), some (.long y9), none, some (.long y11), none, some (.long y13), none, some (.long y15), none, some (.int y17), none, some (.long x13), none, some (.long y21), none, some (.int x1), some (.int x2), none, none, none, none, none, none, none, none]) i_Mo_numbers_391 (by decide) rfl (fun _ => rfl) (fun x13 => ?_)
    refine jd_aload_n i_Mo_numbers_393 rfl ?_
    refine jd_lload i_Mo_numbers_394 rfl ?_
    refine jd_lload i_Mo_numbers_396 rfl ?_
    refine jd_callVL G_Mo_218 in_Mo_minus se_Mo_minus rfl (fun _ e => c_Mo_minus e) rfl ⟨by decide, by decide⟩ rfl (Nat.le_of_ble_eq_true rfl) i_Mo_numbers_398 (fun v15 h14 => ?_)
    refine jd_lstore (fun x16 => [some (.ref y0), some (.int y1), some (.int y2), some (.int y3), none, none, none, none, some (.int y8), some (.long y9), none, some (.long y11), none, some (.long y13), none, some (.long y15), none, some (.int y17), none, some (.long x13), none, some (.long x16), none, some (.int x1), some (.int x2), none, none, none, none, none, none, none, none]) i_Mo_numbers_401 (by decide) rfl (fun _ => rfl) (fun x16 => ?_)
    refine jd_goto 882 i_Mo_numbers_403 (by decide) ?_
    exact jd_less (t_Mo_numbers_882) ⟨rfl, rfl, rfl, rfl, rfl, rfl, trivial⟩
  · refine jd_aload_n i_Mo_numbers_406 rfl ?_
    refine jd_lload i_Mo_numbers_407 rfl ?_
    refine jd_lload i_Mo_numbers_409 rfl ?_
    refine jd_callVL G_Mo_221 in_Mo_times se_Mo_times rfl (fun _ e => c_Mo_times e) rfl ⟨by decide, by decide⟩ rfl (Nat.le_of_ble_eq_true rfl) i_Mo_numbers_411 (fun v18 h17 => ?_)
    refine jd_lstore (fun x19 => [some (.ref y0), some (.int y1), some (.int y2), some (.int y3), none, none, none, none, some (.int y8), some (.long y9), none, some (.long y11), none, some (.long y13), none, some (.long y15), none, some (.int y17), none, some (.long y19), none, some (.long y21), none, some (.int x1), some (.int x2), some (.long x19), none, none, none, none, none, none, none]) i_Mo_numbers_414 (by decide) rfl (fun _ => rfl) (fun x19 => ?_)
    refine jd_aload_n i_Mo_numbers_416 rfl ?_
    refine jd_lload i_Mo_numbers_417 rfl ?_
    refine jd_lload i_Mo_numbers_419 rfl ?_
    refine jd_callVL G_Mo_221 in_Mo_times se_Mo_times rfl (fun _ e => c_Mo_times e) rfl ⟨by decide, by decide⟩ rfl (Nat.le_of_ble_eq_true rfl) i_Mo_numbers_421 (fun v21 h20 => ?_)
    refine jd_lstore (fun x22 => [some (.ref y0), some (.int y1), some (.int y2), some (.int y3), none, none, none, none, some (.int y8), some (.long y9), none, some (.long y11), none, some (.long y13), none, some (.long y15), none, some (.int y17), none, some (.long y19), none, some (.long y21), none, some (.int x1), some (.int x2), some (.long x19), none, some (.long x22), none, none, none, none, none]) i_Mo_numbers_424 (by decide) rfl (fun _ => rfl) (fun x22 => ?_)
    refine jd_aload_n i_Mo_numbers_426 rfl ?_
    refine jd_lload i_Mo_numbers_427 rfl ?_
    refine jd_lload i_Mo_numbers_429 rfl ?_
    refine jd_callVL G_Mo_221 in_Mo_times se_Mo_times rfl (fun _ e => c_Mo_times e) rfl ⟨by decide, by decide⟩ rfl (Nat.le_of_ble_eq_true rfl) i_Mo_numbers_431 (fun v24 h23 => ?_)
    refine jd_lstore (fun x25 => [some (.ref y0), some (.int y1), some (.int y2), some (.int y3), none, none, none, none, some (.int y8), some (.long y9), none, some (.long y11), none, some (.long y13), none, some (.long y15), none, some (.int y17), none, some (.long y19), none, some (.long y21), none, some (.int x1), some (.int x2), some (.long x19), none, some (.long x22), none, some (.long x25), none, none, none]) i_Mo_numbers_434 (by decide) rfl (fun _ => rfl) (fun x25 => ?_)
    refine jd_aload_n i_Mo_numbers_436 rfl ?_
    refine jd_lload i_Mo_numbers_437 rfl ?_
    refine jd_lload i_Mo_numbers_439 rfl ?_
    refine jd_callVL G_Mo_221 in_Mo_times se_Mo_times rfl (fun _ e => c_Mo_times e) rfl ⟨by decide, by decide⟩ rfl (Nat.le_of_ble_eq_true rfl) i_Mo_numbers_441 (fun v27 h26 => ?_)
    refine jd_lstore (fun x28 => [some (.ref y0), some (.int y1), some (.int y2), some (.int y3), none, none, none, none, some (.int y8), some (.long y9), none, some (.long y11), none, some (.long y13), none, some (.long y15), none, some (.int y17), none, some (.long y19), none, some (.long y21), none, some (.int x1), some (.int x2), some (.long x19), none, some (.long x22), none, some (.long x25), none, some (.long x28), none]) i_Mo_numbers_444 (by decide) rfl (fun _ => rfl) (fun x28 => ?_)
    refine jd_lload i_Mo_numbers_446 rfl ?_
    refine jd_lload i_Mo_numbers_448 rfl ?_
    refine jd_callSL G_Mo_162 sc_Mt_min_J (fun _ e => c_Mt_min_J e) rfl ⟨by decide, by decide⟩ rfl (Nat.le_of_ble_eq_true rfl) i_Mo_numbers_450 (fun v30 h29 => ?_)
    refine jd_lload i_Mo_numbers_453 rfl ?_
    refine jd_lload i_Mo_numbers_455 rfl ?_
    refine jd_callSL G_Mo_162 sc_Mt_min_J (fun _ e => c_Mt_min_J e) rfl ⟨by decide, by decide⟩ rfl (Nat.le_of_ble_eq_true rfl) i_Mo_numbers_457 (fun v32 h31 => ?_)
    refine jd_callSL G_Mo_162 sc_Mt_min_J (fun _ e => c_Mt_min_J e) rfl ⟨by decide, by decide⟩ rfl (Nat.le_of_ble_eq_true rfl) i_Mo_numbers_460 (fun v34 h33 => ?_)
    refine jd_lstore (fun x35 => [some (.ref y0), some (.int y1), some (.int y2), some (.int y3), none, none, none, none, some (.int y8), some (.long y9), none, some (.long y11), none, some (.long y13), none, some (.long y15), none, some (.int y17), none, some (.long x35), none, some (.long y21), none, some (.int x1), some (.int x2), some (.long x19), none, some (.long x22), none, some (.long x25), none, some (.long x28), none]) i_Mo_numbers_463 (by decide) rfl (fun _ => rfl) (fun x35 => ?_)
    refine jd_lload i_Mo_numbers_465 rfl ?_
    refine jd_lload i_Mo_numbers_467 rfl ?_
    refine jd_callSL G_Mo_168 sc_Mt_max_J (fun _ e => c_Mt_max_J e) rfl ⟨by decide, by decide⟩ rfl (Nat.le_of_ble_eq_true rfl) i_Mo_numbers_469 (fun v37 h36 => ?_)
    refine jd_lload i_Mo_numbers_472 rfl ?_
    refine jd_lload i_Mo_numbers_474 rfl ?_
    refine jd_callSL G_Mo_168 sc_Mt_max_J (fun _ e => c_Mt_max_J e) rfl ⟨by decide, by decide⟩ rfl (Nat.le_of_ble_eq_true rfl) i_Mo_numbers_476 (fun v39 h38 => ?_)
    refine jd_callSL G_Mo_168 sc_Mt_max_J (fun _ e => c_Mt_max_J e) rfl ⟨by decide, by decide⟩ rfl (Nat.le_of_ble_eq_true rfl) i_Mo_numbers_479 (fun v41 h40 => ?_)
    refine jd_lstore (fun x42 => [some (.ref y0), some (.int y1), some (.int y2), some (.int y3), none, none, none, none, some (.int y8), some (.long y9), none, some (.long y11), none, some (.long y13), none, some (.long y15), none, some (.int y17), none, some (.long x35), none, some (.long x42), none, some (.int x1), some (.int x2), some (.long x19), none, some (.long x22), none, some (.long x25), none, some (.long x28), none]) i_Mo_numbers_482 (by decide) rfl (fun _ => rfl) (fun x42 => ?_)
    refine jd_goto 882 i_Mo_numbers_484 (by decide) ?_
    exact jd_less (t_Mo_numbers_882) ⟨rfl, rfl, rfl, rfl, rfl, rfl, trivial⟩
  · refine jd_lload i_Mo_numbers_487 rfl ?_
    refine jd_lconst 0 i_Mo_numbers_489 (by decide) ?_
    refine jd_lcmp_lt 505 i_Mo_numbers_490 i_Mo_numbers_491 (by decide) ?_ ?_
    · exact jd_less (t_Mo_numbers_505) ⟨rfl, rfl, rfl, rfl, rfl, rfl, rfl, rfl, rfl, trivial⟩
    · refine jd_lload i_Mo_numbers_494 rfl ?_
      refine jd_lconst 0 i_Mo_numbers_496 (by decide) ?_
      refine jd_lcmp_le 505 i_Mo_numbers_497 i_Mo_numbers_498 (by decide) ?_ ?_
      · exact jd_less (t_Mo_numbers_505) ⟨rfl, rfl, rfl, rfl, rfl, rfl, rfl, rfl, rfl, trivial⟩
      · refine jd_iconst 1 i_Mo_numbers_501 (by decide) ?_
        refine jd_goto 506 i_Mo_numbers_502 (by decide) ?_
        exact jd_less (t_Mo_numbers_506) ⟨rfl, rfl, rfl, rfl, rfl, rfl, rfl, rfl, rfl, trivial⟩
  · exact jd_less (t_Mo_numbers_530) ⟨rfl, rfl, rfl, rfl, rfl, rfl, rfl, trivial⟩
  · refine jd_lload i_Mo_numbers_590 rfl ?_
    refine jd_lconst 0 i_Mo_numbers_592 (by decide) ?_
    refine jd_lcmp_ge 604 i_Mo_numbers_593 i_Mo_numbers_594 (by decide) ?_ ?_
    · exact jd_less (t_Mo_numbers_604) ⟨rfl, rfl, rfl, rfl, rfl, rfl, rfl, trivial⟩
    · refine jd_lload i_Mo_numbers_597 rfl ?_
      refine jd_lconst 0 i_Mo_numbers_599 (by decide) ?_
      refine jd_lcmp_lt 608 i_Mo_numbers_600 i_Mo_numbers_601 (by decide) ?_ ?_
      · refine jd_iconst 0 i_Mo_numbers_608 (by decide) ?_
        exact jd_less (t_Mo_numbers_609) ⟨rfl, rfl, rfl, rfl, rfl, rfl, rfl, trivial⟩
      · exact jd_less (t_Mo_numbers_604) ⟨rfl, rfl, rfl, rfl, rfl, rfl, rfl, trivial⟩
  · refine jd_lload i_Mo_numbers_650 rfl ?_
    refine jd_lload i_Mo_numbers_652 rfl ?_
    refine jd_lcmp_ne 662 i_Mo_numbers_654 i_Mo_numbers_655 (by decide) ?_ ?_
    · refine jd_iconst 0 i_Mo_numbers_662 (by decide) ?_
      exact jd_less (t_Mo_numbers_663) ⟨rfl, rfl, rfl, rfl, rfl, rfl, trivial⟩
    · refine jd_iconst 1 i_Mo_numbers_658 (by decide) ?_
      refine jd_goto 663 i_Mo_numbers_659 (by decide) ?_
      exact jd_less (t_Mo_numbers_663) ⟨rfl, rfl, rfl, rfl, rfl, rfl, trivial⟩
  · refine jd_lload i_Mo_numbers_688 rfl ?_
    refine jd_lload i_Mo_numbers_690 rfl ?_
    refine jd_lcmp_ne 707 i_Mo_numbers_692 i_Mo_numbers_693 (by decide) ?_ ?_
    · exact jd_less (t_Mo_numbers_707) ⟨rfl, rfl, rfl, rfl, rfl, rfl, trivial⟩
    · refine jd_lload i_Mo_numbers_696 rfl ?_
      refine jd_lconst 0 i_Mo_numbers_698 (by decide) ?_
      refine jd_lcmp_lt 707 i_Mo_numbers_699 i_Mo_numbers_700 (by decide) ?_ ?_
      · exact jd_less (t_Mo_numbers_707) ⟨rfl, rfl, rfl, rfl, rfl, rfl, trivial⟩
      · refine jd_iconst 1 i_Mo_numbers_703 (by decide) ?_
        refine jd_goto 708 i_Mo_numbers_704 (by decide) ?_
        exact jd_less (t_Mo_numbers_708) ⟨rfl, rfl, rfl, rfl, rfl, rfl, trivial⟩
  · refine jd_aload_n i_Mo_numbers_727 rfl ?_
    refine jd_lconst 0 i_Mo_numbers_728 (by decide) ?_
    refine jd_lload i_Mo_numbers_729 rfl ?_
    refine jd_callVL G_Mo_218 in_Mo_minus se_Mo_minus rfl (fun _ e => c_Mo_minus e) rfl ⟨by decide, by decide⟩ rfl (Nat.le_of_ble_eq_true rfl) i_Mo_numbers_731 (fun v44 h43 => ?_)
    refine jd_lstore (fun x45 => [some (.ref y0), some (.int y1), some (.int y2), some (.int y3), none, none, none, none, some (.int y8), some (.long y9), none, some (.long y11), none, some (.long y13), none, some (.long y15), none, some (.int y17), none, some (.long x45), none, some (.long y21), none, some (.int x1), some (.int x2), none, none, none, none, none, none, none, none]) i_Mo_numbers_734 (by decide) rfl (fun _ => rfl) (fun x45 => ?_)
    refine jd_aload_n i_Mo_numbers_736 rfl ?_
    refine jd_lconst 0 i_Mo_numbers_737 (by decide) ?_
    refine jd_lload i_Mo_numbers_738 rfl ?_
    refine jd_callVL G_Mo_218 in_Mo_minus se_Mo_minus rfl (fun _ e => c_Mo_minus e) rfl ⟨by decide, by decide⟩ rfl (Nat.le_of_ble_eq_true rfl) i_Mo_numbers_740 (fun v47 h46 => ?_)
    refine jd_lstore (fun x48 => [some (.ref y0), some (.int y1), some (.int y2), some (.int y3), none, none, none, none, some (.int y8), some (.long y9), none, some (.long y11), none, some (.long y13), none, some (.long y15), none, some (.int y17), none, some (.long x45), none, some (.long x48), none, some (.int x1), some (.int x2), none, none, none, none, none, none, none, none]) i_Mo_numbers_743 (by decide) rfl (fun _ => rfl) (fun x48 => ?_)
    refine jd_goto 882 i_Mo_numbers_745 (by decide) ?_
    exact jd_less (t_Mo_numbers_882) ⟨rfl, rfl, rfl, rfl, rfl, rfl, trivial⟩
  · refine jd_lload i_Mo_numbers_748 rfl ?_
    refine jd_lconst 0 i_Mo_numbers_750 (by decide) ?_
    refine jd_lcmp_lt 766 i_Mo_numbers_751 i_Mo_numbers_752 (by decide) ?_ ?_
    · exact jd_less (t_Mo_numbers_766) ⟨rfl, rfl, rfl, rfl, rfl, trivial⟩
    · refine jd_lload i_Mo_numbers_755 rfl ?_
      refine jd_lconst 0 i_Mo_numbers_757 (by decide) ?_
      refine jd_lcmp_le 766 i_Mo_numbers_758 i_Mo_numbers_759 (by decide) ?_ ?_
      · exact jd_less (t_Mo_numbers_766) ⟨rfl, rfl, rfl, rfl, rfl, trivial⟩
      · refine jd_iconst 1 i_Mo_numbers_762 (by decide) ?_
        refine jd_goto 767 i_Mo_numbers_763 (by decide) ?_
        exact jd_less (t_Mo_numbers_767) ⟨rfl, rfl, rfl, rfl, rfl, trivial⟩
  · exact jd_less (t_Mo_numbers_530) ⟨rfl, rfl, rfl, rfl, rfl, rfl, rfl, trivial⟩
  · refine jd_lload i_Mo_numbers_786 rfl ?_
    refine jd_lstore (fun x49 => [some (.ref y0), some (.int y1), some (.int y2), some (.int y3), none, none, none, none, some (.int y8), some (.long y9), none, some (.long y11), none, some (.long y13), none, some (.long y15), none, some (.int y17), none, some (.long x49), none, some (.long y21), none, some (.int x1), some (.int x2), none, none, none, none, none, none, none, none]) i_Mo_numbers_788 (by decide) rfl (fun _ => rfl) (fun x49 => ?_)
    refine jd_lload i_Mo_numbers_790 rfl ?_
    refine jd_lstore (fun x50 => [some (.ref y0), some (.int y1), some (.int y2), some (.int y3), none, none, none, none, some (.int y8), some (.long y9), none, some (.long y11), none, some (.long y13), none, some (.long y15), none, some (.int y17), none, some (.long x49), none, some (.long x50), none, some (.int x1), some (.int x2), none, none, none, none, none, none, none, none]) i_Mo_numbers_792 (by decide) rfl (fun _ => rfl) (fun x50 => ?_)
    refine jd_goto 882 i_Mo_numbers_794 (by decide) ?_
    exact jd_less (t_Mo_numbers_882) ⟨rfl, rfl, rfl, rfl, rfl, rfl, trivial⟩
  · refine jd_lload i_Mo_numbers_797 rfl ?_
    refine jd_lload i_Mo_numbers_799 rfl ?_
    refine jd_lcmp_ne 822 i_Mo_numbers_801 i_Mo_numbers_802 (by decide) ?_ ?_
    · exact jd_less (t_Mo_numbers_822) ⟨rfl, rfl, rfl, rfl, rfl, rfl, trivial⟩
    · refine jd_iload_n i_Mo_numbers_805 rfl ?_
      refine jd_if_ne 818 i_Mo_numbers_806 (by decide) ?_ ?_
      · exact jd_less (t_Mo_numbers_818) ⟨rfl, rfl, rfl, rfl, rfl, rfl, trivial⟩
      · refine jd_lload i_Mo_numbers_809 rfl ?_
        refine jd_ldc2 i_Mo_numbers_811 K_Mo_228 ?_
        refine jd_lcmp_ge 822 i_Mo_numbers_814 i_Mo_numbers_815 (by decide) ?_ ?_
        · exact jd_less (t_Mo_numbers_822) ⟨rfl, rfl, rfl, rfl, rfl, rfl, trivial⟩
        · exact jd_less (t_Mo_numbers_818) ⟨rfl, rfl, rfl, rfl, rfl, rfl, trivial⟩
noncomputable def r_Mo_numbers_256 (h : ja_H) (y0 : Nat) (y8 : Int32) (y13 : Int64) (z0 : Int64) (z1 : Int32) (z2 : Nat) : Option (ja_H) := (jk h z2 9 (jc_L (r_Mo_machine h z2 z1 z0 y13) (fun v2 h1 => (jl (v2 : Int64) (fun (x3 : Int64) => (jl (x3 : Int64) (fun (x4 : Int64) => (r_Mo_numbers_933 h1 y0 y8 x3 x4))))))))
theorem t_Mo_numbers_256 {h : ja_H} {y0 : Nat} {y8 : Int32} {y13 : Int64} {z0 : Int64} {z1 : Int32} {z2 : Nat} : ja_D ja_gV M_Mo_numbers 256 [some (.ref y0), none, none, none, none, none, none, none, some (.int y8), none, none, none, none, some (.long y13), none, none, none, none, none, none, none, none, none, none, none, none, none, none, none, none, none, none, none] [.long z0, .int z1, .ref z2] h (r_Mo_numbers_256 h y0 y8 y13 z0 z1 z2) := by
  unfold r_Mo_numbers_256
  refine jd_lload i_Mo_numbers_256 rfl ?_
  refine jd_callVL G_Mo_211 in_Mo_machine se_Mo_machine rfl (fun _ e => c_Mo_machine e) rfl ⟨by decide, by decide⟩ rfl (Nat.le_of_ble_eq_true rfl) i_Mo_numbers_258 (fun v2 h1 => ?_)
  refine jd_lstore (fun x3 => [some (.ref y0), none, none, none, none, none, none, none, some (.int y8), none, none, none, none, some (.long y13), none, none, none, none, none, some (.long x3), none, none, none, none, none, none, none, none, none, none, none, none, none]) i_Mo_numbers_261 (by decide) rfl (fun _ => rfl) (fun x3 => ?_)
  refine jd_lload i_Mo_numbers_263 rfl ?_
  refine jd_lstore (fun x4 => [some (.ref y0), none, none, none, none, none, none, none, some (.int y8), none, none, none, none, some (.long y13), none, none, none, none, none, some (.long x3), none, some (.long x4), none, none, none, none, none, none, none, none, none, none, none]) i_Mo_numbers_265 (by decide) rfl (fun _ => rfl) (fun x4 => ?_)
  refine jd_goto 933 i_Mo_numbers_267 (by decide) ?_
  exact jd_less (t_Mo_numbers_933) ⟨rfl, rfl, rfl, rfl, trivial⟩
noncomputable def r_Mo_numbers_220 (h : ja_H) (y0 : Nat) (y1 : Int32) (y2 : Int32) (y3 : Int32) (y8 : Int32) (y9 : Int64) (y11 : Int64) (y13 : Int64) (y15 : Int64) (y17 : Int32) (z0 : Int32) : Option (ja_H) := (jl (z0 : Int32) (fun (x1 : Int32) => (jl ((-9223372036854775808 : Int64) : Int64) (fun (x2 : Int64) => (jl ((9223372036854775807 : Int64) : Int64) (fun (x3 : Int64) => (jp_Z h y0 9 16 (0 : Int32) (fun h4 => (if x1 = (0 : Int32) then (if y3 = (0 : Int32) then (r_Mo_numbers_283 h4 y0 y1 y2 y3 y8 y9 y11 y13 y15 y17 x2 x3 (31 : Int32) y13) else (r_Mo_numbers_283 h4 y0 y1 y2 y3 y8 y9 y11 y13 y15 y17 x2 x3 (63 : Int32) y13)) else (if y2 = (11 : Int32) then (r_Mo_numbers_256 h4 y0 y8 y13 (0 : Int64) y1 y0) else (r_Mo_numbers_256 h4 y0 y8 y13 y9 y1 y0)))))))))))
theorem t_Mo_numbers_220 {h : ja_H} {y0 : Nat} {y1 : Int32} {y2 : Int32} {y3 : Int32} {y8 : Int32} {y9 : Int64} {y11 : Int64} {y13 : Int64} {y15 : Int64} {y17 : Int32} {z0 : Int32} : ja_D ja_gV M_Mo_numbers 220 [some (.ref y0), some (.int y1), some (.int y2), some (.int y3), none, none, none, none, some (.int y8), some (.long y9), none, some (.long y11), none, some (.long y13), none, some (.long y15), none, some (.int y17), none, none, none, none, none, none, none, none, none, none, none, none, none, none, none] [.int z0] h (r_Mo_numbers_220 h y0 y1 y2 y3 y8 y9 y11 y13 y15 y17 z0) := by
  unfold r_Mo_numbers_220
  refine jd_istore (fun x1 => [some (.ref y0), some (.int y1), some (.int y2), some (.int y3), none, none, none, none, some (.int y8), some (.long y9), none, some (.long y11), none, some (.long y13), none, some (.long y15), none, some (.int y17), some (.int x1), none, none, none, none, none, none, none, none, none, none, none, none, none, none]) i_Mo_numbers_220 (by decide) rfl (fun _ => rfl) (fun x1 => ?_)
  refine jd_ldc2 i_Mo_numbers_222 K_Mo_207 ?_
  refine jd_lstore (fun x2 => [some (.ref y0), some (.int y1), some (.int y2), some (.int y3), none, none, none, none, some (.int y8), some (.long y9), none, some (.long y11), none, some (.long y13), none, some (.long y15), none, some (.int y17), some (.int x1), some (.long x2), none, none, none, none, none, none, none, none, none, none, none, none, none]) i_Mo_numbers_225 (by decide) rfl (fun _ => rfl) (fun x2 => ?_)
  refine jd_ldc2 i_Mo_numbers_227 K_Mo_209 ?_
  refine jd_lstore (fun x3 => [some (.ref y0), some (.int y1), some (.int y2), some (.int y3), none, none, none, none, some (.int y8), some (.long y9), none, some (.long y11), none, some (.long y13), none, some (.long y15), none, some (.int y17), some (.int x1), some (.long x2), none, some (.long x3), none, none, none, none, none, none, none, none, none, none, none]) i_Mo_numbers_230 (by decide) rfl (fun _ => rfl) (fun x3 => ?_)
  refine jd_aload_n i_Mo_numbers_232 rfl ?_
  refine jd_iconst 0 i_Mo_numbers_233 (by decide) ?_
  refine jd_putZ F_Mo_201 P_Mo_wrapped i_Mo_numbers_234 (fun h4 => ?_)
  refine jd_iload i_Mo_numbers_237 rfl ?_
  refine jd_if_eq 270 i_Mo_numbers_239 (by decide) ?_ ?_
  · refine jd_lload i_Mo_numbers_270 rfl ?_
    refine jd_iload_n i_Mo_numbers_272 rfl ?_
    refine jd_if_eq 281 i_Mo_numbers_273 (by decide) ?_ ?_
    · refine jd_bipush 31 i_Mo_numbers_281 (by decide) ?_
      exact jd_less (t_Mo_numbers_283) ⟨rfl, rfl, rfl, rfl, rfl, rfl, rfl, rfl, rfl, rfl, rfl, rfl, trivial⟩
    · refine jd_bipush 63 i_Mo_numbers_276 (by decide) ?_
      refine jd_goto 283 i_Mo_numbers_278 (by decide) ?_
      exact jd_less (t_Mo_numbers_283) ⟨rfl, rfl, rfl, rfl, rfl, rfl, rfl, rfl, rfl, rfl, rfl, rfl, trivial⟩
  · refine jd_aload_n i_Mo_numbers_242 rfl ?_
    refine jd_iload_n i_Mo_numbers_243 rfl ?_
    refine jd_iload_n i_Mo_numbers_244 rfl ?_
    refine jd_bipush 11 i_Mo_numbers_245 (by decide) ?_
    refine jd_icmp_ne 254 i_Mo_numbers_247 (by decide) ?_ ?_
    · refine jd_lload i_Mo_numbers_254 rfl ?_
      exact jd_less (t_Mo_numbers_256) ⟨rfl, rfl, rfl, trivial⟩
    · refine jd_lconst 0 i_Mo_numbers_250 (by decide) ?_
      refine jd_goto 256 i_Mo_numbers_251 (by decide) ?_
      exact jd_less (t_Mo_numbers_256) ⟨rfl, rfl, rfl, trivial⟩
noncomputable def r_Mo_numbers_219 (h : ja_H) (y0 : Nat) (y1 : Int32) (y2 : Int32) (y3 : Int32) (y8 : Int32) (y9 : Int64) (y11 : Int64) (y13 : Int64) (y15 : Int64) (y17 : Int32) : Option (ja_H) := (r_Mo_numbers_220 h y0 y1 y2 y3 y8 y9 y11 y13 y15 y17 (0 : Int32))
theorem t_Mo_numbers_219 {h : ja_H} {y0 : Nat} {y1 : Int32} {y2 : Int32} {y3 : Int32} {y8 : Int32} {y9 : Int64} {y11 : Int64} {y13 : Int64} {y15 : Int64} {y17 : Int32} : ja_D ja_gV M_Mo_numbers 219 [some (.ref y0), some (.int y1), some (.int y2), some (.int y3), none, none, none, none, some (.int y8), some (.long y9), none, some (.long y11), none, some (.long y13), none, some (.long y15), none, some (.int y17), none, none, none, none, none, none, none, none, none, none, none, none, none, none, none] [] h (r_Mo_numbers_219 h y0 y1 y2 y3 y8 y9 y11 y13 y15 y17) := by
  unfold r_Mo_numbers_219
  refine jd_iconst 0 i_Mo_numbers_219 (by decide) ?_
  exact jd_less (t_Mo_numbers_220) ⟨rfl, rfl, rfl, rfl, rfl, rfl, rfl, rfl, rfl, rfl, trivial⟩
noncomputable def r_Mo_numbers_183 (h : ja_H) (y0 : Nat) (y1 : Int32) (y2 : Int32) (y3 : Int32) (y8 : Int32) (y9 : Int64) (y11 : Int64) (y13 : Int64) (y15 : Int64) (y17 : Int32) : Option (ja_H) := (if y9 = y11 then (r_Mo_numbers_220 h y0 y1 y2 y3 y8 y9 y11 y13 y15 y17 (1 : Int32)) else (r_Mo_numbers_220 h y0 y1 y2 y3 y8 y9 y11 y13 y15 y17 (0 : Int32)))
theorem t_Mo_numbers_183 {h : ja_H} {y0 : Nat} {y1 : Int32} {y2 : Int32} {y3 : Int32} {y8 : Int32} {y9 : Int64} {y11 : Int64} {y13 : Int64} {y15 : Int64} {y17 : Int32} : ja_D ja_gV M_Mo_numbers 183 [some (.ref y0), some (.int y1), some (.int y2), some (.int y3), none, none, none, none, some (.int y8), some (.long y9), none, some (.long y11), none, some (.long y13), none, some (.long y15), none, some (.int y17), none, none, none, none, none, none, none, none, none, none, none, none, none, none, none] [] h (r_Mo_numbers_183 h y0 y1 y2 y3 y8 y9 y11 y13 y15 y17) := by
  unfold r_Mo_numbers_183
  refine jd_lload i_Mo_numbers_183 rfl ?_
  refine jd_lload i_Mo_numbers_185 rfl ?_
  refine jd_lcmp_ne 195 i_Mo_numbers_187 i_Mo_numbers_188 (by decide) ?_ ?_
  · refine jd_iconst 0 i_Mo_numbers_195 (by decide) ?_
    refine jd_goto 220 i_Mo_numbers_196 (by decide) ?_
    exact jd_less (t_Mo_numbers_220) ⟨rfl, rfl, rfl, rfl, rfl, rfl, rfl, rfl, rfl, rfl, trivial⟩
  · refine jd_iconst 1 i_Mo_numbers_191 (by decide) ?_
    refine jd_goto 220 i_Mo_numbers_192 (by decide) ?_
    exact jd_less (t_Mo_numbers_220) ⟨rfl, rfl, rfl, rfl, rfl, rfl, rfl, rfl, rfl, rfl, trivial⟩
noncomputable def r_Mo_numbers_149 (h : ja_H) (y0 : Nat) (y1 : Int32) (y2 : Int32) (y3 : Int32) (y8 : Int32) (y9 : Int64) (y11 : Int64) (y13 : Int64) (y15 : Int64) (y17 : Int32) : Option (ja_H) := (if y2 = (11 : Int32) then (if y13 = y15 then (r_Mo_numbers_220 h y0 y1 y2 y3 y8 y9 y11 y13 y15 y17 (1 : Int32)) else (r_Mo_numbers_220 h y0 y1 y2 y3 y8 y9 y11 y13 y15 y17 (0 : Int32))) else (if y2 = (8 : Int32) then (r_Mo_numbers_183 h y0 y1 y2 y3 y8 y9 y11 y13 y15 y17) else (if y2 = (13 : Int32) then (r_Mo_numbers_183 h y0 y1 y2 y3 y8 y9 y11 y13 y15 y17) else (if y9 = y11 then (if y13 = y15 then (r_Mo_numbers_220 h y0 y1 y2 y3 y8 y9 y11 y13 y15 y17 (1 : Int32)) else (r_Mo_numbers_219 h y0 y1 y2 y3 y8 y9 y11 y13 y15 y17)) else (r_Mo_numbers_219 h y0 y1 y2 y3 y8 y9 y11 y13 y15 y17)))))
theorem t_Mo_numbers_149 {h : ja_H} {y0 : Nat} {y1 : Int32} {y2 : Int32} {y3 : Int32} {y8 : Int32} {y9 : Int64} {y11 : Int64} {y13 : Int64} {y15 : Int64} {y17 : Int32} : ja_D ja_gV M_Mo_numbers 149 [some (.ref y0), some (.int y1), some (.int y2), some (.int y3), none, none, none, none, some (.int y8), some (.long y9), none, some (.long y11), none, some (.long y13), none, some (.long y15), none, some (.int y17), none, none, none, none, none, none, none, none, none, none, none, none, none, none, none] [] h (r_Mo_numbers_149 h y0 y1 y2 y3 y8 y9 y11 y13 y15 y17) := by
  unfold r_Mo_numbers_149
  refine jd_iload_n i_Mo_numbers_149 rfl ?_
  refine jd_bipush 11 i_Mo_numbers_150 (by decide) ?_
  refine jd_icmp_ne 171 i_Mo_numbers_152 (by decide) ?_ ?_
  · refine jd_iload_n i_Mo_numbers_171 rfl ?_
    refine jd_bipush 8 i_Mo_numbers_172 (by decide) ?_
    refine jd_icmp_eq 183 i_Mo_numbers_174 (by decide) ?_ ?_
    · exact jd_less (t_Mo_numbers_183) ⟨rfl, rfl, rfl, rfl, rfl, rfl, rfl, rfl, rfl, rfl, trivial⟩
    · refine jd_iload_n i_Mo_numbers_177 rfl ?_
      refine jd_bipush 13 i_Mo_numbers_178 (by decide) ?_
      refine jd_icmp_ne 199 i_Mo_numbers_180 (by decide) ?_ ?_
      · refine jd_lload i_Mo_numbers_199 rfl ?_
        refine jd_lload i_Mo_numbers_201 rfl ?_
        refine jd_lcmp_ne 219 i_Mo_numbers_203 i_Mo_numbers_204 (by decide) ?_ ?_
        · exact jd_less (t_Mo_numbers_219) ⟨rfl, rfl, rfl, rfl, rfl, rfl, rfl, rfl, rfl, rfl, trivial⟩
        · refine jd_lload i_Mo_numbers_207 rfl ?_
          refine jd_lload i_Mo_numbers_209 rfl ?_
          refine jd_lcmp_ne 219 i_Mo_numbers_211 i_Mo_numbers_212 (by decide) ?_ ?_
          · exact jd_less (t_Mo_numbers_219) ⟨rfl, rfl, rfl, rfl, rfl, rfl, rfl, rfl, rfl, rfl, trivial⟩
          · refine jd_iconst 1 i_Mo_numbers_215 (by decide) ?_
            refine jd_goto 220 i_Mo_numbers_216 (by decide) ?_
            exact jd_less (t_Mo_numbers_220) ⟨rfl, rfl, rfl, rfl, rfl, rfl, rfl, rfl, rfl, rfl, trivial⟩
      · exact jd_less (t_Mo_numbers_183) ⟨rfl, rfl, rfl, rfl, rfl, rfl, rfl, rfl, rfl, rfl, trivial⟩
  · refine jd_lload i_Mo_numbers_155 rfl ?_
    refine jd_lload i_Mo_numbers_157 rfl ?_
    refine jd_lcmp_ne 167 i_Mo_numbers_159 i_Mo_numbers_160 (by decide) ?_ ?_
    · refine jd_iconst 0 i_Mo_numbers_167 (by decide) ?_
      refine jd_goto 220 i_Mo_numbers_168 (by decide) ?_
      exact jd_less (t_Mo_numbers_220) ⟨rfl, rfl, rfl, rfl, rfl, rfl, rfl, rfl, rfl, rfl, trivial⟩
    · refine jd_iconst 1 i_Mo_numbers_163 (by decide) ?_
      refine jd_goto 220 i_Mo_numbers_164 (by decide) ?_
      exact jd_less (t_Mo_numbers_220) ⟨rfl, rfl, rfl, rfl, rfl, rfl, rfl, rfl, rfl, rfl, trivial⟩
noncomputable def r_Mo_numbers_141 (h : ja_H) (y0 : Nat) (y1 : Int32) (y2 : Int32) (y3 : Int32) (y8 : Int32) (y9 : Int64) (y11 : Int64) (y17 : Int32) : Option (ja_H) := (jl ((0 : Int64) : Int64) (fun (x1 : Int64) => (jl ((4294967295 : Int64) : Int64) (fun (x2 : Int64) => (r_Mo_numbers_149 h y0 y1 y2 y3 y8 y9 y11 x1 x2 y17)))))
theorem t_Mo_numbers_141 {h : ja_H} {y0 : Nat} {y1 : Int32} {y2 : Int32} {y3 : Int32} {y8 : Int32} {y9 : Int64} {y11 : Int64} {y17 : Int32} : ja_D ja_gV M_Mo_numbers 141 [some (.ref y0), some (.int y1), some (.int y2), some (.int y3), none, none, none, none, some (.int y8), some (.long y9), none, some (.long y11), none, none, none, none, none, some (.int y17), none, none, none, none, none, none, none, none, none, none, none, none, none, none, none] [] h (r_Mo_numbers_141 h y0 y1 y2 y3 y8 y9 y11 y17) := by
  unfold r_Mo_numbers_141
  refine jd_lconst 0 i_Mo_numbers_141 (by decide) ?_
  refine jd_lstore (fun x1 => [some (.ref y0), some (.int y1), some (.int y2), some (.int y3), none, none, none, none, some (.int y8), some (.long y9), none, some (.long y11), none, some (.long x1), none, none, none, some (.int y17), none, none, none, none, none, none, none, none, none, none, none, none, none, none, none]) i_Mo_numbers_142 (by decide) rfl (fun _ => rfl) (fun x1 => ?_)
  refine jd_ldc2 i_Mo_numbers_144 K_Mo_122 ?_
  refine jd_lstore (fun x2 => [some (.ref y0), some (.int y1), some (.int y2), some (.int y3), none, none, none, none, some (.int y8), some (.long y9), none, some (.long y11), none, some (.long x1), none, some (.long x2), none, some (.int y17), none, none, none, none, none, none, none, none, none, none, none, none, none, none, none]) i_Mo_numbers_147 (by decide) rfl (fun _ => rfl) (fun x2 => ?_)
  exact jd_less (t_Mo_numbers_149) ⟨rfl, rfl, rfl, rfl, rfl, rfl, rfl, rfl, rfl, rfl, trivial⟩
noncomputable def r_Mo_numbers_102 (h : ja_H) (y0 : Nat) (y1 : Int32) (y2 : Int32) (y3 : Int32) (y8 : Int32) (y9 : Int64) (y11 : Int64) (y13 : Int64) (y15 : Int64) (y17 : Int32) : Option (ja_H) := (if y13 = y15 then (jl ((y13 &&& (4294967295 : Int64)) : Int64) (fun (x1 : Int64) => (jl (x1 : Int64) (fun (x2 : Int64) => (r_Mo_numbers_149 h y0 y1 y2 y3 y8 y9 y11 x1 x2 y17))))) else (if y13 < (0 : Int64) then (r_Mo_numbers_141 h y0 y1 y2 y3 y8 y9 y11 y17) else (if y15 ≤ (4294967295 : Int64) then (r_Mo_numbers_149 h y0 y1 y2 y3 y8 y9 y11 y13 y15 y17) else (r_Mo_numbers_141 h y0 y1 y2 y3 y8 y9 y11 y17))))
theorem t_Mo_numbers_102 {h : ja_H} {y0 : Nat} {y1 : Int32} {y2 : Int32} {y3 : Int32} {y8 : Int32} {y9 : Int64} {y11 : Int64} {y13 : Int64} {y15 : Int64} {y17 : Int32} : ja_D ja_gV M_Mo_numbers 102 [some (.ref y0), some (.int y1), some (.int y2), some (.int y3), none, none, none, none, some (.int y8), some (.long y9), none, some (.long y11), none, some (.long y13), none, some (.long y15), none, some (.int y17), none, none, none, none, none, none, none, none, none, none, none, none, none, none, none] [] h (r_Mo_numbers_102 h y0 y1 y2 y3 y8 y9 y11 y13 y15 y17) := by
  unfold r_Mo_numbers_102
  refine jd_lload i_Mo_numbers_102 rfl ?_
  refine jd_lload i_Mo_numbers_104 rfl ?_
  refine jd_lcmp_ne 125 i_Mo_numbers_106 i_Mo_numbers_107 (by decide) ?_ ?_
  · refine jd_lload i_Mo_numbers_125 rfl ?_
    refine jd_lconst 0 i_Mo_numbers_127 (by decide) ?_
    refine jd_lcmp_lt 141 i_Mo_numbers_128 i_Mo_numbers_129 (by decide) ?_ ?_
    · exact jd_less (t_Mo_numbers_141) ⟨rfl, rfl, rfl, rfl, rfl, rfl, rfl, rfl, trivial⟩
    · refine jd_lload i_Mo_numbers_132 rfl ?_
      refine jd_ldc2 i_Mo_numbers_134 K_Mo_122 ?_
      refine jd_lcmp_le 149 i_Mo_numbers_137 i_Mo_numbers_138 (by decide) ?_ ?_
      · exact jd_less (t_Mo_numbers_149) ⟨rfl, rfl, rfl, rfl, rfl, rfl, rfl, rfl, rfl, rfl, trivial⟩
      · exact jd_less (t_Mo_numbers_141) ⟨rfl, rfl, rfl, rfl, rfl, rfl, rfl, rfl, trivial⟩
  · refine jd_lload i_Mo_numbers_110 rfl ?_
    refine jd_ldc2 i_Mo_numbers_112 K_Mo_122 ?_
    refine jd_land i_Mo_numbers_115 ?_
    refine jd_lstore (fun x1 => [some (.ref y0), some (.int y1), some (.int y2), some (.int y3), none, none, none, none, some (.int y8), some (.long y9), none, some (.long y11), none, some (.long x1), none, some (.long y15), none, some (.int y17), none, none, none, none, none, none, none, none, none, none, none, none, none, none, none]) i_Mo_numbers_116 (by decide) rfl (fun _ => rfl) (fun x1 => ?_)
    refine jd_lload i_Mo_numbers_118 rfl ?_
    refine jd_lstore (fun x2 => [some (.ref y0), some (.int y1), some (.int y2), some (.int y3), none, none, none, none, some (.int y8), some (.long y9), none, some (.long y11), none, some (.long x1), none, some (.long x2), none, some (.int y17), none, none, none, none, none, none, none, none, none, none, none, none, none, none, none]) i_Mo_numbers_120 (by decide) rfl (fun _ => rfl) (fun x2 => ?_)
    refine jd_goto 149 i_Mo_numbers_122 (by decide) ?_
    exact jd_less (t_Mo_numbers_149) ⟨rfl, rfl, rfl, rfl, rfl, rfl, rfl, rfl, rfl, rfl, trivial⟩
noncomputable def r_Mo_numbers_94 (h : ja_H) (y0 : Nat) (y1 : Int32) (y2 : Int32) (y3 : Int32) (y8 : Int32) (y13 : Int64) (y15 : Int64) (y17 : Int32) : Option (ja_H) := (jl ((0 : Int64) : Int64) (fun (x1 : Int64) => (jl ((4294967295 : Int64) : Int64) (fun (x2 : Int64) => (r_Mo_numbers_102 h y0 y1 y2 y3 y8 x1 x2 y13 y15 y17)))))
theorem t_Mo_numbers_94 {h : ja_H} {y0 : Nat} {y1 : Int32} {y2 : Int32} {y3 : Int32} {y8 : Int32} {y13 : Int64} {y15 : Int64} {y17 : Int32} : ja_D ja_gV M_Mo_numbers 94 [some (.ref y0), some (.int y1), some (.int y2), some (.int y3), none, none, none, none, some (.int y8), none, none, none, none, some (.long y13), none, some (.long y15), none, some (.int y17), none, none, none, none, none, none, none, none, none, none, none, none, none, none, none] [] h (r_Mo_numbers_94 h y0 y1 y2 y3 y8 y13 y15 y17) := by
  unfold r_Mo_numbers_94
  refine jd_lconst 0 i_Mo_numbers_94 (by decide) ?_
  refine jd_lstore (fun x1 => [some (.ref y0), some (.int y1), some (.int y2), some (.int y3), none, none, none, none, some (.int y8), some (.long x1), none, none, none, some (.long y13), none, some (.long y15), none, some (.int y17), none, none, none, none, none, none, none, none, none, none, none, none, none, none, none]) i_Mo_numbers_95 (by decide) rfl (fun _ => rfl) (fun x1 => ?_)
  refine jd_ldc2 i_Mo_numbers_97 K_Mo_122 ?_
  refine jd_lstore (fun x2 => [some (.ref y0), some (.int y1), some (.int y2), some (.int y3), none, none, none, none, some (.int y8), some (.long x1), none, some (.long x2), none, some (.long y13), none, some (.long y15), none, some (.int y17), none, none, none, none, none, none, none, none, none, none, none, none, none, none, none]) i_Mo_numbers_100 (by decide) rfl (fun _ => rfl) (fun x2 => ?_)
  exact jd_less (t_Mo_numbers_102) ⟨rfl, rfl, rfl, rfl, rfl, rfl, rfl, rfl, rfl, rfl, trivial⟩
noncomputable def r_Mo_numbers_48 (h : ja_H) (y0 : Nat) (y1 : Int32) (y2 : Int32) (y3 : Int32) (y8 : Int32) (y9 : Int64) (y11 : Int64) (y13 : Int64) (y15 : Int64) (z0 : Int32) : Option (ja_H) := (jl (z0 : Int32) (fun (x1 : Int32) => (if x1 = (0 : Int32) then (r_Mo_numbers_149 h y0 y1 y2 y3 y8 y9 y11 y13 y15 x1) else (if y9 = y11 then (jl ((y9 &&& (4294967295 : Int64)) : Int64) (fun (x2 : Int64) => (jl (x2 : Int64) (fun (x3 : Int64) => (r_Mo_numbers_102 h y0 y1 y2 y3 y8 x2 x3 y13 y15 x1))))) else (if y9 < (0 : Int64) then (r_Mo_numbers_94 h y0 y1 y2 y3 y8 y13 y15 x1) else (if y11 ≤ (4294967295 : Int64) then (r_Mo_numbers_102 h y0 y1 y2 y3 y8 y9 y11 y13 y15 x1) else (r_Mo_numbers_94 h y0 y1 y2 y3 y8 y13 y15 x1)))))))
theorem t_Mo_numbers_48 {h : ja_H} {y0 : Nat} {y1 : Int32} {y2 : Int32} {y3 : Int32} {y8 : Int32} {y9 : Int64} {y11 : Int64} {y13 : Int64} {y15 : Int64} {z0 : Int32} : ja_D ja_gV M_Mo_numbers 48 [some (.ref y0), some (.int y1), some (.int y2), some (.int y3), none, none, none, none, some (.int y8), some (.long y9), none, some (.long y11), none, some (.long y13), none, some (.long y15), none, none, none, none, none, none, none, none, none, none, none, none, none, none, none, none, none] [.int z0] h (r_Mo_numbers_48 h y0 y1 y2 y3 y8 y9 y11 y13 y15 z0) := by
  unfold r_Mo_numbers_48
  refine jd_istore (fun x1 => [some (.ref y0), some (.int y1), some (.int y2), some (.int y3), none, none, none, none, some (.int y8), some (.long y9), none, some (.long y11), none, some (.long y13), none, some (.long y15), none, some (.int x1), none, none, none, none, none, none, none, none, none, none, none, none, none, none, none]) i_Mo_numbers_48 (by decide) rfl (fun _ => rfl) (fun x1 => ?_)
  refine jd_iload i_Mo_numbers_50 rfl ?_
  refine jd_if_eq 149 i_Mo_numbers_52 (by decide) ?_ ?_
  · exact jd_less (t_Mo_numbers_149) ⟨rfl, rfl, rfl, rfl, rfl, rfl, rfl, rfl, rfl, rfl, trivial⟩
  · refine jd_lload i_Mo_numbers_55 rfl ?_
    refine jd_lload i_Mo_numbers_57 rfl ?_
    refine jd_lcmp_ne 78 i_Mo_numbers_59 i_Mo_numbers_60 (by decide) ?_ ?_
    · refine jd_lload i_Mo_numbers_78 rfl ?_
      refine jd_lconst 0 i_Mo_numbers_80 (by decide) ?_
      refine jd_lcmp_lt 94 i_Mo_numbers_81 i_Mo_numbers_82 (by decide) ?_ ?_
      · exact jd_less (t_Mo_numbers_94) ⟨rfl, rfl, rfl, rfl, rfl, rfl, rfl, rfl, trivial⟩
      · refine jd_lload i_Mo_numbers_85 rfl ?_
        refine jd_ldc2 i_Mo_numbers_87 K_Mo_122 ?_
        refine jd_lcmp_le 102 i_Mo_numbers_90 i_Mo_numbers_91 (by decide) ?_ ?_
        · exact jd_less (t_Mo_numbers_102) ⟨rfl, rfl, rfl, rfl, rfl, rfl, rfl, rfl, rfl, rfl, trivial⟩
        · exact jd_less (t_Mo_numbers_94) ⟨rfl, rfl, rfl, rfl, rfl, rfl, rfl, rfl, trivial⟩
    · refine jd_lload i_Mo_numbers_63 rfl ?_
      refine jd_ldc2 i_Mo_numbers_65 K_Mo_122 ?_
      refine jd_land i_Mo_numbers_68 ?_
      refine jd_lstore (fun x2 => [some (.ref y0), some (.int y1), some (.int y2), some (.int y3), none, none, none, none, some (.int y8), some (.long x2), none, some (.long y11), none, some (.long y13), none, some (.long y15), none, some (.int x1), none, none, none, none, none, none, none, none, none, none, none, none, none, none, none]) i_Mo_numbers_69 (by decide) rfl (fun _ => rfl) (fun x2 => ?_)
      refine jd_lload i_Mo_numbers_71 rfl ?_
      refine jd_lstore (fun x3 => [some (.ref y0), some (.int y1), some (.int y2), some (.int y3), none, none, none, none, some (.int y8), some (.long x2), none, some (.long x3), none, some (.long y13), none, some (.long y15), none, some (.int x1), none, none, none, none, none, none, none, none, none, none, none, none, none, none, none]) i_Mo_numbers_73 (by decide) rfl (fun _ => rfl) (fun x3 => ?_)
      refine jd_goto 102 i_Mo_numbers_75 (by decide) ?_
      exact jd_less (t_Mo_numbers_102) ⟨rfl, rfl, rfl, rfl, rfl, rfl, rfl, rfl, rfl, rfl, trivial⟩
noncomputable def r_Mo_numbers_47 (h : ja_H) (y0 : Nat) (y1 : Int32) (y2 : Int32) (y3 : Int32) (y8 : Int32) (y9 : Int64) (y11 : Int64) (y13 : Int64) (y15 : Int64) : Option (ja_H) := (r_Mo_numbers_48 h y0 y1 y2 y3 y8 y9 y11 y13 y15 (0 : Int32))
theorem t_Mo_numbers_47 {h : ja_H} {y0 : Nat} {y1 : Int32} {y2 : Int32} {y3 : Int32} {y8 : Int32} {y9 : Int64} {y11 : Int64} {y13 : Int64} {y15 : Int64} : ja_D ja_gV M_Mo_numbers 47 [some (.ref y0), some (.int y1), some (.int y2), some (.int y3), none, none, none, none, some (.int y8), some (.long y9), none, some (.long y11), none, some (.long y13), none, some (.long y15), none, none, none, none, none, none, none, none, none, none, none, none, none, none, none, none, none] [] h (r_Mo_numbers_47 h y0 y1 y2 y3 y8 y9 y11 y13 y15) := by
  unfold r_Mo_numbers_47
  refine jd_iconst 0 i_Mo_numbers_47 (by decide) ?_
  exact jd_less (t_Mo_numbers_48) ⟨rfl, rfl, rfl, rfl, rfl, rfl, rfl, rfl, rfl, trivial⟩
noncomputable def r_Mo_numbers (h : ja_H) (a0 : Nat) (a1 : Int32) (a2 : Int32) (a3 : Int32) (a4 : Int64) (a6 : Int64) : Option (ja_H) := (jk h a0 9 (jc_I (r_Mo_d h a0 a1) (fun v102 h101 => (jl (v102 : Int32) (fun (x103 : Int32) => (jk h101 a0 9 (jc_L (r_Mo_least h101 a0 a1 x103) (fun v105 h104 => (jl (v105 : Int64) (fun (x106 : Int64) => (jk h104 a0 9 (jc_L (r_Mo_most h104 a0 a1 x103) (fun v108 h107 => (jl (v108 : Int64) (fun (x109 : Int64) => (jl (a4 : Int64) (fun (x110 : Int64) => (jl (a6 : Int64) (fun (x111 : Int64) => (if a3 = (0 : Int32) then (if a2 = (13 : Int32) then (r_Mo_numbers_47 h107 a0 a1 a2 a3 x103 x106 x109 x110 x111) else (r_Mo_numbers_48 h107 a0 a1 a2 a3 x103 x106 x109 x110 x111 (1 : Int32))) else (r_Mo_numbers_47 h107 a0 a1 a2 a3 x103 x106 x109 x110 x111)))))))))))))))))))))
theorem e_Mo_numbers {h : ja_H} {a0 : Nat} {a1 : Int32} {a2 : Int32} {a3 : Int32} {a4 : Int64} {a6 : Int64} : ja_D ja_gV M_Mo_numbers 0 [some (.ref a0), some (.int a1), some (.int a2), some (.int a3), some (.long a4), none, some (.long a6), none, none, none, none, none, none, none, none, none, none, none, none, none, none, none, none, none, none, none, none, none, none, none, none, none, none] [] h (r_Mo_numbers h a0 a1 a2 a3 a4 a6) := by
  unfold r_Mo_numbers
  refine jd_aload_n i_Mo_numbers_0 rfl ?_
  refine jd_iload_n i_Mo_numbers_1 rfl ?_
  refine jd_callVI G_Mo_107 in_Mo_d se_Mo_d rfl (fun _ e => c_Mo_d e) rfl ⟨by decide, by decide⟩ rfl (Nat.le_of_ble_eq_true rfl) i_Mo_numbers_2 (fun v102 h101 => ?_)
  refine jd_istore (fun x103 => [some (.ref a0), some (.int a1), some (.int a2), some (.int a3), some (.long a4), none, some (.long a6), none, some (.int x103), none, none, none, none, none, none, none, none, none, none, none, none, none, none, none, none, none, none, none, none, none, none, none, none]) i_Mo_numbers_5 (by decide) rfl (fun _ => rfl) (fun x103 => ?_)
  refine jd_aload_n i_Mo_numbers_7 rfl ?_
  refine jd_iload_n i_Mo_numbers_8 rfl ?_
  refine jd_iload i_Mo_numbers_9 rfl ?_
  refine jd_callVL G_Mo_148 in_Mo_least se_Mo_least rfl (fun _ e => c_Mo_least e) rfl ⟨by decide, by decide⟩ rfl (Nat.le_of_ble_eq_true rfl) i_Mo_numbers_11 (fun v105 h104 => ?_)
  refine jd_lstore (fun x106 => [some (.ref a0), some (.int a1), some (.int a2), some (.int a3), some (.long a4), none, some (.long a6), none, some (.int x103), some (.long x106), none, none, none, none, none, none, none, none, none, none, none, none, none, none, none, none, none, none, none, none, none, none, none]) i_Mo_numbers_14 (by decide) rfl (fun _ => rfl) (fun x106 => ?_)
  refine jd_aload_n i_Mo_numbers_16 rfl ?_
  refine jd_iload_n i_Mo_numbers_17 rfl ?_
  refine jd_iload i_Mo_numbers_18 rfl ?_
  refine jd_callVL G_Mo_152 in_Mo_most se_Mo_most rfl (fun _ e => c_Mo_most e) rfl ⟨by decide, by decide⟩ rfl (Nat.le_of_ble_eq_true rfl) i_Mo_numbers_20 (fun v108 h107 => ?_)
  refine jd_lstore (fun x109 => [some (.ref a0), some (.int a1), some (.int a2), some (.int a3), some (.long a4), none, some (.long a6), none, some (.int x103), some (.long x106), none, some (.long x109), none, none, none, none, none, none, none, none, none, none, none, none, none, none, none, none, none, none, none, none, none]) i_Mo_numbers_23 (by decide) rfl (fun _ => rfl) (fun x109 => ?_)
  refine jd_lload i_Mo_numbers_25 rfl ?_
  refine jd_lstore (fun x110 => [some (.ref a0), some (.int a1), some (.int a2), some (.int a3), some (.long a4), none, some (.long a6), none, some (.int x103), some (.long x106), none, some (.long x109), none, some (.long x110), none, none, none, none, none, none, none, none, none, none, none, none, none, none, none, none, none, none, none]) i_Mo_numbers_27 (by decide) rfl (fun _ => rfl) (fun x110 => ?_)
  refine jd_lload i_Mo_numbers_29 rfl ?_
  refine jd_lstore (fun x111 => [some (.ref a0), some (.int a1), some (.int a2), some (.int a3), some (.long a4), none, some (.long a6), none, some (.int x103), some (.long x106), none, some (.long x109), none, some (.long x110), none, some (.long x111), none, none, none, none, none, none, none, none, none, none, none, none, none, none, none, none, none]) i_Mo_numbers_31 (by decide) rfl (fun _ => rfl) (fun x111 => ?_)
  refine jd_iload_n i_Mo_numbers_33 rfl ?_
  refine jd_if_ne 47 i_Mo_numbers_34 (by decide) ?_ ?_
  · exact jd_less (t_Mo_numbers_47) ⟨rfl, rfl, rfl, rfl, rfl, rfl, rfl, rfl, rfl, trivial⟩
  · refine jd_iload_n i_Mo_numbers_37 rfl ?_
    refine jd_bipush 13 i_Mo_numbers_38 (by decide) ?_
    refine jd_icmp_eq 47 i_Mo_numbers_40 (by decide) ?_ ?_
    · exact jd_less (t_Mo_numbers_47) ⟨rfl, rfl, rfl, rfl, rfl, rfl, rfl, rfl, rfl, trivial⟩
    · refine jd_iconst 1 i_Mo_numbers_43 (by decide) ?_
      refine jd_goto 48 i_Mo_numbers_44 (by decide) ?_
      exact jd_less (t_Mo_numbers_48) ⟨rfl, rfl, rfl, rfl, rfl, rfl, rfl, rfl, rfl, trivial⟩
theorem c_Mo_numbers {h : ja_H} {a0 : Nat} {a1 : Int32} {a2 : Int32} {a3 : Int32} {a4 : Int64} {a6 : Int64} {o : ja_H} (e : r_Mo_numbers h a0 a1 a2 a3 a4 a6 = some o) : ja_M (2, 65) y_Mo_numbers b_Mo_numbers 33 (none) [.ref a0, .int a1, .int a2, .int a3, .long a4, .long a6] h [] o := jc_of (g := ja_gV) false _ e e_Mo_numbers rfl (by decide +kernel) (fun q => nomatch q) (Nat.le_of_ble_eq_true rfl) (fun _ q => nomatch q) (Nat.le_of_ble_eq_true rfl)
