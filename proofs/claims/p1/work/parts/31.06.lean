noncomputable def r_St_isKept_14 (h : ja_H) (z0 : Int32) : Option (Int32 × ja_H) := (jb z0 (some (z0, h)))
theorem t_St_isKept_14 {h : ja_H} {z0 : Int32} : ja_D ja_gI M_St_isKept 14 [none, none] [.int z0] h (r_St_isKept_14 h z0) := by
  unfold r_St_isKept_14
  exact jd_zreturn i_St_isKept_14 rfl
noncomputable def r_St_isKept (h : ja_H) (a0 : Nat) (a1 : Int32) : Option (Int32 × ja_H) := (jf_R h a0 6 0 (fun a101 => (je_I h a101 0 a1 (fun v102 => (if v102 = (0 : Int32) then (r_St_isKept_14 h (0 : Int32)) else (r_St_isKept_14 h (1 : Int32)))))))
theorem e_St_isKept {h : ja_H} {a0 : Nat} {a1 : Int32} : ja_D ja_gI M_St_isKept 0 [some (.ref a0), some (.int a1)] [] h (r_St_isKept h a0 a1) := by
  unfold r_St_isKept
  refine jd_aload_n i_St_isKept_0 rfl ?_
  refine jd_getR F_St_11 i_St_isKept_1 (fun a101 => ?_)
  refine jd_iload_n i_St_isKept_4 rfl ?_
  refine jd_iald i_St_isKept_5 (fun v102 => ?_)
  refine jd_if_eq 13 i_St_isKept_6 (by decide) ?_ ?_
  · refine jd_iconst 0 i_St_isKept_13 (by decide) ?_
    exact jd_less (t_St_isKept_14) trivial
  · refine jd_iconst 1 i_St_isKept_9 (by decide) ?_
    refine jd_goto 14 i_St_isKept_10 (by decide) ?_
    exact jd_less (t_St_isKept_14) trivial
theorem c_St_isKept {h : ja_H} {a0 : Nat} {a1 : Int32} {o : Int32 × ja_H} (e : r_St_isKept h a0 a1 = some o) : ja_M (0, 0) y_St_isKept b_St_isKept 2 (some .boolean) [.ref a0, .int a1] h [.int o.1] o.2 := jc_of (g := ja_gI) false _ e e_St_isKept rfl (by decide +kernel) (fun q => nomatch q) (Nat.le_of_ble_eq_true rfl) (fun _ q => nomatch q) (Nat.le_of_ble_eq_true rfl)
noncomputable def r_St_isReadable_65 (h : ja_H) : Option (Int32 × ja_H) := (jb (0 : Int32) (some ((0 : Int32), h)))
theorem t_St_isReadable_65 {h : ja_H} : ja_D ja_gI M_St_isReadable 65 [none, none, none, none, none] [] h (r_St_isReadable_65 h) := by
  unfold r_St_isReadable_65
  refine jd_iconst 0 i_St_isReadable_65 (by decide) ?_
  exact jd_zreturn i_St_isReadable_66 rfl
noncomputable def r_St_isReadable_44 (C2 : ja_H → Nat → Int32 → Int32 → Int32 → Option (Int32 × ja_H)) (h : ja_H) (y0 : Nat) (y1 : Int32) (y2 : Int32) (y3 : Int32) (z0 : Int32) : Option (Int32 × ja_H) := (jl (z0 : Int32) (fun (x1 : Int32) => (if x1 = (0 : Int32) then (r_St_isReadable_65 h) else (jz_I (8 : Int32) (jk h y0 6 (jc_I (r_St_points h y0 ((16 : Int32) + (y3 / (8 : Int32)))) (fun v3 h2 => (if v3 = (0 : Int32) then (jl (y3 + 1 : Int32) (fun (x4 : Int32) => (C2 h2 y0 y1 y2 x4))) else (r_St_isReadable_65 h2)))))))))
theorem t_St_isReadable_44 {C2 : ja_H → Nat → Int32 → Int32 → Int32 → Option (Int32 × ja_H)} (k2 : ∀ (h : ja_H) (y0 : Nat) (y1 : Int32) (y2 : Int32) (y3 : Int32), ja_D ja_gI M_St_isReadable 2 [some (.ref y0), some (.int y1), some (.int y2), some (.int y3), none] [] h (C2 h y0 y1 y2 y3)) {h : ja_H} {y0 : Nat} {y1 : Int32} {y2 : Int32} {y3 : Int32} {z0 : Int32} : ja_D ja_gI M_St_isReadable 44 [some (.ref y0), some (.int y1), some (.int y2), some (.int y3), none] [.int z0] h (r_St_isReadable_44 C2 h y0 y1 y2 y3 z0) := by
  unfold r_St_isReadable_44
  refine jd_istore (fun x1 => [some (.ref y0), some (.int y1), some (.int y2), some (.int y3), some (.int x1)]) i_St_isReadable_44 (by decide) rfl (fun _ => rfl) (fun x1 => ?_)
  refine jd_iload i_St_isReadable_46 rfl ?_
  refine jd_if_eq 65 i_St_isReadable_48 (by decide) ?_ ?_
  · exact jd_less (t_St_isReadable_65) trivial
  · refine jd_aload_n i_St_isReadable_51 rfl ?_
    refine jd_bipush 16 i_St_isReadable_52 (by decide) ?_
    refine jd_iload_n i_St_isReadable_54 rfl ?_
    refine jd_bipush 8 i_St_isReadable_55 (by decide) ?_
    refine jd_idiv i_St_isReadable_57 ?_
    refine jd_iadd i_St_isReadable_58 ?_
    refine jd_callVI G_St_53 in_St_points se_St_points rfl (fun _ e => c_St_points e) rfl ⟨by decide, by decide⟩ rfl (Nat.le_of_ble_eq_true rfl) i_St_isReadable_59 (fun v3 h2 => ?_)
    refine jd_if_eq 67 i_St_isReadable_62 (by decide) ?_ ?_
    · refine jd_iinc (fun x4 => [some (.ref y0), some (.int y1), some (.int y2), some (.int x4), some (.int x1)]) i_St_isReadable_67 rfl rfl (by decide) rfl (fun _ => rfl) (fun x4 => ?_)
      refine jd_goto 2 i_St_isReadable_70 (by decide) ?_
      exact jd_less (k2 _ _ _ _ _) ⟨rfl, rfl, rfl, rfl, trivial⟩
    · exact jd_less (t_St_isReadable_65) trivial
noncomputable def r_St_isReadable_43 (C2 : ja_H → Nat → Int32 → Int32 → Int32 → Option (Int32 × ja_H)) (h : ja_H) (y0 : Nat) (y1 : Int32) (y2 : Int32) (y3 : Int32) : Option (Int32 × ja_H) := (r_St_isReadable_44 C2 h y0 y1 y2 y3 (0 : Int32))
theorem t_St_isReadable_43 {C2 : ja_H → Nat → Int32 → Int32 → Int32 → Option (Int32 × ja_H)} (k2 : ∀ (h : ja_H) (y0 : Nat) (y1 : Int32) (y2 : Int32) (y3 : Int32), ja_D ja_gI M_St_isReadable 2 [some (.ref y0), some (.int y1), some (.int y2), some (.int y3), none] [] h (C2 h y0 y1 y2 y3)) {h : ja_H} {y0 : Nat} {y1 : Int32} {y2 : Int32} {y3 : Int32} : ja_D ja_gI M_St_isReadable 43 [some (.ref y0), some (.int y1), some (.int y2), some (.int y3), none] [] h (r_St_isReadable_43 C2 h y0 y1 y2 y3) := by
  unfold r_St_isReadable_43
  refine jd_iconst 0 i_St_isReadable_43 (by decide) ?_
  exact jd_less (t_St_isReadable_44 k2) ⟨rfl, rfl, rfl, rfl, trivial⟩
noncomputable def q_St_isReadable_2 (C2 : ja_H → Nat → Int32 → Int32 → Int32 → Option (Int32 × ja_H)) (h : ja_H) (y0 : Nat) (y1 : Int32) (y2 : Int32) (y3 : Int32) : Option (Int32 × ja_H) := (if (y1 + y2) ≤ y3 then (jb (1 : Int32) (some ((1 : Int32), h))) else (if y3 < (0 : Int32) then (r_St_isReadable_43 C2 h y0 y1 y2 y3) else (if (512 : Int32) ≤ y3 then (r_St_isReadable_43 C2 h y0 y1 y2 y3) else (jf_R h y0 6 3 (fun a1 => (jz_I (8 : Int32) (je_I h a1 0 (y3 / (8 : Int32)) (fun v2 => (jz_I (8 : Int32) (if ((v2 >>> ((y3 - y3 / (8 : Int32) * (8 : Int32)) &&& 31)) &&& (1 : Int32)) = (0 : Int32) then (r_St_isReadable_43 C2 h y0 y1 y2 y3) else (r_St_isReadable_44 C2 h y0 y1 y2 y3 (1 : Int32))))))))))))
theorem t_St_isReadable_2 {C2 : ja_H → Nat → Int32 → Int32 → Int32 → Option (Int32 × ja_H)} (k2 : ∀ (h : ja_H) (y0 : Nat) (y1 : Int32) (y2 : Int32) (y3 : Int32), ja_D ja_gI M_St_isReadable 2 [some (.ref y0), some (.int y1), some (.int y2), some (.int y3), none] [] h (C2 h y0 y1 y2 y3)) {h : ja_H} {y0 : Nat} {y1 : Int32} {y2 : Int32} {y3 : Int32} : ja_D ja_gI M_St_isReadable 2 [some (.ref y0), some (.int y1), some (.int y2), some (.int y3), none] [] h (q_St_isReadable_2 C2 h y0 y1 y2 y3) := by
  unfold q_St_isReadable_2
  refine jd_iload_n i_St_isReadable_2 rfl ?_
  refine jd_iload_n i_St_isReadable_3 rfl ?_
  refine jd_iload_n i_St_isReadable_4 rfl ?_
  refine jd_iadd i_St_isReadable_5 ?_
  refine jd_icmp_ge 73 i_St_isReadable_6 (by decide) ?_ ?_
  · refine jd_iconst 1 i_St_isReadable_73 (by decide) ?_
    exact jd_zreturn i_St_isReadable_74 rfl
  · refine jd_iload_n i_St_isReadable_9 rfl ?_
    refine jd_if_lt 43 i_St_isReadable_10 (by decide) ?_ ?_
    · exact jd_less (t_St_isReadable_43 k2) ⟨rfl, rfl, rfl, rfl, trivial⟩
    · refine jd_iload_n i_St_isReadable_13 rfl ?_
      refine jd_sipush 512 i_St_isReadable_14 (by decide) ?_
      refine jd_icmp_ge 43 i_St_isReadable_17 (by decide) ?_ ?_
      · exact jd_less (t_St_isReadable_43 k2) ⟨rfl, rfl, rfl, rfl, trivial⟩
      · refine jd_aload_n i_St_isReadable_20 rfl ?_
        refine jd_getR F_St_22 i_St_isReadable_21 (fun a1 => ?_)
        refine jd_iload_n i_St_isReadable_24 rfl ?_
        refine jd_bipush 8 i_St_isReadable_25 (by decide) ?_
        refine jd_idiv i_St_isReadable_27 ?_
        refine jd_iald i_St_isReadable_28 (fun v2 => ?_)
        refine jd_iload_n i_St_isReadable_29 rfl ?_
        refine jd_bipush 8 i_St_isReadable_30 (by decide) ?_
        refine jd_irem i_St_isReadable_32 ?_
        refine jd_ishr i_St_isReadable_33 ?_
        refine jd_iconst 1 i_St_isReadable_34 (by decide) ?_
        refine jd_iand i_St_isReadable_35 ?_
        refine jd_if_eq 43 i_St_isReadable_36 (by decide) ?_ ?_
        · exact jd_less (t_St_isReadable_43 k2) ⟨rfl, rfl, rfl, rfl, trivial⟩
        · refine jd_iconst 1 i_St_isReadable_39 (by decide) ?_
          refine jd_goto 44 i_St_isReadable_40 (by decide) ?_
          exact jd_less (t_St_isReadable_44 k2) ⟨rfl, rfl, rfl, rfl, trivial⟩
noncomputable def r_St_isReadable_2 : Nat → ja_H → Nat → Int32 → Int32 → Int32 → Option (Int32 × ja_H) := ja_lo (q_St_isReadable_2) (fun _ _ _ _ _ => none)
theorem s_St_isReadable_2 : ∀ (n : Nat) (h : ja_H) (y0 : Nat) (y1 : Int32) (y2 : Int32) (y3 : Int32), ja_D ja_gI M_St_isReadable 2 [some (.ref y0), some (.int y1), some (.int y2), some (.int y3), none] [] h (r_St_isReadable_2 n h y0 y1 y2 y3) := by
  intro n
  induction n with
  | zero => intro h y0 y1 y2 y3 o e; cases e
  | succ n ih => intro h y0 y1 y2 y3; exact t_St_isReadable_2 ih
noncomputable def r_St_isReadable (h : ja_H) (a0 : Nat) (a1 : Int32) (a2 : Int32) : Option (Int32 × ja_H) := (jl (a1 : Int32) (fun (x101 : Int32) => (r_St_isReadable_2 ja_fu h a0 a1 a2 x101)))
theorem e_St_isReadable {h : ja_H} {a0 : Nat} {a1 : Int32} {a2 : Int32} : ja_D ja_gI M_St_isReadable 0 [some (.ref a0), some (.int a1), some (.int a2), none, none] [] h (r_St_isReadable h a0 a1 a2) := by
  unfold r_St_isReadable
  refine jd_iload_n i_St_isReadable_0 rfl ?_
  refine jd_istore_n (fun x101 => [some (.ref a0), some (.int a1), some (.int a2), some (.int x101), none]) i_St_isReadable_1 (by decide) rfl (fun _ => rfl) (fun x101 => ?_)
  exact jd_less (s_St_isReadable_2 ja_fu _ _ _ _ _) ⟨rfl, rfl, rfl, rfl, trivial⟩
theorem c_St_isReadable {h : ja_H} {a0 : Nat} {a1 : Int32} {a2 : Int32} {o : Int32 × ja_H} (e : r_St_isReadable h a0 a1 a2 = some o) : ja_M (1, 21) y_St_isReadable b_St_isReadable 5 (some .boolean) [.ref a0, .int a1, .int a2] h [.int o.1] o.2 := jc_of (g := ja_gI) false _ e e_St_isReadable rfl (by decide +kernel) (fun q => nomatch q) (Nat.le_of_ble_eq_true rfl) (fun _ q => nomatch q) (Nat.le_of_ble_eq_true rfl)
noncomputable def r_St_load (h : ja_H) (a0 : Nat) (a1 : Int32) (a2 : Nat) : Option (ja_H) := (jf_R h a0 6 0 (fun a101 => (je_I h a101 0 a1 (fun v102 => (jf_R h a0 6 1 (fun a103 => (je_L h a103 a1 (fun v104 => (jf_R h a0 6 2 (fun a105 => (je_L h a105 a1 (fun v106 => (jk h a2 7 (jc_V (r_Va_become h a2 v102 v104 v106) (fun h107 => (some h107))))))))))))))))
theorem e_St_load {h : ja_H} {a0 : Nat} {a1 : Int32} {a2 : Nat} : ja_D ja_gV M_St_load 0 [some (.ref a0), some (.int a1), some (.ref a2)] [] h (r_St_load h a0 a1 a2) := by
  unfold r_St_load
  refine jd_aload_n i_St_load_0 rfl ?_
  refine jd_aload_n i_St_load_1 rfl ?_
  refine jd_getR F_St_11 i_St_load_2 (fun a101 => ?_)
  refine jd_iload_n i_St_load_5 rfl ?_
  refine jd_iald i_St_load_6 (fun v102 => ?_)
  refine jd_aload_n i_St_load_7 rfl ?_
  refine jd_getR F_St_15 i_St_load_8 (fun a103 => ?_)
  refine jd_iload_n i_St_load_11 rfl ?_
  refine jd_lald i_St_load_12 (fun v104 => ?_)
  refine jd_aload_n i_St_load_13 rfl ?_
  refine jd_getR F_St_19 i_St_load_14 (fun a105 => ?_)
  refine jd_iload_n i_St_load_17 rfl ?_
  refine jd_lald i_St_load_18 (fun v106 => ?_)
  refine jd_callVV G_St_61 in_Va_become se_Va_become rfl (fun _ e => c_Va_become e) rfl ⟨by decide, by decide⟩ rfl (Nat.le_of_ble_eq_true rfl) i_St_load_19 (fun h107 => ?_)
  exact jd_return i_St_load_22 rfl
theorem c_St_load {h : ja_H} {a0 : Nat} {a1 : Int32} {a2 : Nat} {o : ja_H} (e : r_St_load h a0 a1 a2 = some o) : ja_M (1, 25) y_St_load b_St_load 3 (none) [.ref a0, .int a1, .ref a2] h [] o := jc_of (g := ja_gV) false _ e e_St_load rfl (by decide +kernel) (fun q => nomatch q) (Nat.le_of_ble_eq_true rfl) (fun _ q => nomatch q) (Nat.le_of_ble_eq_true rfl)
noncomputable def r_Ju_examineReading_143 (h : ja_H) : Option (Int32 × ja_H) := (some ((0 : Int32), h))
theorem t_Ju_examineReading_143 {h : ja_H} : ja_D ja_gI M_Ju_examineReading 143 [none, none, none, none, none] [] h (r_Ju_examineReading_143 h) := by
  unfold r_Ju_examineReading_143
  refine jd_iconst 0 i_Ju_examineReading_143 (by decide) ?_
  exact jd_ireturn i_Ju_examineReading_144 rfl
noncomputable def r_Ju_examineReading_110 (h : ja_H) (y0 : Nat) (y2 : Int32) : Option (Int32 × ja_H) := (if y2 = (8 : Int32) then (jf_R h y0 5 3 (fun a3 => (jk h a3 7 (jc_V (r_Va_becomeAny h a3) (fun h4 => (r_Ju_examineReading_143 h4)))))) else (jf_R h y0 5 3 (fun a1 => (jk h a1 7 (jc_V (r_Va_become h a1 (1 : Int32) (0 : Int64) (((1 : Int64) <<< (Int32.toInt64 ((8 : Int32) * y2) &&& 63)) - (1 : Int64))) (fun h2 => (r_Ju_examineReading_143 h2)))))))
theorem t_Ju_examineReading_110 {h : ja_H} {y0 : Nat} {y2 : Int32} : ja_D ja_gI M_Ju_examineReading 110 [some (.ref y0), none, some (.int y2), none, none] [] h (r_Ju_examineReading_110 h y0 y2) := by
  unfold r_Ju_examineReading_110
  refine jd_iload_n i_Ju_examineReading_110 rfl ?_
  refine jd_bipush 8 i_Ju_examineReading_111 (by decide) ?_
  refine jd_icmp_ne 126 i_Ju_examineReading_113 (by decide) ?_ ?_
  · refine jd_aload_n i_Ju_examineReading_126 rfl ?_
    refine jd_getR F_Ju_32 i_Ju_examineReading_127 (fun a1 => ?_)
    refine jd_iconst 1 i_Ju_examineReading_130 (by decide) ?_
    refine jd_lconst 0 i_Ju_examineReading_131 (by decide) ?_
    refine jd_lconst 1 i_Ju_examineReading_132 (by decide) ?_
    refine jd_bipush 8 i_Ju_examineReading_133 (by decide) ?_
    refine jd_iload_n i_Ju_examineReading_135 rfl ?_
    refine jd_imul i_Ju_examineReading_136 ?_
    refine jd_lshl i_Ju_examineReading_137 ?_
    refine jd_lconst 1 i_Ju_examineReading_138 (by decide) ?_
    refine jd_lsub i_Ju_examineReading_139 ?_
    refine jd_callVV G_Ju_142 in_Va_become se_Va_become rfl (fun _ e => c_Va_become e) rfl ⟨by decide, by decide⟩ rfl (Nat.le_of_ble_eq_true rfl) i_Ju_examineReading_140 (fun h2 => ?_)
    exact jd_less (t_Ju_examineReading_143) trivial
  · refine jd_aload_n i_Ju_examineReading_116 rfl ?_
    refine jd_getR F_Ju_32 i_Ju_examineReading_117 (fun a3 => ?_)
    refine jd_callVV G_Ju_248 in_Va_becomeAny se_Va_becomeAny rfl (fun _ e => c_Va_becomeAny e) rfl ⟨by decide, by decide⟩ rfl (Nat.le_of_ble_eq_true rfl) i_Ju_examineReading_120 (fun h4 => ?_)
    refine jd_goto 143 i_Ju_examineReading_123 (by decide) ?_
    exact jd_less (t_Ju_examineReading_143) trivial
noncomputable def r_Ju_examineReading_95 (h : ja_H) (y0 : Nat) (y2 : Int32) (y3 : Int32) : Option (Int32 × ja_H) := (jf_R h y0 5 1 (fun a1 => (jk h a1 6 (jc_I (r_St_isReadable h a1 y3 y2) (fun v3 h2 => (if v3 = (0 : Int32) then (some ((12 : Int32), h2)) else (r_Ju_examineReading_110 h2 y0 y2)))))))
theorem t_Ju_examineReading_95 {h : ja_H} {y0 : Nat} {y2 : Int32} {y3 : Int32} : ja_D ja_gI M_Ju_examineReading 95 [some (.ref y0), none, some (.int y2), some (.int y3), none] [] h (r_Ju_examineReading_95 h y0 y2 y3) := by
  unfold r_Ju_examineReading_95
  refine jd_aload_n i_Ju_examineReading_95 rfl ?_
  refine jd_getR F_Ju_18 i_Ju_examineReading_96 (fun a1 => ?_)
  refine jd_iload_n i_Ju_examineReading_99 rfl ?_
  refine jd_iload_n i_Ju_examineReading_100 rfl ?_
  refine jd_callVI G_Ju_244 in_St_isReadable se_St_isReadable rfl (fun _ e => c_St_isReadable e) rfl ⟨by decide, by decide⟩ rfl (Nat.le_of_ble_eq_true rfl) i_Ju_examineReading_101 (fun v3 h2 => ?_)
  refine jd_if_ne 110 i_Ju_examineReading_104 (by decide) ?_ ?_
  · exact jd_less (t_Ju_examineReading_110) ⟨rfl, rfl, trivial⟩
  · refine jd_bipush 12 i_Ju_examineReading_107 (by decide) ?_
    exact jd_ireturn i_Ju_examineReading_109 rfl
noncomputable def r_Ju_examineReading_61 (h : ja_H) (y0 : Nat) (y2 : Int32) (y3 : Int32) (z0 : Int32) : Option (Int32 × ja_H) := (jl (z0 : Int32) (fun (x1 : Int32) => (if x1 < (0 : Int32) then (r_Ju_examineReading_95 h y0 y2 y3) else (jf_R h y0 5 1 (fun a2 => (jk h a2 6 (jc_I (r_St_isKept h a2 x1) (fun v4 h3 => (if v4 = (0 : Int32) then (r_Ju_examineReading_95 h3 y0 y2 y3) else (jf_R h3 y0 5 1 (fun a5 => (jf_R h3 y0 5 3 (fun a6 => (jk h3 a5 6 (jc_V (r_St_load h3 a5 x1 a6) (fun h7 => (some ((0 : Int32), h7))))))))))))))))))
theorem t_Ju_examineReading_61 {h : ja_H} {y0 : Nat} {y2 : Int32} {y3 : Int32} {z0 : Int32} : ja_D ja_gI M_Ju_examineReading 61 [some (.ref y0), none, some (.int y2), some (.int y3), none] [.int z0] h (r_Ju_examineReading_61 h y0 y2 y3 z0) := by
  unfold r_Ju_examineReading_61
  refine jd_istore (fun x1 => [some (.ref y0), none, some (.int y2), some (.int y3), some (.int x1)]) i_Ju_examineReading_61 (by decide) rfl (fun _ => rfl) (fun x1 => ?_)
  refine jd_iload i_Ju_examineReading_63 rfl ?_
  refine jd_if_lt 95 i_Ju_examineReading_65 (by decide) ?_ ?_
  · exact jd_less (t_Ju_examineReading_95) ⟨rfl, rfl, rfl, trivial⟩
  · refine jd_aload_n i_Ju_examineReading_68 rfl ?_
    refine jd_getR F_Ju_18 i_Ju_examineReading_69 (fun a2 => ?_)
    refine jd_iload i_Ju_examineReading_72 rfl ?_
    refine jd_callVI G_Ju_241 in_St_isKept se_St_isKept rfl (fun _ e => c_St_isKept e) rfl ⟨by decide, by decide⟩ rfl (Nat.le_of_ble_eq_true rfl) i_Ju_examineReading_74 (fun v4 h3 => ?_)
    refine jd_if_eq 95 i_Ju_examineReading_77 (by decide) ?_ ?_
    · exact jd_less (t_Ju_examineReading_95) ⟨rfl, rfl, rfl, trivial⟩
    · refine jd_aload_n i_Ju_examineReading_80 rfl ?_
      refine jd_getR F_Ju_18 i_Ju_examineReading_81 (fun a5 => ?_)
      refine jd_iload i_Ju_examineReading_84 rfl ?_
      refine jd_aload_n i_Ju_examineReading_86 rfl ?_
      refine jd_getR F_Ju_32 i_Ju_examineReading_87 (fun a6 => ?_)
      refine jd_callVV G_Ju_54 in_St_load se_St_load rfl (fun _ e => c_St_load e) rfl ⟨by decide, by decide⟩ rfl (Nat.le_of_ble_eq_true rfl) i_Ju_examineReading_90 (fun h7 => ?_)
      refine jd_iconst 0 i_Ju_examineReading_93 (by decide) ?_
      exact jd_ireturn i_Ju_examineReading_94 rfl
noncomputable def r_Ju_examineReading (h : ja_H) (a0 : Nat) : Option (Int32 × ja_H) := (jf_R h a0 5 4 (fun a101 => (jk h a0 5 (jc_I (r_Ju_examineReach h a0 a101) (fun v103 h102 => (jl (v103 : Int32) (fun (x104 : Int32) => (if x104 = (0 : Int32) then (jf_R h102 a0 5 2 (fun a105 => (jk h102 a105 4 (jc_I (r_Wo_size h102 a105) (fun v107 h106 => (jl (v107 : Int32) (fun (x108 : Int32) => (jf_R h106 a0 5 4 (fun a109 => (jf_I h106 a109 7 0 (fun v110 => (if v110 = (3 : Int32) then (jf_R h106 a0 5 4 (fun a111 => (jk h106 a0 5 (jc_I (r_Ju_octetAt h106 a0 a111) (fun v113 h112 => (jl (v113 : Int32) (fun (x114 : Int32) => (if x108 = (8 : Int32) then (jf_R h112 a0 5 1 (fun a115 => (jk h112 a115 6 (jc_I (r_St_eightAt h112 a115 x114) (fun v117 h116 => (r_Ju_examineReading_61 h116 a0 x108 x114 v117)))))) else (r_Ju_examineReading_61 h112 a0 x108 x114 (-1 : Int32)))))))))) else (r_Ju_examineReading_110 h106 a0 x108))))))))))))) else (some (x104, h102))))))))))
theorem e_Ju_examineReading {h : ja_H} {a0 : Nat} : ja_D ja_gI M_Ju_examineReading 0 [some (.ref a0), none, none, none, none] [] h (r_Ju_examineReading h a0) := by
  unfold r_Ju_examineReading
  refine jd_aload_n i_Ju_examineReading_0 rfl ?_
  refine jd_aload_n i_Ju_examineReading_1 rfl ?_
  refine jd_getR F_Ju_36 i_Ju_examineReading_2 (fun a101 => ?_)
  refine jd_callVI G_Ju_231 in_Ju_examineReach se_Ju_examineReach rfl (fun _ e => c_Ju_examineReach e) rfl ⟨by decide, by decide⟩ rfl (Nat.le_of_ble_eq_true rfl) i_Ju_examineReading_5 (fun v103 h102 => ?_)
  refine jd_istore_n (fun x104 => [some (.ref a0), some (.int x104), none, none, none]) i_Ju_examineReading_8 (by decide) rfl (fun _ => rfl) (fun x104 => ?_)
  refine jd_iload_n i_Ju_examineReading_9 rfl ?_
  refine jd_if_eq 15 i_Ju_examineReading_10 (by decide) ?_ ?_
  · refine jd_aload_n i_Ju_examineReading_15 rfl ?_
    refine jd_getR F_Ju_25 i_Ju_examineReading_16 (fun a105 => ?_)
    refine jd_callVI G_Ju_226 in_Wo_size se_Wo_size rfl (fun _ e => c_Wo_size e) rfl ⟨by decide, by decide⟩ rfl (Nat.le_of_ble_eq_true rfl) i_Ju_examineReading_19 (fun v107 h106 => ?_)
    refine jd_istore_n (fun x108 => [some (.ref a0), some (.int x104), some (.int x108), none, none]) i_Ju_examineReading_22 (by decide) rfl (fun _ => rfl) (fun x108 => ?_)
    refine jd_aload_n i_Ju_examineReading_23 rfl ?_
    refine jd_getR F_Ju_36 i_Ju_examineReading_24 (fun a109 => ?_)
    refine jd_getI F_Ju_58 i_Ju_examineReading_27 (fun v110 => ?_)
    refine jd_iconst 3 i_Ju_examineReading_30 (by decide) ?_
    refine jd_icmp_ne 110 i_Ju_examineReading_31 (by decide) ?_ ?_
    · exact jd_less (t_Ju_examineReading_110) ⟨rfl, rfl, trivial⟩
    · refine jd_aload_n i_Ju_examineReading_34 rfl ?_
      refine jd_aload_n i_Ju_examineReading_35 rfl ?_
      refine jd_getR F_Ju_36 i_Ju_examineReading_36 (fun a111 => ?_)
      refine jd_callVI G_Ju_235 in_Ju_octetAt se_Ju_octetAt rfl (fun _ e => c_Ju_octetAt e) rfl ⟨by decide, by decide⟩ rfl (Nat.le_of_ble_eq_true rfl) i_Ju_examineReading_39 (fun v113 h112 => ?_)
      refine jd_istore_n (fun x114 => [some (.ref a0), some (.int x104), some (.int x108), some (.int x114), none]) i_Ju_examineReading_42 (by decide) rfl (fun _ => rfl) (fun x114 => ?_)
      refine jd_iload_n i_Ju_examineReading_43 rfl ?_
      refine jd_bipush 8 i_Ju_examineReading_44 (by decide) ?_
      refine jd_icmp_ne 60 i_Ju_examineReading_46 (by decide) ?_ ?_
      · refine jd_iconst (-1) i_Ju_examineReading_60 (by decide) ?_
        exact jd_less (t_Ju_examineReading_61) ⟨rfl, rfl, rfl, trivial⟩
      · refine jd_aload_n i_Ju_examineReading_49 rfl ?_
        refine jd_getR F_Ju_18 i_Ju_examineReading_50 (fun a115 => ?_)
        refine jd_iload_n i_Ju_examineReading_53 rfl ?_
        refine jd_callVI G_Ju_238 in_St_eightAt se_St_eightAt rfl (fun _ e => c_St_eightAt e) rfl ⟨by decide, by decide⟩ rfl (Nat.le_of_ble_eq_true rfl) i_Ju_examineReading_54 (fun v117 h116 => ?_)
        refine jd_goto 61 i_Ju_examineReading_57 (by decide) ?_
        exact jd_less (t_Ju_examineReading_61) ⟨rfl, rfl, rfl, trivial⟩
  · refine jd_iload_n i_Ju_examineReading_13 rfl ?_
    exact jd_ireturn i_Ju_examineReading_14 rfl
theorem c_Ju_examineReading {h : ja_H} {a0 : Nat} {o : Int32 × ja_H} (e : r_Ju_examineReading h a0 = some o) : ja_M (2, 47) y_Ju_examineReading b_Ju_examineReading 5 (some .int) [.ref a0] h [.int o.1] o.2 := jc_of (g := ja_gI) false _ e e_Ju_examineReading rfl (by decide +kernel) (fun q => nomatch q) (Nat.le_of_ble_eq_true rfl) (fun _ q => nomatch q) (Nat.le_of_ble_eq_true rfl)
noncomputable def r_St_keep (h : ja_H) (a0 : Nat) (a1 : Int32) (a2 : Nat) : Option (ja_H) := (jk h a0 6 (jc_V (r_St_save h a0 a1 a2) (fun h101 => (jf_R h101 a0 6 3 (fun a102 => (js_I h101 a102 (a1 - (16 : Int32)) (255 : Int32) (fun h103 => (some h103))))))))
theorem e_St_keep {h : ja_H} {a0 : Nat} {a1 : Int32} {a2 : Nat} : ja_D ja_gV M_St_keep 0 [some (.ref a0), some (.int a1), some (.ref a2)] [] h (r_St_keep h a0 a1 a2) := by
  unfold r_St_keep
  refine jd_aload_n i_St_keep_0 rfl ?_
  refine jd_iload_n i_St_keep_1 rfl ?_
  refine jd_aload_n i_St_keep_2 rfl ?_
  refine jd_callVV G_St_78 in_St_save se_St_save rfl (fun _ e => c_St_save e) rfl ⟨by decide, by decide⟩ rfl (Nat.le_of_ble_eq_true rfl) i_St_keep_3 (fun h101 => ?_)
  refine jd_aload_n i_St_keep_6 rfl ?_
  refine jd_getR F_St_22 i_St_keep_7 (fun a102 => ?_)
  refine jd_iload_n i_St_keep_10 rfl ?_
  refine jd_bipush 16 i_St_keep_11 (by decide) ?_
  refine jd_isub i_St_keep_13 ?_
  refine jd_sipush 255 i_St_keep_14 (by decide) ?_
  refine jd_iast i_St_keep_17 (fun h103 => ?_)
  exact jd_return i_St_keep_18 rfl
theorem c_St_keep {h : ja_H} {a0 : Nat} {a1 : Int32} {a2 : Nat} {o : ja_H} (e : r_St_keep h a0 a1 a2 = some o) : ja_M (1, 22) y_St_keep b_St_keep 3 (none) [.ref a0, .int a1, .ref a2] h [] o := jc_of (g := ja_gV) false _ e e_St_keep rfl (by decide +kernel) (fun q => nomatch q) (Nat.le_of_ble_eq_true rfl) (fun _ q => nomatch q) (Nat.le_of_ble_eq_true rfl)
noncomputable def r_St_loseKept_18 (h : ja_H) (y0 : Nat) (y1 : Int32) : Option (ja_H) := (jk h y0 6 (jc_V (r_St_clear h y0 ((16 : Int32) + y1)) (fun h1 => (some h1))))
theorem t_St_loseKept_18 {h : ja_H} {y0 : Nat} {y1 : Int32} : ja_D ja_gV M_St_loseKept 18 [some (.ref y0), some (.int y1)] [] h (r_St_loseKept_18 h y0 y1) := by
  unfold r_St_loseKept_18
  refine jd_aload_n i_St_loseKept_18 rfl ?_
  refine jd_bipush 16 i_St_loseKept_19 (by decide) ?_
  refine jd_iload_n i_St_loseKept_21 rfl ?_
  refine jd_iadd i_St_loseKept_22 ?_
  refine jd_callVV G_St_57 in_St_clear se_St_clear rfl (fun _ e => c_St_clear e) rfl ⟨by decide, by decide⟩ rfl (Nat.le_of_ble_eq_true rfl) i_St_loseKept_23 (fun h1 => ?_)
  exact jd_return i_St_loseKept_26 rfl
noncomputable def r_St_loseKept (h : ja_H) (a0 : Nat) (a1 : Int32) : Option (ja_H) := (jk h a0 6 (jc_I (r_St_points h a0 ((16 : Int32) + a1)) (fun v102 h101 => (if v102 = (0 : Int32) then (r_St_loseKept_18 h101 a0 a1) else (jf_R h101 a0 6 3 (fun a103 => (js_I h101 a103 a1 (0 : Int32) (fun h104 => (r_St_loseKept_18 h104 a0 a1)))))))))
theorem e_St_loseKept {h : ja_H} {a0 : Nat} {a1 : Int32} : ja_D ja_gV M_St_loseKept 0 [some (.ref a0), some (.int a1)] [] h (r_St_loseKept h a0 a1) := by
  unfold r_St_loseKept
  refine jd_aload_n i_St_loseKept_0 rfl ?_
  refine jd_bipush 16 i_St_loseKept_1 (by decide) ?_
  refine jd_iload_n i_St_loseKept_3 rfl ?_
  refine jd_iadd i_St_loseKept_4 ?_
  refine jd_callVI G_St_53 in_St_points se_St_points rfl (fun _ e => c_St_points e) rfl ⟨by decide, by decide⟩ rfl (Nat.le_of_ble_eq_true rfl) i_St_loseKept_5 (fun v102 h101 => ?_)
  refine jd_if_eq 18 i_St_loseKept_8 (by decide) ?_ ?_
  · exact jd_less (t_St_loseKept_18) ⟨rfl, rfl, trivial⟩
  · refine jd_aload_n i_St_loseKept_11 rfl ?_
    refine jd_getR F_St_22 i_St_loseKept_12 (fun a103 => ?_)
    refine jd_iload_n i_St_loseKept_15 rfl ?_
    refine jd_iconst 0 i_St_loseKept_16 (by decide) ?_
    refine jd_iast i_St_loseKept_17 (fun h104 => ?_)
    exact jd_less (t_St_loseKept_18) ⟨rfl, rfl, trivial⟩
theorem c_St_loseKept {h : ja_H} {a0 : Nat} {a1 : Int32} {o : ja_H} (e : r_St_loseKept h a0 a1 = some o) : ja_M (1, 21) y_St_loseKept b_St_loseKept 2 (none) [.ref a0, .int a1] h [] o := jc_of (g := ja_gV) false _ e e_St_loseKept rfl (by decide +kernel) (fun q => nomatch q) (Nat.le_of_ble_eq_true rfl) (fun _ q => nomatch q) (Nat.le_of_ble_eq_true rfl)
noncomputable def r_St_store_46 (C2 : ja_H → Nat → Int32 → Int32 → Int32 → Option (ja_H)) (h : ja_H) (y0 : Nat) (y1 : Int32) (y2 : Int32) (y3 : Int32) : Option (ja_H) := (jl (y3 + 1 : Int32) (fun (x1 : Int32) => (C2 h y0 y1 y2 x1)))
theorem t_St_store_46 {C2 : ja_H → Nat → Int32 → Int32 → Int32 → Option (ja_H)} (k2 : ∀ (h : ja_H) (y0 : Nat) (y1 : Int32) (y2 : Int32) (y3 : Int32), ja_D ja_gV M_St_store 2 [some (.ref y0), some (.int y1), some (.int y2), some (.int y3)] [] h (C2 h y0 y1 y2 y3)) {h : ja_H} {y0 : Nat} {y1 : Int32} {y2 : Int32} {y3 : Int32} : ja_D ja_gV M_St_store 46 [some (.ref y0), some (.int y1), some (.int y2), some (.int y3)] [] h (r_St_store_46 C2 h y0 y1 y2 y3) := by
  unfold r_St_store_46
  refine jd_iinc (fun x1 => [some (.ref y0), some (.int y1), some (.int y2), some (.int x1)]) i_St_store_46 rfl rfl (by decide) rfl (fun _ => rfl) (fun x1 => ?_)
  refine jd_goto 2 i_St_store_49 (by decide) ?_
  exact jd_less (k2 _ _ _ _ _) ⟨rfl, rfl, rfl, rfl, trivial⟩
noncomputable def q_St_store_2 (C2 : ja_H → Nat → Int32 → Int32 → Int32 → Option (ja_H)) (h : ja_H) (y0 : Nat) (y1 : Int32) (y2 : Int32) (y3 : Int32) : Option (ja_H) := (if (y1 + y2) ≤ y3 then (some h) else (if y3 < (0 : Int32) then (r_St_store_46 C2 h y0 y1 y2 y3) else (if (512 : Int32) ≤ y3 then (r_St_store_46 C2 h y0 y1 y2 y3) else (jz_I (8 : Int32) (jk h y0 6 (jc_V (r_St_loseKept h y0 (y3 / (8 : Int32))) (fun h1 => (jf_R h1 y0 6 3 (fun a2 => (jz_I (8 : Int32) (je_I h1 a2 0 (y3 / (8 : Int32)) (fun v3 => (jz_I (8 : Int32) (js_I h1 a2 (y3 / (8 : Int32)) (v3 ||| ((1 : Int32) <<< ((y3 - y3 / (8 : Int32) * (8 : Int32)) &&& 31))) (fun h4 => (r_St_store_46 C2 h4 y0 y1 y2 y3))))))))))))))))
theorem t_St_store_2 {C2 : ja_H → Nat → Int32 → Int32 → Int32 → Option (ja_H)} (k2 : ∀ (h : ja_H) (y0 : Nat) (y1 : Int32) (y2 : Int32) (y3 : Int32), ja_D ja_gV M_St_store 2 [some (.ref y0), some (.int y1), some (.int y2), some (.int y3)] [] h (C2 h y0 y1 y2 y3)) {h : ja_H} {y0 : Nat} {y1 : Int32} {y2 : Int32} {y3 : Int32} : ja_D ja_gV M_St_store 2 [some (.ref y0), some (.int y1), some (.int y2), some (.int y3)] [] h (q_St_store_2 C2 h y0 y1 y2 y3) := by
  unfold q_St_store_2
  refine jd_iload_n i_St_store_2 rfl ?_
  refine jd_iload_n i_St_store_3 rfl ?_
  refine jd_iload_n i_St_store_4 rfl ?_
  refine jd_iadd i_St_store_5 ?_
  refine jd_icmp_ge 52 i_St_store_6 (by decide) ?_ ?_
  · exact jd_return i_St_store_52 rfl
  · refine jd_iload_n i_St_store_9 rfl ?_
    refine jd_if_lt 46 i_St_store_10 (by decide) ?_ ?_
    · exact jd_less (t_St_store_46 k2) ⟨rfl, rfl, rfl, rfl, trivial⟩
    · refine jd_iload_n i_St_store_13 rfl ?_
      refine jd_sipush 512 i_St_store_14 (by decide) ?_
      refine jd_icmp_ge 46 i_St_store_17 (by decide) ?_ ?_
      · exact jd_less (t_St_store_46 k2) ⟨rfl, rfl, rfl, rfl, trivial⟩
      · refine jd_aload_n i_St_store_20 rfl ?_
        refine jd_iload_n i_St_store_21 rfl ?_
        refine jd_bipush 8 i_St_store_22 (by decide) ?_
        refine jd_idiv i_St_store_24 ?_
        refine jd_callVV G_St_82 in_St_loseKept se_St_loseKept rfl (fun _ e => c_St_loseKept e) rfl ⟨by decide, by decide⟩ rfl (Nat.le_of_ble_eq_true rfl) i_St_store_25 (fun h1 => ?_)
        refine jd_aload_n i_St_store_28 rfl ?_
        refine jd_getR F_St_22 i_St_store_29 (fun a2 => ?_)
        refine jd_iload_n i_St_store_32 rfl ?_
        refine jd_bipush 8 i_St_store_33 (by decide) ?_
        refine jd_idiv i_St_store_35 ?_
        refine jd_dup2 i_St_store_36 ?_
        refine jd_iald i_St_store_37 (fun v3 => ?_)
        refine jd_iconst 1 i_St_store_38 (by decide) ?_
        refine jd_iload_n i_St_store_39 rfl ?_
        refine jd_bipush 8 i_St_store_40 (by decide) ?_
        refine jd_irem i_St_store_42 ?_
        refine jd_ishl i_St_store_43 ?_
        refine jd_ior i_St_store_44 ?_
        refine jd_iast i_St_store_45 (fun h4 => ?_)
        exact jd_less (t_St_store_46 k2) ⟨rfl, rfl, rfl, rfl, trivial⟩
noncomputable def r_St_store_2 : Nat → ja_H → Nat → Int32 → Int32 → Int32 → Option (ja_H) := ja_lo (q_St_store_2) (fun _ _ _ _ _ => none)
theorem s_St_store_2 : ∀ (n : Nat) (h : ja_H) (y0 : Nat) (y1 : Int32) (y2 : Int32) (y3 : Int32), ja_D ja_gV M_St_store 2 [some (.ref y0), some (.int y1), some (.int y2), some (.int y3)] [] h (r_St_store_2 n h y0 y1 y2 y3) := by
  intro n
  induction n with
  | zero => intro h y0 y1 y2 y3 o e; cases e
  | succ n ih => intro h y0 y1 y2 y3; exact t_St_store_2 ih
noncomputable def r_St_store (h : ja_H) (a0 : Nat) (a1 : Int32) (a2 : Int32) : Option (ja_H) := (jl (a1 : Int32) (fun (x101 : Int32) => (r_St_store_2 ja_fu h a0 a1 a2 x101)))
theorem e_St_store {h : ja_H} {a0 : Nat} {a1 : Int32} {a2 : Int32} : ja_D ja_gV M_St_store 0 [some (.ref a0), some (.int a1), some (.int a2), none] [] h (r_St_store h a0 a1 a2) := by
  unfold r_St_store
  refine jd_iload_n i_St_store_0 rfl ?_
  refine jd_istore_n (fun x101 => [some (.ref a0), some (.int a1), some (.int a2), some (.int x101)]) i_St_store_1 (by decide) rfl (fun _ => rfl) (fun x101 => ?_)
  exact jd_less (s_St_store_2 ja_fu _ _ _ _ _) ⟨rfl, rfl, rfl, rfl, trivial⟩
theorem c_St_store {h : ja_H} {a0 : Nat} {a1 : Int32} {a2 : Int32} {o : ja_H} (e : r_St_store h a0 a1 a2 = some o) : ja_M (2, 42) y_St_store b_St_store 4 (none) [.ref a0, .int a1, .int a2] h [] o := jc_of (g := ja_gV) false _ e e_St_store rfl (by decide +kernel) (fun q => nomatch q) (Nat.le_of_ble_eq_true rfl) (fun _ q => nomatch q) (Nat.le_of_ble_eq_true rfl)
noncomputable def r_Ju_examineStoring_69 (h : ja_H) (y0 : Nat) (y2 : Int32) (z0 : Int32) : Option (Int32 × ja_H) := (jl (z0 : Int32) (fun (x1 : Int32) => (if x1 < (0 : Int32) then (jf_R h y0 5 4 (fun a2 => (jk h a2 7 (jc_I (r_Va_isPointer h a2) (fun v4 h3 => (if v4 = (0 : Int32) then (jf_R h3 y0 5 1 (fun a5 => (jf_R h3 y0 5 2 (fun a6 => (jk h3 a6 4 (jc_I (r_Wo_size h3 a6) (fun v8 h7 => (jk h7 a5 6 (jc_V (r_St_store h7 a5 y2 v8) (fun h9 => (some ((0 : Int32), h9)))))))))))) else (some ((13 : Int32), h3)))))))) else (jf_R h y0 5 1 (fun a10 => (jf_R h y0 5 4 (fun a11 => (jk h a10 6 (jc_V (r_St_keep h a10 x1 a11) (fun h12 => (some ((0 : Int32), h12))))))))))))
theorem t_Ju_examineStoring_69 {h : ja_H} {y0 : Nat} {y2 : Int32} {z0 : Int32} : ja_D ja_gI M_Ju_examineStoring 69 [some (.ref y0), none, some (.int y2), none, none] [.int z0] h (r_Ju_examineStoring_69 h y0 y2 z0) := by
  unfold r_Ju_examineStoring_69
  refine jd_istore (fun x1 => [some (.ref y0), none, some (.int y2), none, some (.int x1)]) i_Ju_examineStoring_69 (by decide) rfl (fun _ => rfl) (fun x1 => ?_)
  refine jd_iload i_Ju_examineStoring_71 rfl ?_
  refine jd_if_lt 91 i_Ju_examineStoring_73 (by decide) ?_ ?_
  · refine jd_aload_n i_Ju_examineStoring_91 rfl ?_
    refine jd_getR F_Ju_36 i_Ju_examineStoring_92 (fun a2 => ?_)
    refine jd_callVI G_Ju_171 in_Va_isPointer se_Va_isPointer rfl (fun _ e => c_Va_isPointer e) rfl ⟨by decide, by decide⟩ rfl (Nat.le_of_ble_eq_true rfl) i_Ju_examineStoring_95 (fun v4 h3 => ?_)
    refine jd_if_eq 104 i_Ju_examineStoring_98 (by decide) ?_ ?_
    · refine jd_aload_n i_Ju_examineStoring_104 rfl ?_
      refine jd_getR F_Ju_18 i_Ju_examineStoring_105 (fun a5 => ?_)
      refine jd_iload_n i_Ju_examineStoring_108 rfl ?_
      refine jd_aload_n i_Ju_examineStoring_109 rfl ?_
      refine jd_getR F_Ju_25 i_Ju_examineStoring_110 (fun a6 => ?_)
      refine jd_callVI G_Ju_226 in_Wo_size se_Wo_size rfl (fun _ e => c_Wo_size e) rfl ⟨by decide, by decide⟩ rfl (Nat.le_of_ble_eq_true rfl) i_Ju_examineStoring_113 (fun v8 h7 => ?_)
      refine jd_callVV G_Ju_254 in_St_store se_St_store rfl (fun _ e => c_St_store e) rfl ⟨by decide, by decide⟩ rfl (Nat.le_of_ble_eq_true rfl) i_Ju_examineStoring_116 (fun h9 => ?_)
      refine jd_iconst 0 i_Ju_examineStoring_119 (by decide) ?_
      exact jd_ireturn i_Ju_examineStoring_120 rfl
    · refine jd_bipush 13 i_Ju_examineStoring_101 (by decide) ?_
      exact jd_ireturn i_Ju_examineStoring_103 rfl
  · refine jd_aload_n i_Ju_examineStoring_76 rfl ?_
    refine jd_getR F_Ju_18 i_Ju_examineStoring_77 (fun a10 => ?_)
    refine jd_iload i_Ju_examineStoring_80 rfl ?_
    refine jd_aload_n i_Ju_examineStoring_82 rfl ?_
    refine jd_getR F_Ju_36 i_Ju_examineStoring_83 (fun a11 => ?_)
    refine jd_callVV G_Ju_251 in_St_keep se_St_keep rfl (fun _ e => c_St_keep e) rfl ⟨by decide, by decide⟩ rfl (Nat.le_of_ble_eq_true rfl) i_Ju_examineStoring_86 (fun h12 => ?_)
    refine jd_iconst 0 i_Ju_examineStoring_89 (by decide) ?_
    exact jd_ireturn i_Ju_examineStoring_90 rfl
noncomputable def r_Ju_examineStoring_52 (h : ja_H) (y0 : Nat) (y2 : Int32) (z0 : Int32) : Option (Int32 × ja_H) := (jl (z0 : Int32) (fun (x1 : Int32) => (if x1 = (0 : Int32) then (r_Ju_examineStoring_69 h y0 y2 (-1 : Int32)) else (jf_R h y0 5 1 (fun a2 => (jk h a2 6 (jc_I (r_St_eightAt h a2 y2) (fun v4 h3 => (r_Ju_examineStoring_69 h3 y0 y2 v4)))))))))
theorem t_Ju_examineStoring_52 {h : ja_H} {y0 : Nat} {y2 : Int32} {z0 : Int32} : ja_D ja_gI M_Ju_examineStoring 52 [some (.ref y0), none, some (.int y2), none, none] [.int z0] h (r_Ju_examineStoring_52 h y0 y2 z0) := by
  unfold r_Ju_examineStoring_52
  refine jd_istore_n (fun x1 => [some (.ref y0), none, some (.int y2), some (.int x1), none]) i_Ju_examineStoring_52 (by decide) rfl (fun _ => rfl) (fun x1 => ?_)
  refine jd_iload_n i_Ju_examineStoring_53 rfl ?_
  refine jd_if_eq 68 i_Ju_examineStoring_54 (by decide) ?_ ?_
  · refine jd_iconst (-1) i_Ju_examineStoring_68 (by decide) ?_
    exact jd_less (t_Ju_examineStoring_69) ⟨rfl, rfl, trivial⟩
  · refine jd_aload_n i_Ju_examineStoring_57 rfl ?_
    refine jd_getR F_Ju_18 i_Ju_examineStoring_58 (fun a2 => ?_)
    refine jd_iload_n i_Ju_examineStoring_61 rfl ?_
    refine jd_callVI G_Ju_238 in_St_eightAt se_St_eightAt rfl (fun _ e => c_St_eightAt e) rfl ⟨by decide, by decide⟩ rfl (Nat.le_of_ble_eq_true rfl) i_Ju_examineStoring_62 (fun v4 h3 => ?_)
    refine jd_goto 69 i_Ju_examineStoring_65 (by decide) ?_
    exact jd_less (t_Ju_examineStoring_69) ⟨rfl, rfl, trivial⟩
noncomputable def r_Ju_examineStoring_51 (h : ja_H) (y0 : Nat) (y2 : Int32) : Option (Int32 × ja_H) := (r_Ju_examineStoring_52 h y0 y2 (0 : Int32))
theorem t_Ju_examineStoring_51 {h : ja_H} {y0 : Nat} {y2 : Int32} : ja_D ja_gI M_Ju_examineStoring 51 [some (.ref y0), none, some (.int y2), none, none] [] h (r_Ju_examineStoring_51 h y0 y2) := by
  unfold r_Ju_examineStoring_51
  refine jd_iconst 0 i_Ju_examineStoring_51 (by decide) ?_
  exact jd_less (t_Ju_examineStoring_52) ⟨rfl, rfl, trivial⟩
noncomputable def r_Ju_examineStoring (h : ja_H) (a0 : Nat) : Option (Int32 × ja_H) := (jf_R h a0 5 3 (fun a101 => (jk h a0 5 (jc_I (r_Ju_examineReach h a0 a101) (fun v103 h102 => (jl (v103 : Int32) (fun (x104 : Int32) => (if x104 = (0 : Int32) then (jf_R h102 a0 5 3 (fun a105 => (jk h102 a0 5 (jc_I (r_Ju_octetAt h102 a0 a105) (fun v107 h106 => (jl (v107 : Int32) (fun (x108 : Int32) => (jf_R h106 a0 5 2 (fun a109 => (jf_I h106 a109 4 5 (fun v110 => (if v110 = (5 : Int32) then (jf_R h106 a0 5 2 (fun a111 => (jk h106 a111 4 (jc_I (r_Wo_size h106 a111) (fun v113 h112 => (if v113 = (8 : Int32) then (r_Ju_examineStoring_52 h112 a0 x108 (1 : Int32)) else (r_Ju_examineStoring_51 h112 a0 x108))))))) else (r_Ju_examineStoring_51 h106 a0 x108))))))))))))) else (some (x104, h102))))))))))
theorem e_Ju_examineStoring {h : ja_H} {a0 : Nat} : ja_D ja_gI M_Ju_examineStoring 0 [some (.ref a0), none, none, none, none] [] h (r_Ju_examineStoring h a0) := by
  unfold r_Ju_examineStoring
  refine jd_aload_n i_Ju_examineStoring_0 rfl ?_
  refine jd_aload_n i_Ju_examineStoring_1 rfl ?_
  refine jd_getR F_Ju_32 i_Ju_examineStoring_2 (fun a101 => ?_)
  refine jd_callVI G_Ju_231 in_Ju_examineReach se_Ju_examineReach rfl (fun _ e => c_Ju_examineReach e) rfl ⟨by decide, by decide⟩ rfl (Nat.le_of_ble_eq_true rfl) i_Ju_examineStoring_5 (fun v103 h102 => ?_)
  refine jd_istore_n (fun x104 => [some (.ref a0), some (.int x104), none, none, none]) i_Ju_examineStoring_8 (by decide) rfl (fun _ => rfl) (fun x104 => ?_)
  refine jd_iload_n i_Ju_examineStoring_9 rfl ?_
  refine jd_if_eq 15 i_Ju_examineStoring_10 (by decide) ?_ ?_
  · refine jd_aload_n i_Ju_examineStoring_15 rfl ?_
    refine jd_aload_n i_Ju_examineStoring_16 rfl ?_
    refine jd_getR F_Ju_32 i_Ju_examineStoring_17 (fun a105 => ?_)
    refine jd_callVI G_Ju_235 in_Ju_octetAt se_Ju_octetAt rfl (fun _ e => c_Ju_octetAt e) rfl ⟨by decide, by decide⟩ rfl (Nat.le_of_ble_eq_true rfl) i_Ju_examineStoring_20 (fun v107 h106 => ?_)
    refine jd_istore_n (fun x108 => [some (.ref a0), some (.int x104), some (.int x108), none, none]) i_Ju_examineStoring_23 (by decide) rfl (fun _ => rfl) (fun x108 => ?_)
    refine jd_aload_n i_Ju_examineStoring_24 rfl ?_
    refine jd_getR F_Ju_25 i_Ju_examineStoring_25 (fun a109 => ?_)
    refine jd_getI F_Ju_121 i_Ju_examineStoring_28 (fun v110 => ?_)
    refine jd_iconst 5 i_Ju_examineStoring_31 (by decide) ?_
    refine jd_icmp_ne 51 i_Ju_examineStoring_32 (by decide) ?_ ?_
    · exact jd_less (t_Ju_examineStoring_51) ⟨rfl, rfl, trivial⟩
    · refine jd_aload_n i_Ju_examineStoring_35 rfl ?_
      refine jd_getR F_Ju_25 i_Ju_examineStoring_36 (fun a111 => ?_)
      refine jd_callVI G_Ju_226 in_Wo_size se_Wo_size rfl (fun _ e => c_Wo_size e) rfl ⟨by decide, by decide⟩ rfl (Nat.le_of_ble_eq_true rfl) i_Ju_examineStoring_39 (fun v113 h112 => ?_)
      refine jd_bipush 8 i_Ju_examineStoring_42 (by decide) ?_
      refine jd_icmp_ne 51 i_Ju_examineStoring_44 (by decide) ?_ ?_
      · exact jd_less (t_Ju_examineStoring_51) ⟨rfl, rfl, trivial⟩
      · refine jd_iconst 1 i_Ju_examineStoring_47 (by decide) ?_
        refine jd_goto 52 i_Ju_examineStoring_48 (by decide) ?_
        exact jd_less (t_Ju_examineStoring_52) ⟨rfl, rfl, trivial⟩
  · refine jd_iload_n i_Ju_examineStoring_13 rfl ?_
    exact jd_ireturn i_Ju_examineStoring_14 rfl
theorem c_Ju_examineStoring {h : ja_H} {a0 : Nat} {o : Int32 × ja_H} (e : r_Ju_examineStoring h a0 = some o) : ja_M (3, 65) y_Ju_examineStoring b_Ju_examineStoring 5 (some .int) [.ref a0] h [.int o.1] o.2 := jc_of (g := ja_gI) false _ e e_Ju_examineStoring rfl (by decide +kernel) (fun q => nomatch q) (Nat.le_of_ble_eq_true rfl) (fun _ q => nomatch q) (Nat.le_of_ble_eq_true rfl)
noncomputable def r_Ju_goOn_61 (h : ja_H) (z0 : Int32) (z1 : Nat) : Option (ja_H) := (jk h z1 5 (jc_V (r_Ju_flowTo h z1 z0) (fun h1 => (some h1))))
theorem t_Ju_goOn_61 {h : ja_H} {z0 : Int32} {z1 : Nat} : ja_D ja_gV M_Ju_goOn 61 [none, none] [.int z0, .ref z1] h (r_Ju_goOn_61 h z0 z1) := by
  unfold r_Ju_goOn_61
  refine jd_callVV G_Ju_101 in_Ju_flowTo se_Ju_flowTo rfl (fun _ e => c_Ju_flowTo e) rfl ⟨by decide, by decide⟩ rfl (Nat.le_of_ble_eq_true rfl) i_Ju_goOn_61 (fun h1 => ?_)
  exact jd_return i_Ju_goOn_64 rfl
noncomputable def r_Ju_goOn_28 (h : ja_H) (y0 : Nat) (y1 : Int32) : Option (ja_H) := (jf_R h y0 5 2 (fun a1 => (jf_I h a1 4 5 (fun v2 => (if v2 = (6 : Int32) then (jf_R h y0 5 2 (fun a6 => (jk h a6 4 (jc_I (r_Wo_goalFrom h a6 y1) (fun v8 h7 => (r_Ju_goOn_61 h7 v8 y0)))))) else (jf_R h y0 5 2 (fun a3 => (jk h a3 4 (jc_I (r_Wo_words h a3) (fun v5 h4 => (r_Ju_goOn_61 h4 (y1 + v5) y0)))))))))))
theorem t_Ju_goOn_28 {h : ja_H} {y0 : Nat} {y1 : Int32} : ja_D ja_gV M_Ju_goOn 28 [some (.ref y0), some (.int y1)] [] h (r_Ju_goOn_28 h y0 y1) := by
  unfold r_Ju_goOn_28
  refine jd_aload_n i_Ju_goOn_28 rfl ?_
  refine jd_aload_n i_Ju_goOn_29 rfl ?_
  refine jd_getR F_Ju_25 i_Ju_goOn_30 (fun a1 => ?_)
  refine jd_getI F_Ju_121 i_Ju_goOn_33 (fun v2 => ?_)
  refine jd_bipush 6 i_Ju_goOn_36 (by decide) ?_
  refine jd_icmp_ne 52 i_Ju_goOn_38 (by decide) ?_ ?_
  · refine jd_iload_n i_Ju_goOn_52 rfl ?_
    refine jd_aload_n i_Ju_goOn_53 rfl ?_
    refine jd_getR F_Ju_25 i_Ju_goOn_54 (fun a3 => ?_)
    refine jd_callVI G_Ju_158 in_Wo_words se_Wo_words rfl (fun _ e => c_Wo_words e) rfl ⟨by decide, by decide⟩ rfl (Nat.le_of_ble_eq_true rfl) i_Ju_goOn_57 (fun v5 h4 => ?_)
    refine jd_iadd i_Ju_goOn_60 ?_
    exact jd_less (t_Ju_goOn_61) trivial
  · refine jd_aload_n i_Ju_goOn_41 rfl ?_
    refine jd_getR F_Ju_25 i_Ju_goOn_42 (fun a6 => ?_)
    refine jd_iload_n i_Ju_goOn_45 rfl ?_
    refine jd_callVI G_Ju_155 in_Wo_goalFrom se_Wo_goalFrom rfl (fun _ e => c_Wo_goalFrom e) rfl ⟨by decide, by decide⟩ rfl (Nat.le_of_ble_eq_true rfl) i_Ju_goOn_46 (fun v8 h7 => ?_)
    refine jd_goto 61 i_Ju_goOn_49 (by decide) ?_
    exact jd_less (t_Ju_goOn_61) trivial
noncomputable def r_Ju_goOn (h : ja_H) (a0 : Nat) (a1 : Int32) : Option (ja_H) := (jf_R h a0 5 2 (fun a101 => (jk h a101 4 (jc_I (r_Wo_getsD h a101) (fun v103 h102 => (if v103 = (0 : Int32) then (r_Ju_goOn_28 h102 a0 a1) else (jf_R h102 a0 5 1 (fun a104 => (jf_R h102 a0 5 2 (fun a105 => (jf_I h102 a105 4 1 (fun v106 => (jf_R h102 a0 5 3 (fun a107 => (jk h102 a104 6 (jc_V (r_St_save h102 a104 v106 a107) (fun h108 => (r_Ju_goOn_28 h108 a0 a1))))))))))))))))))
theorem e_Ju_goOn {h : ja_H} {a0 : Nat} {a1 : Int32} : ja_D ja_gV M_Ju_goOn 0 [some (.ref a0), some (.int a1)] [] h (r_Ju_goOn h a0 a1) := by
  unfold r_Ju_goOn
  refine jd_aload_n i_Ju_goOn_0 rfl ?_
  refine jd_getR F_Ju_25 i_Ju_goOn_1 (fun a101 => ?_)
  refine jd_callVI G_Ju_149 in_Wo_getsD se_Wo_getsD rfl (fun _ e => c_Wo_getsD e) rfl ⟨by decide, by decide⟩ rfl (Nat.le_of_ble_eq_true rfl) i_Ju_goOn_4 (fun v103 h102 => ?_)
  refine jd_if_eq 28 i_Ju_goOn_7 (by decide) ?_ ?_
  · exact jd_less (t_Ju_goOn_28) ⟨rfl, rfl, trivial⟩
  · refine jd_aload_n i_Ju_goOn_10 rfl ?_
    refine jd_getR F_Ju_18 i_Ju_goOn_11 (fun a104 => ?_)
    refine jd_aload_n i_Ju_goOn_14 rfl ?_
    refine jd_getR F_Ju_25 i_Ju_goOn_15 (fun a105 => ?_)
    refine jd_getI F_Ju_108 i_Ju_goOn_18 (fun v106 => ?_)
    refine jd_aload_n i_Ju_goOn_21 rfl ?_
    refine jd_getR F_Ju_32 i_Ju_goOn_22 (fun a107 => ?_)
    refine jd_callVV G_Ju_152 in_St_save se_St_save rfl (fun _ e => c_St_save e) rfl ⟨by decide, by decide⟩ rfl (Nat.le_of_ble_eq_true rfl) i_Ju_goOn_25 (fun h108 => ?_)
    exact jd_less (t_Ju_goOn_28) ⟨rfl, rfl, trivial⟩
theorem c_Ju_goOn {h : ja_H} {a0 : Nat} {a1 : Int32} {o : ja_H} (e : r_Ju_goOn h a0 a1 = some o) : ja_M (4, 89) y_Ju_goOn b_Ju_goOn 2 (none) [.ref a0, .int a1] h [] o := jc_of (g := ja_gV) false _ e e_Ju_goOn rfl (by decide +kernel) (fun q => nomatch q) (Nat.le_of_ble_eq_true rfl) (fun _ q => nomatch q) (Nat.le_of_ble_eq_true rfl)
noncomputable def r_Ju_loadRight_55 (h : ja_H) : Option (ja_H) := (some h)
theorem t_Ju_loadRight_55 {h : ja_H} : ja_D ja_gV M_Ju_loadRight 55 [none] [] h (r_Ju_loadRight_55 h) := by
  unfold r_Ju_loadRight_55
  exact jd_return i_Ju_loadRight_55 rfl
noncomputable def r_Ju_loadRight (h : ja_H) (a0 : Nat) : Option (ja_H) := (jf_R h a0 5 2 (fun a101 => (jk h a101 4 (jc_I (r_Wo_usesS h a101) (fun v103 h102 => (if v103 = (0 : Int32) then (jf_R h102 a0 5 4 (fun a104 => (jf_R h102 a0 5 2 (fun a105 => (jf_I h102 a105 4 4 (fun v106 => (jf_R h102 a0 5 2 (fun a107 => (jf_I h102 a107 4 4 (fun v108 => (jk h102 a104 7 (jc_V (r_Va_become h102 a104 (1 : Int32) (Int32.toInt64 v106) (Int32.toInt64 v108)) (fun h109 => (r_Ju_loadRight_55 h109)))))))))))))) else (jf_R h102 a0 5 1 (fun a110 => (jf_R h102 a0 5 2 (fun a111 => (jf_I h102 a111 4 2 (fun v112 => (jf_R h102 a0 5 4 (fun a113 => (jk h102 a110 6 (jc_V (r_St_load h102 a110 v112 a113) (fun h114 => (r_Ju_loadRight_55 h114))))))))))))))))))
theorem e_Ju_loadRight {h : ja_H} {a0 : Nat} : ja_D ja_gV M_Ju_loadRight 0 [some (.ref a0)] [] h (r_Ju_loadRight h a0) := by
  unfold r_Ju_loadRight
  refine jd_aload_n i_Ju_loadRight_0 rfl ?_
  refine jd_getR F_Ju_25 i_Ju_loadRight_1 (fun a101 => ?_)
  refine jd_callVI G_Ju_118 in_Wo_usesS se_Wo_usesS rfl (fun _ e => c_Wo_usesS e) rfl ⟨by decide, by decide⟩ rfl (Nat.le_of_ble_eq_true rfl) i_Ju_loadRight_4 (fun v103 h102 => ?_)
  refine jd_if_eq 31 i_Ju_loadRight_7 (by decide) ?_ ?_
  · refine jd_aload_n i_Ju_loadRight_31 rfl ?_
    refine jd_getR F_Ju_36 i_Ju_loadRight_32 (fun a104 => ?_)
    refine jd_iconst 1 i_Ju_loadRight_35 (by decide) ?_
    refine jd_aload_n i_Ju_loadRight_36 rfl ?_
    refine jd_getR F_Ju_25 i_Ju_loadRight_37 (fun a105 => ?_)
    refine jd_getI F_Ju_164 i_Ju_loadRight_40 (fun v106 => ?_)
    refine jd_i2l i_Ju_loadRight_43 ?_
    refine jd_aload_n i_Ju_loadRight_44 rfl ?_
    refine jd_getR F_Ju_25 i_Ju_loadRight_45 (fun a107 => ?_)
    refine jd_getI F_Ju_164 i_Ju_loadRight_48 (fun v108 => ?_)
    refine jd_i2l i_Ju_loadRight_51 ?_
    refine jd_callVV G_Ju_142 in_Va_become se_Va_become rfl (fun _ e => c_Va_become e) rfl ⟨by decide, by decide⟩ rfl (Nat.le_of_ble_eq_true rfl) i_Ju_loadRight_52 (fun h109 => ?_)
    exact jd_less (t_Ju_loadRight_55) trivial
  · refine jd_aload_n i_Ju_loadRight_10 rfl ?_
    refine jd_getR F_Ju_18 i_Ju_loadRight_11 (fun a110 => ?_)
    refine jd_aload_n i_Ju_loadRight_14 rfl ?_
    refine jd_getR F_Ju_25 i_Ju_loadRight_15 (fun a111 => ?_)
    refine jd_getI F_Ju_161 i_Ju_loadRight_18 (fun v112 => ?_)
    refine jd_aload_n i_Ju_loadRight_21 rfl ?_
    refine jd_getR F_Ju_36 i_Ju_loadRight_22 (fun a113 => ?_)
    refine jd_callVV G_Ju_54 in_St_load se_St_load rfl (fun _ e => c_St_load e) rfl ⟨by decide, by decide⟩ rfl (Nat.le_of_ble_eq_true rfl) i_Ju_loadRight_25 (fun h114 => ?_)
    refine jd_goto 55 i_Ju_loadRight_28 (by decide) ?_
    exact jd_less (t_Ju_loadRight_55) trivial
theorem c_Ju_loadRight {h : ja_H} {a0 : Nat} {o : ja_H} (e : r_Ju_loadRight h a0 = some o) : ja_M (2, 47) y_Ju_loadRight b_Ju_loadRight 1 (none) [.ref a0] h [] o := jc_of (g := ja_gV) false _ e e_Ju_loadRight rfl (by decide +kernel) (fun q => nomatch q) (Nat.le_of_ble_eq_true rfl) (fun _ q => nomatch q) (Nat.le_of_ble_eq_true rfl)
noncomputable def r_Wo_usesOldD_37 (h : ja_H) (z0 : Int32) : Option (Int32 × ja_H) := (jb z0 (some (z0, h)))
theorem t_Wo_usesOldD_37 {h : ja_H} {z0 : Int32} : ja_D ja_gI M_Wo_usesOldD 37 [none] [.int z0] h (r_Wo_usesOldD_37 h z0) := by
  unfold r_Wo_usesOldD_37
  exact jd_zreturn i_Wo_usesOldD_37 rfl
noncomputable def r_Wo_usesOldD_36 (h : ja_H) : Option (Int32 × ja_H) := (r_Wo_usesOldD_37 h (0 : Int32))
theorem t_Wo_usesOldD_36 {h : ja_H} : ja_D ja_gI M_Wo_usesOldD 36 [none] [] h (r_Wo_usesOldD_36 h) := by
  unfold r_Wo_usesOldD_36
  refine jd_iconst 0 i_Wo_usesOldD_36 (by decide) ?_
  exact jd_less (t_Wo_usesOldD_37) trivial
noncomputable def r_Wo_usesOldD_32 (h : ja_H) : Option (Int32 × ja_H) := (r_Wo_usesOldD_37 h (1 : Int32))
theorem t_Wo_usesOldD_32 {h : ja_H} : ja_D ja_gI M_Wo_usesOldD 32 [none] [] h (r_Wo_usesOldD_32 h) := by
  unfold r_Wo_usesOldD_32
  refine jd_iconst 1 i_Wo_usesOldD_32 (by decide) ?_
  refine jd_goto 37 i_Wo_usesOldD_33 (by decide) ?_
  exact jd_less (t_Wo_usesOldD_37) trivial
noncomputable def r_Wo_usesOldD (h : ja_H) (a0 : Nat) : Option (Int32 × ja_H) := (jk h a0 4 (jc_I (r_Wo_stores h a0) (fun v102 h101 => (if v102 = (0 : Int32) then (jf_I h101 a0 4 5 (fun v103 => (if v103 = (2 : Int32) then (r_Wo_usesOldD_32 h101) else (jf_I h101 a0 4 5 (fun v104 => (if v104 = (1 : Int32) then (jf_I h101 a0 4 6 (fun v105 => (if v105 = (11 : Int32) then (r_Wo_usesOldD_36 h101) else (r_Wo_usesOldD_32 h101)))) else (r_Wo_usesOldD_36 h101))))))) else (r_Wo_usesOldD_32 h101)))))
theorem e_Wo_usesOldD {h : ja_H} {a0 : Nat} : ja_D ja_gI M_Wo_usesOldD 0 [some (.ref a0)] [] h (r_Wo_usesOldD h a0) := by
  unfold r_Wo_usesOldD
  refine jd_aload_n i_Wo_usesOldD_0 rfl ?_
  refine jd_callVI G_Wo_47 in_Wo_stores se_Wo_stores rfl (fun _ e => c_Wo_stores e) rfl ⟨by decide, by decide⟩ rfl (Nat.le_of_ble_eq_true rfl) i_Wo_usesOldD_1 (fun v102 h101 => ?_)
  refine jd_if_ne 32 i_Wo_usesOldD_4 (by decide) ?_ ?_
  · exact jd_less (t_Wo_usesOldD_32) trivial
  · refine jd_aload_n i_Wo_usesOldD_7 rfl ?_
    refine jd_getI F_Wo_34 i_Wo_usesOldD_8 (fun v103 => ?_)
    refine jd_iconst 2 i_Wo_usesOldD_11 (by decide) ?_
    refine jd_icmp_eq 32 i_Wo_usesOldD_12 (by decide) ?_ ?_
    · exact jd_less (t_Wo_usesOldD_32) trivial
    · refine jd_aload_n i_Wo_usesOldD_15 rfl ?_
      refine jd_getI F_Wo_34 i_Wo_usesOldD_16 (fun v104 => ?_)
      refine jd_iconst 1 i_Wo_usesOldD_19 (by decide) ?_
      refine jd_icmp_ne 36 i_Wo_usesOldD_20 (by decide) ?_ ?_
      · exact jd_less (t_Wo_usesOldD_36) trivial
      · refine jd_aload_n i_Wo_usesOldD_23 rfl ?_
        refine jd_getI F_Wo_27 i_Wo_usesOldD_24 (fun v105 => ?_)
        refine jd_bipush 11 i_Wo_usesOldD_27 (by decide) ?_
        refine jd_icmp_eq 36 i_Wo_usesOldD_29 (by decide) ?_ ?_
        · exact jd_less (t_Wo_usesOldD_36) trivial
        · exact jd_less (t_Wo_usesOldD_32) trivial
theorem c_Wo_usesOldD {h : ja_H} {a0 : Nat} {o : Int32 × ja_H} (e : r_Wo_usesOldD h a0 = some o) : ja_M (1, 20) y_Wo_usesOldD b_Wo_usesOldD 1 (some .boolean) [.ref a0] h [.int o.1] o.2 := jc_of (g := ja_gI) false _ e e_Wo_usesOldD rfl (by decide +kernel) (fun q => nomatch q) (Nat.le_of_ble_eq_true rfl) (fun _ q => nomatch q) (Nat.le_of_ble_eq_true rfl)
noncomputable def r_Wo_wideNumber (h : ja_H) (a0 : Nat) (a1 : Int64) : Option (Int64 × ja_H) := (jf_I h a0 4 4 (fun v101 => (some ((((UInt64.toInt64 (Int64.toUInt64 a1 >>> (Int64.toUInt64 (Int32.toInt64 (32 : Int32)) &&& Int64.toUInt64 63))) <<< (Int32.toInt64 (32 : Int32) &&& 63)) ||| ((Int32.toInt64 v101) &&& (4294967295 : Int64))), h))))
theorem e_Wo_wideNumber {h : ja_H} {a0 : Nat} {a1 : Int64} : ja_D ja_gL M_Wo_wideNumber 0 [some (.ref a0), some (.long a1), none] [] h (r_Wo_wideNumber h a0 a1) := by
  unfold r_Wo_wideNumber
  refine jd_lload_n i_Wo_wideNumber_0 rfl ?_
  refine jd_bipush 32 i_Wo_wideNumber_1 (by decide) ?_
  refine jd_lushr i_Wo_wideNumber_3 ?_
  refine jd_bipush 32 i_Wo_wideNumber_4 (by decide) ?_
  refine jd_lshl i_Wo_wideNumber_6 ?_
  refine jd_aload_n i_Wo_wideNumber_7 rfl ?_
  refine jd_getI F_Wo_24 i_Wo_wideNumber_8 (fun v101 => ?_)
  refine jd_i2l i_Wo_wideNumber_11 ?_
  refine jd_ldc2 i_Wo_wideNumber_12 K_Wo_56 ?_
  refine jd_land i_Wo_wideNumber_15 ?_
  refine jd_lor i_Wo_wideNumber_16 ?_
  exact jd_lreturn i_Wo_wideNumber_17 rfl
theorem c_Wo_wideNumber {h : ja_H} {a0 : Nat} {a1 : Int64} {o : Int64 × ja_H} (e : r_Wo_wideNumber h a0 a1 = some o) : ja_M (0, 0) y_Wo_wideNumber b_Wo_wideNumber 3 (some .long) [.ref a0, .long a1] h [.long o.1] o.2 := jc_of (g := ja_gL) false _ e e_Wo_wideNumber rfl (by decide +kernel) (fun q => nomatch q) (Nat.le_of_ble_eq_true rfl) (fun _ q => nomatch q) (Nat.le_of_ble_eq_true rfl)
noncomputable def r_Ju_examineWord_220 (h : ja_H) (y4 : Int32) : Option (Int32 × ja_H) := (some (y4, h))
theorem t_Ju_examineWord_220 {h : ja_H} {y4 : Int32} : ja_D ja_gI M_Ju_examineWord 220 [none, none, none, none, some (.int y4)] [] h (r_Ju_examineWord_220 h y4) := by
  unfold r_Ju_examineWord_220
  refine jd_iload i_Ju_examineWord_220 rfl ?_
  exact jd_ireturn i_Ju_examineWord_222 rfl
noncomputable def r_Ju_examineWord_210 (h : ja_H) (y0 : Nat) (y1 : Int32) (y4 : Int32) : Option (Int32 × ja_H) := (if y4 = (0 : Int32) then (jk h y0 5 (jc_V (r_Ju_goOn h y0 y1) (fun h1 => (r_Ju_examineWord_220 h1 y4)))) else (r_Ju_examineWord_220 h y4))
theorem t_Ju_examineWord_210 {h : ja_H} {y0 : Nat} {y1 : Int32} {y4 : Int32} : ja_D ja_gI M_Ju_examineWord 210 [some (.ref y0), some (.int y1), none, none, some (.int y4)] [] h (r_Ju_examineWord_210 h y0 y1 y4) := by
  unfold r_Ju_examineWord_210
  refine jd_iload i_Ju_examineWord_210 rfl ?_
  refine jd_if_ne 220 i_Ju_examineWord_212 (by decide) ?_ ?_
  · exact jd_less (t_Ju_examineWord_220) ⟨rfl, trivial⟩
  · refine jd_aload_n i_Ju_examineWord_215 rfl ?_
    refine jd_iload_n i_Ju_examineWord_216 rfl ?_
    refine jd_callVV G_Ju_146 in_Ju_goOn se_Ju_goOn rfl (fun _ e => c_Ju_goOn e) rfl ⟨by decide, by decide⟩ rfl (Nat.le_of_ble_eq_true rfl) i_Ju_examineWord_217 (fun h1 => ?_)
    exact jd_less (t_Ju_examineWord_220) ⟨rfl, trivial⟩
noncomputable def r_Ju_examineWord_174 (h : ja_H) (y0 : Nat) (y1 : Int32) : Option (Int32 × ja_H) := (jk h y0 5 (jc_I (r_Ju_examineStoring h y0) (fun v2 h1 => (jl (v2 : Int32) (fun (x3 : Int32) => (r_Ju_examineWord_210 h1 y0 y1 x3))))))
theorem t_Ju_examineWord_174 {h : ja_H} {y0 : Nat} {y1 : Int32} : ja_D ja_gI M_Ju_examineWord 174 [some (.ref y0), some (.int y1), none, none, none] [] h (r_Ju_examineWord_174 h y0 y1) := by
  unfold r_Ju_examineWord_174
  refine jd_aload_n i_Ju_examineWord_174 rfl ?_
  refine jd_callVI G_Ju_135 in_Ju_examineStoring se_Ju_examineStoring rfl (fun _ e => c_Ju_examineStoring e) rfl ⟨by decide, by decide⟩ rfl (Nat.le_of_ble_eq_true rfl) i_Ju_examineWord_175 (fun v2 h1 => ?_)
  refine jd_istore (fun x3 => [some (.ref y0), some (.int y1), none, none, some (.int x3)]) i_Ju_examineWord_178 (by decide) rfl (fun _ => rfl) (fun x3 => ?_)
  refine jd_goto 210 i_Ju_examineWord_180 (by decide) ?_
  exact jd_less (t_Ju_examineWord_210) ⟨rfl, rfl, rfl, trivial⟩
noncomputable def r_Ju_examineWord_155 (h : ja_H) (z0 : Int32) : Option (Int32 × ja_H) := (some (z0, h))
theorem t_Ju_examineWord_155 {h : ja_H} {z0 : Int32} : ja_D ja_gI M_Ju_examineWord 155 [none, none, none, none, none] [.int z0] h (r_Ju_examineWord_155 h z0) := by
  unfold r_Ju_examineWord_155
  exact jd_ireturn i_Ju_examineWord_155 rfl
noncomputable def r_Ju_examineWord_65 (h : ja_H) (y0 : Nat) (y1 : Int32) (y2 : Int64) : Option (Int32 × ja_H) := (jl ((0 : Int32) : Int32) (fun (x1 : Int32) => (jf_R h y0 5 2 (fun a2 => (jf_I h a2 4 5 (fun v3 => (jsw v3 [1, 2, 3, 4, 5, 6, 7, 8] [(jk h y0 5 (jc_I (r_Ju_examineArithmetic h y0) (fun v5 h4 => (jl (v5 : Int32) (fun (x6 : Int32) => (r_Ju_examineWord_210 h4 y0 y1 x6)))))), (jk h y0 5 (jc_I (r_Ju_examineCondition h y0 y1) (fun v8 h7 => (some (v8, h7))))), (jk h y0 5 (jc_I (r_Ju_examineReading h y0) (fun v10 h9 => (jl (v10 : Int32) (fun (x11 : Int32) => (r_Ju_examineWord_210 h9 y0 y1 x11)))))), (r_Ju_examineWord_174 h y0 y1), (r_Ju_examineWord_174 h y0 y1), (r_Ju_examineWord_210 h y0 y1 x1), (jf_R h y0 5 3 (fun a12 => (jf_R h y0 5 2 (fun a13 => (jk h a13 4 (jc_L (r_Wo_wideNumber h a13 y2) (fun v15 h14 => (jf_R h14 y0 5 2 (fun a16 => (jk h14 a16 4 (jc_L (r_Wo_wideNumber h14 a16 y2) (fun v18 h17 => (jk h17 a12 7 (jc_V (r_Va_become h17 a12 (1 : Int32) v15 v18) (fun h19 => (r_Ju_examineWord_210 h19 y0 y1 x1)))))))))))))))), (jf_R h y0 5 1 (fun a20 => (jf_R h y0 5 3 (fun a21 => (jk h a20 6 (jc_V (r_St_load h a20 (0 : Int32) a21) (fun h22 => (jf_R h22 y0 5 3 (fun a23 => (jf_I h22 a23 7 0 (fun v24 => (if v24 = (1 : Int32) then (r_Ju_examineWord_155 h22 (0 : Int32)) else (r_Ju_examineWord_155 h22 (14 : Int32))))))))))))))] (r_Ju_examineWord_210 h y0 y1 x1))))))))
theorem t_Ju_examineWord_65 {h : ja_H} {y0 : Nat} {y1 : Int32} {y2 : Int64} : ja_D ja_gI M_Ju_examineWord 65 [some (.ref y0), some (.int y1), some (.long y2), none, none] [] h (r_Ju_examineWord_65 h y0 y1 y2) := by
  unfold r_Ju_examineWord_65
  refine jd_iconst 0 i_Ju_examineWord_65 (by decide) ?_
  refine jd_istore (fun x1 => [some (.ref y0), some (.int y1), some (.long y2), none, some (.int x1)]) i_Ju_examineWord_66 (by decide) rfl (fun _ => rfl) (fun x1 => ?_)
  refine jd_aload_n i_Ju_examineWord_68 rfl ?_
  refine jd_getR F_Ju_25 i_Ju_examineWord_69 (fun a2 => ?_)
  refine jd_getI F_Ju_121 i_Ju_examineWord_72 (fun v3 => ?_)
  refine jd_ts 210 [1, 2, 3, 4, 5, 6, 7, 8] [156, 120, 165, 174, 174, 210, 183, 126] i_Ju_examineWord_75 rfl (by decide) (by decide) (by decide) ?_ ⟨?_, ?_, ?_, ?_, ?_, ?_, ?_, ?_, trivial⟩
  · exact jd_less (t_Ju_examineWord_210) ⟨rfl, rfl, rfl, trivial⟩
  · refine jd_aload_n i_Ju_examineWord_156 rfl ?_
    refine jd_callVI G_Ju_128 in_Ju_examineArithmetic se_Ju_examineArithmetic rfl (fun _ e => c_Ju_examineArithmetic e) rfl ⟨by decide, by decide⟩ rfl (Nat.le_of_ble_eq_true rfl) i_Ju_examineWord_157 (fun v5 h4 => ?_)
    refine jd_istore (fun x6 => [some (.ref y0), some (.int y1), some (.long y2), none, some (.int x6)]) i_Ju_examineWord_160 (by decide) rfl (fun _ => rfl) (fun x6 => ?_)
    refine jd_goto 210 i_Ju_examineWord_162 (by decide) ?_
    exact jd_less (t_Ju_examineWord_210) ⟨rfl, rfl, rfl, trivial⟩
  · refine jd_aload_n i_Ju_examineWord_120 rfl ?_
    refine jd_iload_n i_Ju_examineWord_121 rfl ?_
    refine jd_callVI G_Ju_124 in_Ju_examineCondition se_Ju_examineCondition rfl (fun _ e => c_Ju_examineCondition e) rfl ⟨by decide, by decide⟩ rfl (Nat.le_of_ble_eq_true rfl) i_Ju_examineWord_122 (fun v8 h7 => ?_)
    exact jd_ireturn i_Ju_examineWord_125 rfl
  · refine jd_aload_n i_Ju_examineWord_165 rfl ?_
    refine jd_callVI G_Ju_132 in_Ju_examineReading se_Ju_examineReading rfl (fun _ e => c_Ju_examineReading e) rfl ⟨by decide, by decide⟩ rfl (Nat.le_of_ble_eq_true rfl) i_Ju_examineWord_166 (fun v10 h9 => ?_)
    refine jd_istore (fun x11 => [some (.ref y0), some (.int y1), some (.long y2), none, some (.int x11)]) i_Ju_examineWord_169 (by decide) rfl (fun _ => rfl) (fun x11 => ?_)
    refine jd_goto 210 i_Ju_examineWord_171 (by decide) ?_
    exact jd_less (t_Ju_examineWord_210) ⟨rfl, rfl, rfl, trivial⟩
  · exact jd_less (t_Ju_examineWord_174) ⟨rfl, rfl, trivial⟩
  · exact jd_less (t_Ju_examineWord_174) ⟨rfl, rfl, trivial⟩
  · exact jd_less (t_Ju_examineWord_210) ⟨rfl, rfl, rfl, trivial⟩
  · refine jd_aload_n i_Ju_examineWord_183 rfl ?_
    refine jd_getR F_Ju_32 i_Ju_examineWord_184 (fun a12 => ?_)
    refine jd_iconst 1 i_Ju_examineWord_187 (by decide) ?_
    refine jd_aload_n i_Ju_examineWord_188 rfl ?_
    refine jd_getR F_Ju_25 i_Ju_examineWord_189 (fun a13 => ?_)
    refine jd_lload_n i_Ju_examineWord_192 rfl ?_
    refine jd_callVL G_Ju_138 in_Wo_wideNumber se_Wo_wideNumber rfl (fun _ e => c_Wo_wideNumber e) rfl ⟨by decide, by decide⟩ rfl (Nat.le_of_ble_eq_true rfl) i_Ju_examineWord_193 (fun v15 h14 => ?_)
    refine jd_aload_n i_Ju_examineWord_196 rfl ?_
    refine jd_getR F_Ju_25 i_Ju_examineWord_197 (fun a16 => ?_)
    refine jd_lload_n i_Ju_examineWord_200 rfl ?_
    refine jd_callVL G_Ju_138 in_Wo_wideNumber se_Wo_wideNumber rfl (fun _ e => c_Wo_wideNumber e) rfl ⟨by decide, by decide⟩ rfl (Nat.le_of_ble_eq_true rfl) i_Ju_examineWord_201 (fun v18 h17 => ?_)
    refine jd_callVV G_Ju_142 in_Va_become se_Va_become rfl (fun _ e => c_Va_become e) rfl ⟨by decide, by decide⟩ rfl (Nat.le_of_ble_eq_true rfl) i_Ju_examineWord_204 (fun h19 => ?_)
    refine jd_goto 210 i_Ju_examineWord_207 (by decide) ?_
    exact jd_less (t_Ju_examineWord_210) ⟨rfl, rfl, rfl, trivial⟩
  · refine jd_aload_n i_Ju_examineWord_126 rfl ?_
    refine jd_getR F_Ju_18 i_Ju_examineWord_127 (fun a20 => ?_)
    refine jd_iconst 0 i_Ju_examineWord_130 (by decide) ?_
    refine jd_aload_n i_Ju_examineWord_131 rfl ?_
    refine jd_getR F_Ju_32 i_Ju_examineWord_132 (fun a21 => ?_)
    refine jd_callVV G_Ju_54 in_St_load se_St_load rfl (fun _ e => c_St_load e) rfl ⟨by decide, by decide⟩ rfl (Nat.le_of_ble_eq_true rfl) i_Ju_examineWord_135 (fun h22 => ?_)
    refine jd_aload_n i_Ju_examineWord_138 rfl ?_
    refine jd_getR F_Ju_32 i_Ju_examineWord_139 (fun a23 => ?_)
    refine jd_getI F_Ju_58 i_Ju_examineWord_142 (fun v24 => ?_)
    refine jd_iconst 1 i_Ju_examineWord_145 (by decide) ?_
    refine jd_icmp_ne 153 i_Ju_examineWord_146 (by decide) ?_ ?_
    · refine jd_bipush 14 i_Ju_examineWord_153 (by decide) ?_
      exact jd_less (t_Ju_examineWord_155) trivial
    · refine jd_iconst 0 i_Ju_examineWord_149 (by decide) ?_
      refine jd_goto 155 i_Ju_examineWord_150 (by decide) ?_
      exact jd_less (t_Ju_examineWord_155) trivial
noncomputable def r_Ju_examineWord_62 (h : ja_H) : Option (Int32 × ja_H) := (some ((6 : Int32), h))
theorem t_Ju_examineWord_62 {h : ja_H} : ja_D ja_gI M_Ju_examineWord 62 [none, none, none, none, none] [] h (r_Ju_examineWord_62 h) := by
  unfold r_Ju_examineWord_62
  refine jd_bipush 6 i_Ju_examineWord_62 (by decide) ?_
  exact jd_ireturn i_Ju_examineWord_64 rfl
noncomputable def r_Ju_examineWord_42 (h : ja_H) (y0 : Nat) (y1 : Int32) (y2 : Int64) : Option (Int32 × ja_H) := (jf_R h y0 5 2 (fun a1 => (jk h a1 4 (jc_I (r_Wo_usesS h a1) (fun v3 h2 => (if v3 = (0 : Int32) then (r_Ju_examineWord_65 h2 y0 y1 y2) else (jf_R h2 y0 5 4 (fun a4 => (jf_I h2 a4 7 0 (fun v5 => (if v5 = (0 : Int32) then (r_Ju_examineWord_62 h2) else (r_Ju_examineWord_65 h2 y0 y1 y2))))))))))))
theorem t_Ju_examineWord_42 {h : ja_H} {y0 : Nat} {y1 : Int32} {y2 : Int64} : ja_D ja_gI M_Ju_examineWord 42 [some (.ref y0), some (.int y1), some (.long y2), none, none] [] h (r_Ju_examineWord_42 h y0 y1 y2) := by
  unfold r_Ju_examineWord_42
  refine jd_aload_n i_Ju_examineWord_42 rfl ?_
  refine jd_getR F_Ju_25 i_Ju_examineWord_43 (fun a1 => ?_)
  refine jd_callVI G_Ju_118 in_Wo_usesS se_Wo_usesS rfl (fun _ e => c_Wo_usesS e) rfl ⟨by decide, by decide⟩ rfl (Nat.le_of_ble_eq_true rfl) i_Ju_examineWord_46 (fun v3 h2 => ?_)
  refine jd_if_eq 65 i_Ju_examineWord_49 (by decide) ?_ ?_
  · exact jd_less (t_Ju_examineWord_65) ⟨rfl, rfl, rfl, trivial⟩
  · refine jd_aload_n i_Ju_examineWord_52 rfl ?_
    refine jd_getR F_Ju_36 i_Ju_examineWord_53 (fun a4 => ?_)
    refine jd_getI F_Ju_58 i_Ju_examineWord_56 (fun v5 => ?_)
    refine jd_if_ne 65 i_Ju_examineWord_59 (by decide) ?_ ?_
    · exact jd_less (t_Ju_examineWord_65) ⟨rfl, rfl, rfl, trivial⟩
    · exact jd_less (t_Ju_examineWord_62) trivial
noncomputable def r_Ju_examineWord (h : ja_H) (a0 : Nat) (a1 : Int32) (a2 : Int64) : Option (Int32 × ja_H) := (jf_R h a0 5 1 (fun a101 => (jf_R h a0 5 2 (fun a102 => (jf_I h a102 4 1 (fun v103 => (jf_R h a0 5 3 (fun a104 => (jk h a101 6 (jc_V (r_St_load h a101 v103 a104) (fun h105 => (jk h105 a0 5 (jc_V (r_Ju_loadRight h105 a0) (fun h106 => (jf_R h106 a0 5 2 (fun a107 => (jk h106 a107 4 (jc_I (r_Wo_usesOldD h106 a107) (fun v109 h108 => (if v109 = (0 : Int32) then (r_Ju_examineWord_42 h108 a0 a1 a2) else (jf_R h108 a0 5 3 (fun a110 => (jf_I h108 a110 7 0 (fun v111 => (if v111 = (0 : Int32) then (r_Ju_examineWord_62 h108) else (r_Ju_examineWord_42 h108 a0 a1 a2))))))))))))))))))))))))))
theorem e_Ju_examineWord {h : ja_H} {a0 : Nat} {a1 : Int32} {a2 : Int64} : ja_D ja_gI M_Ju_examineWord 0 [some (.ref a0), some (.int a1), some (.long a2), none, none] [] h (r_Ju_examineWord h a0 a1 a2) := by
  unfold r_Ju_examineWord
  refine jd_aload_n i_Ju_examineWord_0 rfl ?_
  refine jd_getR F_Ju_18 i_Ju_examineWord_1 (fun a101 => ?_)
  refine jd_aload_n i_Ju_examineWord_4 rfl ?_
  refine jd_getR F_Ju_25 i_Ju_examineWord_5 (fun a102 => ?_)
  refine jd_getI F_Ju_108 i_Ju_examineWord_8 (fun v103 => ?_)
  refine jd_aload_n i_Ju_examineWord_11 rfl ?_
  refine jd_getR F_Ju_32 i_Ju_examineWord_12 (fun a104 => ?_)
  refine jd_callVV G_Ju_54 in_St_load se_St_load rfl (fun _ e => c_St_load e) rfl ⟨by decide, by decide⟩ rfl (Nat.le_of_ble_eq_true rfl) i_Ju_examineWord_15 (fun h105 => ?_)
  refine jd_aload_n i_Ju_examineWord_18 rfl ?_
  refine jd_callVV G_Ju_111 in_Ju_loadRight se_Ju_loadRight rfl (fun _ e => c_Ju_loadRight e) rfl ⟨by decide, by decide⟩ rfl (Nat.le_of_ble_eq_true rfl) i_Ju_examineWord_19 (fun h106 => ?_)
  refine jd_aload_n i_Ju_examineWord_22 rfl ?_
  refine jd_getR F_Ju_25 i_Ju_examineWord_23 (fun a107 => ?_)
  refine jd_callVI G_Ju_114 in_Wo_usesOldD se_Wo_usesOldD rfl (fun _ e => c_Wo_usesOldD e) rfl ⟨by decide, by decide⟩ rfl (Nat.le_of_ble_eq_true rfl) i_Ju_examineWord_26 (fun v109 h108 => ?_)
  refine jd_if_eq 42 i_Ju_examineWord_29 (by decide) ?_ ?_
  · exact jd_less (t_Ju_examineWord_42) ⟨rfl, rfl, rfl, trivial⟩
  · refine jd_aload_n i_Ju_examineWord_32 rfl ?_
    refine jd_getR F_Ju_32 i_Ju_examineWord_33 (fun a110 => ?_)
    refine jd_getI F_Ju_58 i_Ju_examineWord_36 (fun v111 => ?_)
    refine jd_if_eq 62 i_Ju_examineWord_39 (by decide) ?_ ?_
    · exact jd_less (t_Ju_examineWord_62) trivial
    · exact jd_less (t_Ju_examineWord_42) ⟨rfl, rfl, rfl, trivial⟩
theorem c_Ju_examineWord {h : ja_H} {a0 : Nat} {a1 : Int32} {a2 : Int64} {o : Int32 × ja_H} (e : r_Ju_examineWord h a0 a1 a2 = some o) : ja_M (5, 127) y_Ju_examineWord b_Ju_examineWord 5 (some .int) [.ref a0, .int a1, .long a2] h [.int o.1] o.2 := jc_of (g := ja_gI) false _ e e_Ju_examineWord rfl (by decide +kernel) (fun q => nomatch q) (Nat.le_of_ble_eq_true rfl) (fun _ q => nomatch q) (Nat.le_of_ble_eq_true rfl)
