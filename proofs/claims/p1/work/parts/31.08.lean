noncomputable def r_Ma_use_14 (h : ja_H) (y0 : Nat) (y1 : Int32) : Option (Int64 × ja_H) := (jf_R h y0 8 0 (fun a1 => (je_L h a1 y1 (fun v2 => (some (v2, h))))))
theorem t_Ma_use_14 {h : ja_H} {y0 : Nat} {y1 : Int32} : ja_D ja_gL M_Ma_use 14 [some (.ref y0), some (.int y1)] [] h (r_Ma_use_14 h y0 y1) := by
  unfold r_Ma_use_14
  refine jd_aload_n i_Ma_use_14 rfl ?_
  refine jd_getR F_Ma_9 i_Ma_use_15 (fun a1 => ?_)
  refine jd_iload_n i_Ma_use_18 rfl ?_
  refine jd_lald i_Ma_use_19 (fun v2 => ?_)
  exact jd_lreturn i_Ma_use_20 rfl
noncomputable def r_Ma_use (h : ja_H) (a0 : Nat) (a1 : Int32) : Option (Int64 × ja_H) := (jf_R h a0 8 1 (fun a101 => (je_I h a101 2 a1 (fun v102 => (if v102 = (0 : Int32) then (jp_Z h a0 8 7 (1 : Int32) (fun h103 => (r_Ma_use_14 h103 a0 a1))) else (r_Ma_use_14 h a0 a1))))))
theorem e_Ma_use {h : ja_H} {a0 : Nat} {a1 : Int32} : ja_D ja_gL M_Ma_use 0 [some (.ref a0), some (.int a1)] [] h (r_Ma_use h a0 a1) := by
  unfold r_Ma_use
  refine jd_aload_n i_Ma_use_0 rfl ?_
  refine jd_getR F_Ma_15 i_Ma_use_1 (fun a101 => ?_)
  refine jd_iload_n i_Ma_use_4 rfl ?_
  refine jd_zald i_Ma_use_5 (fun v102 => ?_)
  refine jd_if_ne 14 i_Ma_use_6 (by decide) ?_ ?_
  · exact jd_less (t_Ma_use_14) ⟨rfl, rfl, trivial⟩
  · refine jd_aload_n i_Ma_use_9 rfl ?_
    refine jd_iconst 1 i_Ma_use_10 (by decide) ?_
    refine jd_putZ F_Ma_63 P_Ma_strayed i_Ma_use_11 (fun h103 => ?_)
    exact jd_less (t_Ma_use_14) ⟨rfl, rfl, trivial⟩
theorem c_Ma_use {h : ja_H} {a0 : Nat} {a1 : Int32} {o : Int64 × ja_H} (e : r_Ma_use h a0 a1 = some o) : ja_M (0, 0) y_Ma_use b_Ma_use 2 (some .long) [.ref a0, .int a1] h [.long o.1] o.2 := jc_of (g := ja_gL) false _ e e_Ma_use rfl (by decide +kernel) (fun q => nomatch q) (Nat.le_of_ble_eq_true rfl) (fun _ q => nomatch q) (Nat.le_of_ble_eq_true rfl)
noncomputable def r_Ma_useRight_32 (h : ja_H) (z0 : Int64) : Option (Int64 × ja_H) := (some (z0, h))
theorem t_Ma_useRight_32 {h : ja_H} {z0 : Int64} : ja_D ja_gL M_Ma_useRight 32 [none] [.long z0] h (r_Ma_useRight_32 h z0) := by
  unfold r_Ma_useRight_32
  exact jd_lreturn i_Ma_useRight_32 rfl
noncomputable def r_Ma_useRight (h : ja_H) (a0 : Nat) : Option (Int64 × ja_H) := (jf_R h a0 8 4 (fun a101 => (jk h a101 4 (jc_I (r_Wo_usesS h a101) (fun v103 h102 => (if v103 = (0 : Int32) then (jf_R h102 a0 8 4 (fun a104 => (jf_I h102 a104 4 4 (fun v105 => (r_Ma_useRight_32 h102 (Int32.toInt64 v105)))))) else (jf_R h102 a0 8 4 (fun a106 => (jf_I h102 a106 4 2 (fun v107 => (jk h102 a0 8 (jc_L (r_Ma_use h102 a0 v107) (fun v109 h108 => (r_Ma_useRight_32 h108 v109))))))))))))))
theorem e_Ma_useRight {h : ja_H} {a0 : Nat} : ja_D ja_gL M_Ma_useRight 0 [some (.ref a0)] [] h (r_Ma_useRight h a0) := by
  unfold r_Ma_useRight
  refine jd_aload_n i_Ma_useRight_0 rfl ?_
  refine jd_getR F_Ma_29 i_Ma_useRight_1 (fun a101 => ?_)
  refine jd_callVI G_Ma_125 in_Wo_usesS se_Wo_usesS rfl (fun _ e => c_Wo_usesS e) rfl ⟨by decide, by decide⟩ rfl (Nat.le_of_ble_eq_true rfl) i_Ma_useRight_4 (fun v103 h102 => ?_)
  refine jd_if_eq 24 i_Ma_useRight_7 (by decide) ?_ ?_
  · refine jd_aload_n i_Ma_useRight_24 rfl ?_
    refine jd_getR F_Ma_29 i_Ma_useRight_25 (fun a104 => ?_)
    refine jd_getI F_Ma_131 i_Ma_useRight_28 (fun v105 => ?_)
    refine jd_i2l i_Ma_useRight_31 ?_
    exact jd_less (t_Ma_useRight_32) trivial
  · refine jd_aload_n i_Ma_useRight_10 rfl ?_
    refine jd_aload_n i_Ma_useRight_11 rfl ?_
    refine jd_getR F_Ma_29 i_Ma_useRight_12 (fun a106 => ?_)
    refine jd_getI F_Ma_128 i_Ma_useRight_15 (fun v107 => ?_)
    refine jd_callVL G_Ma_60 in_Ma_use se_Ma_use rfl (fun _ e => c_Ma_use e) rfl ⟨by decide, by decide⟩ rfl (Nat.le_of_ble_eq_true rfl) i_Ma_useRight_18 (fun v109 h108 => ?_)
    refine jd_goto 32 i_Ma_useRight_21 (by decide) ?_
    exact jd_less (t_Ma_useRight_32) trivial
theorem c_Ma_useRight {h : ja_H} {a0 : Nat} {o : Int64 × ja_H} (e : r_Ma_useRight h a0 = some o) : ja_M (2, 40) y_Ma_useRight b_Ma_useRight 1 (some .long) [.ref a0] h [.long o.1] o.2 := jc_of (g := ja_gL) false _ e e_Ma_useRight rfl (by decide +kernel) (fun q => nomatch q) (Nat.le_of_ble_eq_true rfl) (fun _ q => nomatch q) (Nat.le_of_ble_eq_true rfl)
noncomputable def r_Ma_write_58 (C3 : ja_H → Nat → Int64 → Int32 → Int64 → Int32 → Option (ja_H)) (h : ja_H) (y0 : Nat) (y1 : Int64) (y3 : Int32) (y4 : Int64) (y6 : Int32) : Option (ja_H) := (jl (y6 + 1 : Int32) (fun (x1 : Int32) => (C3 h y0 y1 y3 y4 x1)))
theorem t_Ma_write_58 {C3 : ja_H → Nat → Int64 → Int32 → Int64 → Int32 → Option (ja_H)} (k3 : ∀ (h : ja_H) (y0 : Nat) (y1 : Int64) (y3 : Int32) (y4 : Int64) (y6 : Int32), ja_D ja_gV M_Ma_write 3 [some (.ref y0), some (.long y1), none, some (.int y3), some (.long y4), none, some (.int y6), none] [] h (C3 h y0 y1 y3 y4 y6)) {h : ja_H} {y0 : Nat} {y1 : Int64} {y3 : Int32} {y4 : Int64} {y6 : Int32} : ja_D ja_gV M_Ma_write 58 [some (.ref y0), some (.long y1), none, some (.int y3), some (.long y4), none, some (.int y6), none] [] h (r_Ma_write_58 C3 h y0 y1 y3 y4 y6) := by
  unfold r_Ma_write_58
  refine jd_iinc (fun x1 => [some (.ref y0), some (.long y1), none, some (.int y3), some (.long y4), none, some (.int x1), none]) i_Ma_write_58 rfl rfl (by decide) rfl (fun _ => rfl) (fun x1 => ?_)
  refine jd_goto 3 i_Ma_write_61 (by decide) ?_
  exact jd_less (k3 _ _ _ _ _ _) ⟨rfl, rfl, rfl, rfl, rfl, trivial⟩
noncomputable def q_Ma_write_3 (C3 : ja_H → Nat → Int64 → Int32 → Int64 → Int32 → Option (ja_H)) (h : ja_H) (y0 : Nat) (y1 : Int64) (y3 : Int32) (y4 : Int64) (y6 : Int32) : Option (ja_H) := (if y3 ≤ y6 then (some h) else (jk h y0 8 (jc_I (r_Ma_stackIndex h y0 (y1 + (Int32.toInt64 y6))) (fun v2 h1 => (jl (v2 : Int32) (fun (x3 : Int32) => (if x3 < (0 : Int32) then (jp_Z h1 y0 8 7 (1 : Int32) (fun h4 => (r_Ma_write_58 C3 h4 y0 y1 y3 y4 y6))) else (jf_R h1 y0 8 2 (fun a5 => (js_B h1 a5 x3 (Int8.toInt32 (Int32.toInt8 (Int64.toInt32 (UInt64.toInt64 (Int64.toUInt64 y4 >>> (Int64.toUInt64 (Int32.toInt64 ((8 : Int32) * y6)) &&& Int64.toUInt64 63)))))) (fun h6 => (jf_R h6 y0 8 3 (fun a7 => (js_Z h6 a7 x3 (1 : Int32) (fun h8 => (r_Ma_write_58 C3 h8 y0 y1 y3 y4 y6))))))))))))))))
theorem t_Ma_write_3 {C3 : ja_H → Nat → Int64 → Int32 → Int64 → Int32 → Option (ja_H)} (k3 : ∀ (h : ja_H) (y0 : Nat) (y1 : Int64) (y3 : Int32) (y4 : Int64) (y6 : Int32), ja_D ja_gV M_Ma_write 3 [some (.ref y0), some (.long y1), none, some (.int y3), some (.long y4), none, some (.int y6), none] [] h (C3 h y0 y1 y3 y4 y6)) {h : ja_H} {y0 : Nat} {y1 : Int64} {y3 : Int32} {y4 : Int64} {y6 : Int32} : ja_D ja_gV M_Ma_write 3 [some (.ref y0), some (.long y1), none, some (.int y3), some (.long y4), none, some (.int y6), none] [] h (q_Ma_write_3 C3 h y0 y1 y3 y4 y6) := by
  unfold q_Ma_write_3
  refine jd_iload i_Ma_write_3 rfl ?_
  refine jd_iload_n i_Ma_write_5 rfl ?_
  refine jd_icmp_ge 64 i_Ma_write_6 (by decide) ?_ ?_
  · exact jd_return i_Ma_write_64 rfl
  · refine jd_aload_n i_Ma_write_9 rfl ?_
    refine jd_lload_n i_Ma_write_10 rfl ?_
    refine jd_iload i_Ma_write_11 rfl ?_
    refine jd_i2l i_Ma_write_13 ?_
    refine jd_ladd i_Ma_write_14 ?_
    refine jd_callVI G_Ma_148 in_Ma_stackIndex se_Ma_stackIndex rfl (fun _ e => c_Ma_stackIndex e) rfl ⟨by decide, by decide⟩ rfl (Nat.le_of_ble_eq_true rfl) i_Ma_write_15 (fun v2 h1 => ?_)
    refine jd_istore (fun x3 => [some (.ref y0), some (.long y1), none, some (.int y3), some (.long y4), none, some (.int y6), some (.int x3)]) i_Ma_write_18 (by decide) rfl (fun _ => rfl) (fun x3 => ?_)
    refine jd_iload i_Ma_write_20 rfl ?_
    refine jd_if_lt 53 i_Ma_write_22 (by decide) ?_ ?_
    · refine jd_aload_n i_Ma_write_53 rfl ?_
      refine jd_iconst 1 i_Ma_write_54 (by decide) ?_
      refine jd_putZ F_Ma_63 P_Ma_strayed i_Ma_write_55 (fun h4 => ?_)
      exact jd_less (t_Ma_write_58 k3) ⟨rfl, rfl, rfl, rfl, rfl, trivial⟩
    · refine jd_aload_n i_Ma_write_25 rfl ?_
      refine jd_getR F_Ma_19 i_Ma_write_26 (fun a5 => ?_)
      refine jd_iload i_Ma_write_29 rfl ?_
      refine jd_lload i_Ma_write_31 rfl ?_
      refine jd_bipush 8 i_Ma_write_33 (by decide) ?_
      refine jd_iload i_Ma_write_35 rfl ?_
      refine jd_imul i_Ma_write_37 ?_
      refine jd_lushr i_Ma_write_38 ?_
      refine jd_l2i i_Ma_write_39 ?_
      refine jd_i2b i_Ma_write_40 ?_
      refine jd_bast i_Ma_write_41 (fun h6 => ?_)
      refine jd_aload_n i_Ma_write_42 rfl ?_
      refine jd_getR F_Ma_23 i_Ma_write_43 (fun a7 => ?_)
      refine jd_iload i_Ma_write_46 rfl ?_
      refine jd_iconst 1 i_Ma_write_48 (by decide) ?_
      refine jd_zast i_Ma_write_49 (fun h8 => ?_)
      refine jd_goto 58 i_Ma_write_50 (by decide) ?_
      exact jd_less (t_Ma_write_58 k3) ⟨rfl, rfl, rfl, rfl, rfl, trivial⟩
noncomputable def r_Ma_write_3 : Nat → ja_H → Nat → Int64 → Int32 → Int64 → Int32 → Option (ja_H) := ja_lo (q_Ma_write_3) (fun _ _ _ _ _ _ => none)
theorem s_Ma_write_3 : ∀ (n : Nat) (h : ja_H) (y0 : Nat) (y1 : Int64) (y3 : Int32) (y4 : Int64) (y6 : Int32), ja_D ja_gV M_Ma_write 3 [some (.ref y0), some (.long y1), none, some (.int y3), some (.long y4), none, some (.int y6), none] [] h (r_Ma_write_3 n h y0 y1 y3 y4 y6) := by
  intro n
  induction n with
  | zero => intro h y0 y1 y3 y4 y6 o e; cases e
  | succ n ih => intro h y0 y1 y3 y4 y6; exact t_Ma_write_3 ih
noncomputable def r_Ma_write (h : ja_H) (a0 : Nat) (a1 : Int64) (a3 : Int32) (a4 : Int64) : Option (ja_H) := (jl ((0 : Int32) : Int32) (fun (x101 : Int32) => (r_Ma_write_3 ja_fu h a0 a1 a3 a4 x101)))
theorem e_Ma_write {h : ja_H} {a0 : Nat} {a1 : Int64} {a3 : Int32} {a4 : Int64} : ja_D ja_gV M_Ma_write 0 [some (.ref a0), some (.long a1), none, some (.int a3), some (.long a4), none, none, none] [] h (r_Ma_write h a0 a1 a3 a4) := by
  unfold r_Ma_write
  refine jd_iconst 0 i_Ma_write_0 (by decide) ?_
  refine jd_istore (fun x101 => [some (.ref a0), some (.long a1), none, some (.int a3), some (.long a4), none, some (.int x101), none]) i_Ma_write_1 (by decide) rfl (fun _ => rfl) (fun x101 => ?_)
  exact jd_less (s_Ma_write_3 ja_fu _ _ _ _ _ _) ⟨rfl, rfl, rfl, rfl, rfl, trivial⟩
theorem c_Ma_write {h : ja_H} {a0 : Nat} {a1 : Int64} {a3 : Int32} {a4 : Int64} {o : ja_H} (e : r_Ma_write h a0 a1 a3 a4 = some o) : ja_M (1, 24) y_Ma_write b_Ma_write 8 (none) [.ref a0, .long a1, .int a3, .long a4] h [] o := jc_of (g := ja_gV) false _ e e_Ma_write rfl (by decide +kernel) (fun q => nomatch q) (Nat.le_of_ble_eq_true rfl) (fun _ q => nomatch q) (Nat.le_of_ble_eq_true rfl)
noncomputable def r_Ma_step_248 (h : ja_H) (y0 : Nat) (y1 : Int32) : Option (Int32 × ja_H) := (jf_R h y0 8 4 (fun a1 => (jk h a1 4 (jc_I (r_Wo_goalFrom h a1 y1) (fun v3 h2 => (some (v3, h2)))))))
theorem t_Ma_step_248 {h : ja_H} {y0 : Nat} {y1 : Int32} : ja_D ja_gI M_Ma_step 248 [some (.ref y0), some (.int y1), none, none, none] [] h (r_Ma_step_248 h y0 y1) := by
  unfold r_Ma_step_248
  refine jd_aload_n i_Ma_step_248 rfl ?_
  refine jd_getR F_Ma_29 i_Ma_step_249 (fun a1 => ?_)
  refine jd_iload_n i_Ma_step_252 rfl ?_
  refine jd_callVI G_Ma_102 in_Wo_goalFrom se_Wo_goalFrom rfl (fun _ e => c_Wo_goalFrom e) rfl ⟨by decide, by decide⟩ rfl (Nat.le_of_ble_eq_true rfl) i_Ma_step_253 (fun v3 h2 => ?_)
  exact jd_ireturn i_Ma_step_256 rfl
noncomputable def r_Ma_step_186 (h : ja_H) (y0 : Nat) (y1 : Int32) : Option (Int32 × ja_H) := (jf_R h y0 8 4 (fun a1 => (jf_I h a1 4 1 (fun v2 => (jk h y0 8 (jc_L (r_Ma_use h y0 v2) (fun v4 h3 => (jf_R h3 y0 8 4 (fun a5 => (jf_I h3 a5 4 3 (fun v6 => (jf_R h3 y0 8 4 (fun a7 => (jk h3 a7 4 (jc_I (r_Wo_size h3 a7) (fun v9 h8 => (jk h8 y0 8 (jc_L (r_Ma_useRight h8 y0) (fun v11 h10 => (jk h10 y0 8 (jc_V (r_Ma_write h10 y0 (v4 + (Int32.toInt64 v6)) v9 v11) (fun h12 => (some ((y1 + (1 : Int32)), h12))))))))))))))))))))))))
theorem t_Ma_step_186 {h : ja_H} {y0 : Nat} {y1 : Int32} : ja_D ja_gI M_Ma_step 186 [some (.ref y0), some (.int y1), none, none, none] [] h (r_Ma_step_186 h y0 y1) := by
  unfold r_Ma_step_186
  refine jd_aload_n i_Ma_step_186 rfl ?_
  refine jd_aload_n i_Ma_step_187 rfl ?_
  refine jd_aload_n i_Ma_step_188 rfl ?_
  refine jd_getR F_Ma_29 i_Ma_step_189 (fun a1 => ?_)
  refine jd_getI F_Ma_78 i_Ma_step_192 (fun v2 => ?_)
  refine jd_callVL G_Ma_60 in_Ma_use se_Ma_use rfl (fun _ e => c_Ma_use e) rfl ⟨by decide, by decide⟩ rfl (Nat.le_of_ble_eq_true rfl) i_Ma_step_195 (fun v4 h3 => ?_)
  refine jd_aload_n i_Ma_step_198 rfl ?_
  refine jd_getR F_Ma_29 i_Ma_step_199 (fun a5 => ?_)
  refine jd_getI F_Ma_106 i_Ma_step_202 (fun v6 => ?_)
  refine jd_i2l i_Ma_step_205 ?_
  refine jd_ladd i_Ma_step_206 ?_
  refine jd_aload_n i_Ma_step_207 rfl ?_
  refine jd_getR F_Ma_29 i_Ma_step_208 (fun a7 => ?_)
  refine jd_callVI G_Ma_109 in_Wo_size se_Wo_size rfl (fun _ e => c_Wo_size e) rfl ⟨by decide, by decide⟩ rfl (Nat.le_of_ble_eq_true rfl) i_Ma_step_211 (fun v9 h8 => ?_)
  refine jd_aload_n i_Ma_step_214 rfl ?_
  refine jd_callVL G_Ma_88 in_Ma_useRight se_Ma_useRight rfl (fun _ e => c_Ma_useRight e) rfl ⟨by decide, by decide⟩ rfl (Nat.le_of_ble_eq_true rfl) i_Ma_step_215 (fun v11 h10 => ?_)
  refine jd_callVV G_Ma_117 in_Ma_write se_Ma_write rfl (fun _ e => c_Ma_write e) rfl ⟨by decide, by decide⟩ rfl (Nat.le_of_ble_eq_true rfl) i_Ma_step_218 (fun h12 => ?_)
  refine jd_iload_n i_Ma_step_221 rfl ?_
  refine jd_iconst 1 i_Ma_step_222 (by decide) ?_
  refine jd_iadd i_Ma_step_223 ?_
  exact jd_ireturn i_Ma_step_224 rfl
noncomputable def r_Ma_step_144 (h : ja_H) (z0 : Int32) : Option (Int32 × ja_H) := (some (z0, h))
theorem t_Ma_step_144 {h : ja_H} {z0 : Int32} : ja_D ja_gI M_Ma_step 144 [none, none, none, none, none] [.int z0] h (r_Ma_step_144 h z0) := by
  unfold r_Ma_step_144
  exact jd_ireturn i_Ma_step_144 rfl
noncomputable def r_Ma_step_88 (h : ja_H) (y0 : Nat) (y1 : Int32) (z0 : Int64) (z1 : Int32) (z2 : Int32) (z3 : Nat) : Option (Int32 × ja_H) := (jk h y0 8 (jc_L (r_Ma_useRight h y0) (fun v2 h1 => (jc_L (r_Ar_reckon h1 z1 z0 v2) (fun v4 h3 => (jk h3 z3 8 (jc_V (r_Ma_give h3 z3 z2 v4) (fun h5 => (some ((y1 + (1 : Int32)), h5))))))))))
theorem t_Ma_step_88 {h : ja_H} {y0 : Nat} {y1 : Int32} {z0 : Int64} {z1 : Int32} {z2 : Int32} {z3 : Nat} : ja_D ja_gI M_Ma_step 88 [some (.ref y0), some (.int y1), none, none, none] [.long z0, .int z1, .int z2, .ref z3] h (r_Ma_step_88 h y0 y1 z0 z1 z2 z3) := by
  unfold r_Ma_step_88
  refine jd_aload_n i_Ma_step_88 rfl ?_
  refine jd_callVL G_Ma_88 in_Ma_useRight se_Ma_useRight rfl (fun _ e => c_Ma_useRight e) rfl ⟨by decide, by decide⟩ rfl (Nat.le_of_ble_eq_true rfl) i_Ma_step_89 (fun v2 h1 => ?_)
  refine jd_callSL G_Ma_92 sc_Ar_reckon (fun _ e => c_Ar_reckon e) rfl ⟨by decide, by decide⟩ rfl (Nat.le_of_ble_eq_true rfl) i_Ma_step_92 (fun v4 h3 => ?_)
  refine jd_callVV G_Ma_72 in_Ma_give se_Ma_give rfl (fun _ e => c_Ma_give e) rfl ⟨by decide, by decide⟩ rfl (Nat.le_of_ble_eq_true rfl) i_Ma_step_95 (fun h5 => ?_)
  refine jd_iload_n i_Ma_step_98 rfl ?_
  refine jd_iconst 1 i_Ma_step_99 (by decide) ?_
  refine jd_iadd i_Ma_step_100 ?_
  exact jd_ireturn i_Ma_step_101 rfl
noncomputable def r_Ma_step (h : ja_H) (a0 : Nat) (a1 : Int32) (a2 : Int64) (a4 : Nat) : Option (Int32 × ja_H) := (jf_R h a0 8 4 (fun a101 => (jf_I h a101 4 5 (fun v102 => (jsw v102 [1, 2, 3, 4, 5, 6, 7] [(jf_R h a0 8 4 (fun a103 => (jf_I h a103 4 1 (fun v104 => (jf_R h a0 8 4 (fun a105 => (jf_I h a105 4 0 (fun v106 => (jf_R h a0 8 4 (fun a107 => (jk h a107 4 (jc_I (r_Wo_usesOldD h a107) (fun v109 h108 => (if v109 = (0 : Int32) then (r_Ma_step_88 h108 a0 a1 (0 : Int64) v106 v104 a0) else (jf_R h108 a0 8 4 (fun a110 => (jf_I h108 a110 4 1 (fun v111 => (jk h108 a0 8 (jc_L (r_Ma_use h108 a0 v111) (fun v113 h112 => (r_Ma_step_88 h112 a0 a1 v113 v106 v104 a0)))))))))))))))))))))), (jf_R h a0 8 4 (fun a114 => (jf_I h a114 4 0 (fun v115 => (jf_R h a0 8 4 (fun a116 => (jf_I h a116 4 1 (fun v117 => (jk h a0 8 (jc_L (r_Ma_use h a0 v117) (fun v119 h118 => (jk h118 a0 8 (jc_L (r_Ma_useRight h118 a0) (fun v121 h120 => (jc_I (r_Ar_holds h120 v115 v119 v121) (fun v123 h122 => (if v123 = (0 : Int32) then (r_Ma_step_144 h122 (a1 + (1 : Int32))) else (jf_R h122 a0 8 4 (fun a124 => (jk h122 a124 4 (jc_I (r_Wo_goalFrom h122 a124 a1) (fun v126 h125 => (r_Ma_step_144 h125 v126))))))))))))))))))))))), (jf_R h a0 8 4 (fun a127 => (jf_I h a127 4 1 (fun v128 => (jk h a0 8 (jc_L (r_Ma_useRight h a0) (fun v130 h129 => (jf_R h129 a0 8 4 (fun a131 => (jf_I h129 a131 4 3 (fun v132 => (jf_R h129 a0 8 4 (fun a133 => (jk h129 a133 4 (jc_I (r_Wo_size h129 a133) (fun v135 h134 => (jk h134 a0 8 (jc_L (r_Ma_read h134 a0 (v130 + (Int32.toInt64 v132)) v135 a4) (fun v137 h136 => (jk h136 a0 8 (jc_V (r_Ma_give h136 a0 v128 v137) (fun h138 => (some ((a1 + (1 : Int32)), h138)))))))))))))))))))))))), (r_Ma_step_186 h a0 a1), (r_Ma_step_186 h a0 a1), (r_Ma_step_248 h a0 a1), (jf_R h a0 8 4 (fun a139 => (jf_I h a139 4 1 (fun v140 => (jf_R h a0 8 4 (fun a141 => (jk h a141 4 (jc_L (r_Wo_wideNumber h a141 a2) (fun v143 h142 => (jk h142 a0 8 (jc_V (r_Ma_give h142 a0 v140 v143) (fun h144 => (some ((a1 + (2 : Int32)), h144))))))))))))))] (r_Ma_step_248 h a0 a1))))))
theorem e_Ma_step {h : ja_H} {a0 : Nat} {a1 : Int32} {a2 : Int64} {a4 : Nat} : ja_D ja_gI M_Ma_step 0 [some (.ref a0), some (.int a1), some (.long a2), none, some (.ref a4)] [] h (r_Ma_step h a0 a1 a2 a4) := by
  unfold r_Ma_step
  refine jd_aload_n i_Ma_step_0 rfl ?_
  refine jd_getR F_Ma_29 i_Ma_step_1 (fun a101 => ?_)
  refine jd_getI F_Ma_53 i_Ma_step_4 (fun v102 => ?_)
  refine jd_ts 248 [1, 2, 3, 4, 5, 6, 7] [48, 102, 145, 186, 186, 248, 225] i_Ma_step_7 rfl (by decide) (by decide) (by decide) ?_ ⟨?_, ?_, ?_, ?_, ?_, ?_, ?_, trivial⟩
  · exact jd_less (t_Ma_step_248) ⟨rfl, rfl, trivial⟩
  · refine jd_aload_n i_Ma_step_48 rfl ?_
    refine jd_aload_n i_Ma_step_49 rfl ?_
    refine jd_getR F_Ma_29 i_Ma_step_50 (fun a103 => ?_)
    refine jd_getI F_Ma_78 i_Ma_step_53 (fun v104 => ?_)
    refine jd_aload_n i_Ma_step_56 rfl ?_
    refine jd_getR F_Ma_29 i_Ma_step_57 (fun a105 => ?_)
    refine jd_getI F_Ma_81 i_Ma_step_60 (fun v106 => ?_)
    refine jd_aload_n i_Ma_step_63 rfl ?_
    refine jd_getR F_Ma_29 i_Ma_step_64 (fun a107 => ?_)
    refine jd_callVI G_Ma_84 in_Wo_usesOldD se_Wo_usesOldD rfl (fun _ e => c_Wo_usesOldD e) rfl ⟨by decide, by decide⟩ rfl (Nat.le_of_ble_eq_true rfl) i_Ma_step_67 (fun v109 h108 => ?_)
    refine jd_if_eq 87 i_Ma_step_70 (by decide) ?_ ?_
    · refine jd_lconst 0 i_Ma_step_87 (by decide) ?_
      exact jd_less (t_Ma_step_88) ⟨rfl, rfl, trivial⟩
    · refine jd_aload_n i_Ma_step_73 rfl ?_
      refine jd_aload_n i_Ma_step_74 rfl ?_
      refine jd_getR F_Ma_29 i_Ma_step_75 (fun a110 => ?_)
      refine jd_getI F_Ma_78 i_Ma_step_78 (fun v111 => ?_)
      refine jd_callVL G_Ma_60 in_Ma_use se_Ma_use rfl (fun _ e => c_Ma_use e) rfl ⟨by decide, by decide⟩ rfl (Nat.le_of_ble_eq_true rfl) i_Ma_step_81 (fun v113 h112 => ?_)
      refine jd_goto 88 i_Ma_step_84 (by decide) ?_
      exact jd_less (t_Ma_step_88) ⟨rfl, rfl, trivial⟩
  · refine jd_aload_n i_Ma_step_102 rfl ?_
    refine jd_getR F_Ma_29 i_Ma_step_103 (fun a114 => ?_)
    refine jd_getI F_Ma_81 i_Ma_step_106 (fun v115 => ?_)
    refine jd_aload_n i_Ma_step_109 rfl ?_
    refine jd_aload_n i_Ma_step_110 rfl ?_
    refine jd_getR F_Ma_29 i_Ma_step_111 (fun a116 => ?_)
    refine jd_getI F_Ma_78 i_Ma_step_114 (fun v117 => ?_)
    refine jd_callVL G_Ma_60 in_Ma_use se_Ma_use rfl (fun _ e => c_Ma_use e) rfl ⟨by decide, by decide⟩ rfl (Nat.le_of_ble_eq_true rfl) i_Ma_step_117 (fun v119 h118 => ?_)
    refine jd_aload_n i_Ma_step_120 rfl ?_
    refine jd_callVL G_Ma_88 in_Ma_useRight se_Ma_useRight rfl (fun _ e => c_Ma_useRight e) rfl ⟨by decide, by decide⟩ rfl (Nat.le_of_ble_eq_true rfl) i_Ma_step_121 (fun v121 h120 => ?_)
    refine jd_callSI G_Ma_98 sc_Ar_holds (fun _ e => c_Ar_holds e) rfl ⟨by decide, by decide⟩ rfl (Nat.le_of_ble_eq_true rfl) i_Ma_step_124 (fun v123 h122 => ?_)
    refine jd_if_eq 141 i_Ma_step_127 (by decide) ?_ ?_
    · refine jd_iload_n i_Ma_step_141 rfl ?_
      refine jd_iconst 1 i_Ma_step_142 (by decide) ?_
      refine jd_iadd i_Ma_step_143 ?_
      exact jd_less (t_Ma_step_144) trivial
    · refine jd_aload_n i_Ma_step_130 rfl ?_
      refine jd_getR F_Ma_29 i_Ma_step_131 (fun a124 => ?_)
      refine jd_iload_n i_Ma_step_134 rfl ?_
      refine jd_callVI G_Ma_102 in_Wo_goalFrom se_Wo_goalFrom rfl (fun _ e => c_Wo_goalFrom e) rfl ⟨by decide, by decide⟩ rfl (Nat.le_of_ble_eq_true rfl) i_Ma_step_135 (fun v126 h125 => ?_)
      refine jd_goto 144 i_Ma_step_138 (by decide) ?_
      exact jd_less (t_Ma_step_144) trivial
  · refine jd_aload_n i_Ma_step_145 rfl ?_
    refine jd_aload_n i_Ma_step_146 rfl ?_
    refine jd_getR F_Ma_29 i_Ma_step_147 (fun a127 => ?_)
    refine jd_getI F_Ma_78 i_Ma_step_150 (fun v128 => ?_)
    refine jd_aload_n i_Ma_step_153 rfl ?_
    refine jd_aload_n i_Ma_step_154 rfl ?_
    refine jd_callVL G_Ma_88 in_Ma_useRight se_Ma_useRight rfl (fun _ e => c_Ma_useRight e) rfl ⟨by decide, by decide⟩ rfl (Nat.le_of_ble_eq_true rfl) i_Ma_step_155 (fun v130 h129 => ?_)
    refine jd_aload_n i_Ma_step_158 rfl ?_
    refine jd_getR F_Ma_29 i_Ma_step_159 (fun a131 => ?_)
    refine jd_getI F_Ma_106 i_Ma_step_162 (fun v132 => ?_)
    refine jd_i2l i_Ma_step_165 ?_
    refine jd_ladd i_Ma_step_166 ?_
    refine jd_aload_n i_Ma_step_167 rfl ?_
    refine jd_getR F_Ma_29 i_Ma_step_168 (fun a133 => ?_)
    refine jd_callVI G_Ma_109 in_Wo_size se_Wo_size rfl (fun _ e => c_Wo_size e) rfl ⟨by decide, by decide⟩ rfl (Nat.le_of_ble_eq_true rfl) i_Ma_step_171 (fun v135 h134 => ?_)
    refine jd_aload i_Ma_step_174 rfl ?_
    refine jd_callVL G_Ma_113 in_Ma_read se_Ma_read rfl (fun _ e => c_Ma_read e) rfl ⟨by decide, by decide⟩ rfl (Nat.le_of_ble_eq_true rfl) i_Ma_step_176 (fun v137 h136 => ?_)
    refine jd_callVV G_Ma_72 in_Ma_give se_Ma_give rfl (fun _ e => c_Ma_give e) rfl ⟨by decide, by decide⟩ rfl (Nat.le_of_ble_eq_true rfl) i_Ma_step_179 (fun h138 => ?_)
    refine jd_iload_n i_Ma_step_182 rfl ?_
    refine jd_iconst 1 i_Ma_step_183 (by decide) ?_
    refine jd_iadd i_Ma_step_184 ?_
    exact jd_ireturn i_Ma_step_185 rfl
  · exact jd_less (t_Ma_step_186) ⟨rfl, rfl, trivial⟩
  · exact jd_less (t_Ma_step_186) ⟨rfl, rfl, trivial⟩
  · exact jd_less (t_Ma_step_248) ⟨rfl, rfl, trivial⟩
  · refine jd_aload_n i_Ma_step_225 rfl ?_
    refine jd_aload_n i_Ma_step_226 rfl ?_
    refine jd_getR F_Ma_29 i_Ma_step_227 (fun a139 => ?_)
    refine jd_getI F_Ma_78 i_Ma_step_230 (fun v140 => ?_)
    refine jd_aload_n i_Ma_step_233 rfl ?_
    refine jd_getR F_Ma_29 i_Ma_step_234 (fun a141 => ?_)
    refine jd_lload_n i_Ma_step_237 rfl ?_
    refine jd_callVL G_Ma_121 in_Wo_wideNumber se_Wo_wideNumber rfl (fun _ e => c_Wo_wideNumber e) rfl ⟨by decide, by decide⟩ rfl (Nat.le_of_ble_eq_true rfl) i_Ma_step_238 (fun v143 h142 => ?_)
    refine jd_callVV G_Ma_72 in_Ma_give se_Ma_give rfl (fun _ e => c_Ma_give e) rfl ⟨by decide, by decide⟩ rfl (Nat.le_of_ble_eq_true rfl) i_Ma_step_241 (fun h144 => ?_)
    refine jd_iload_n i_Ma_step_244 rfl ?_
    refine jd_iconst 2 i_Ma_step_245 (by decide) ?_
    refine jd_iadd i_Ma_step_246 ?_
    exact jd_ireturn i_Ma_step_247 rfl
theorem c_Ma_step {h : ja_H} {a0 : Nat} {a1 : Int32} {a2 : Int64} {a4 : Nat} {o : Int32 × ja_H} (e : r_Ma_step h a0 a1 a2 a4 = some o) : ja_M (4, 95) y_Ma_step b_Ma_step 5 (some .int) [.ref a0, .int a1, .long a2, .ref a4] h [.int o.1] o.2 := jc_of (g := ja_gI) false _ e e_Ma_step rfl (by decide +kernel) (fun q => nomatch q) (Nat.le_of_ble_eq_true rfl) (fun _ q => nomatch q) (Nat.le_of_ble_eq_true rfl)
noncomputable def r_Ma_execute_98 (h : ja_H) (y4 : Int64) : Option (Int64 × ja_H) := (some (y4, h))
theorem t_Ma_execute_98 {h : ja_H} {y4 : Int64} : ja_D ja_gL M_Ma_execute 98 [none, none, none, none, some (.long y4), none] [] h (r_Ma_execute_98 h y4) := by
  unfold r_Ma_execute_98
  refine jd_lload i_Ma_execute_98 rfl ?_
  exact jd_lreturn i_Ma_execute_100 rfl
noncomputable def r_Ma_execute_74 (h : ja_H) (y0 : Nat) : Option (Int64 × ja_H) := (jk h y0 8 (jc_L (r_Ma_use h y0 (0 : Int32)) (fun v2 h1 => (jl (v2 : Int64) (fun (x3 : Int64) => (jf_I h1 y0 8 7 (fun v4 => (if v4 = (0 : Int32) then (r_Ma_execute_98 h1 x3) else (jf_I h1 y0 8 6 (fun v5 => (jp_I h1 y0 8 6 (v5 + (1 : Int32)) (fun h6 => (r_Ma_execute_98 h6 x3)))))))))))))
theorem t_Ma_execute_74 {h : ja_H} {y0 : Nat} : ja_D ja_gL M_Ma_execute 74 [some (.ref y0), none, none, none, none, none] [] h (r_Ma_execute_74 h y0) := by
  unfold r_Ma_execute_74
  refine jd_aload_n i_Ma_execute_74 rfl ?_
  refine jd_iconst 0 i_Ma_execute_75 (by decide) ?_
  refine jd_callVL G_Ma_60 in_Ma_use se_Ma_use rfl (fun _ e => c_Ma_use e) rfl ⟨by decide, by decide⟩ rfl (Nat.le_of_ble_eq_true rfl) i_Ma_execute_76 (fun v2 h1 => ?_)
  refine jd_lstore (fun x3 => [some (.ref y0), none, none, none, some (.long x3), none]) i_Ma_execute_79 (by decide) rfl (fun _ => rfl) (fun x3 => ?_)
  refine jd_aload_n i_Ma_execute_81 rfl ?_
  refine jd_getI F_Ma_63 i_Ma_execute_82 (fun v4 => ?_)
  refine jd_if_eq 98 i_Ma_execute_85 (by decide) ?_ ?_
  · exact jd_less (t_Ma_execute_98) ⟨rfl, trivial⟩
  · refine jd_aload_n i_Ma_execute_88 rfl ?_
    refine jd_dupR i_Ma_execute_89 ?_
    refine jd_getI F_Ma_67 i_Ma_execute_90 (fun v5 => ?_)
    refine jd_iconst 1 i_Ma_execute_93 (by decide) ?_
    refine jd_iadd i_Ma_execute_94 ?_
    refine jd_putI F_Ma_67 P_Ma_strayRuns i_Ma_execute_95 (fun h6 => ?_)
    exact jd_less (t_Ma_execute_98) ⟨rfl, trivial⟩
noncomputable def q_Ma_execute_12 (C12 : ja_H → Nat → Nat → Nat → Int32 → Int32 → Option (Int64 × ja_H)) (h : ja_H) (y0 : Nat) (y1 : Nat) (y2 : Nat) (y3 : Int32) (y4 : Int32) : Option (Int64 × ja_H) := (if y4 ≤ (0 : Int32) then (r_Ma_execute_74 h y0) else (jf_I h y0 8 5 (fun v1 => (jp_I h y0 8 5 (v1 + (1 : Int32)) (fun h2 => (jf_R h2 y0 8 4 (fun a3 => (jk h2 y1 1 (jc_L (r_Co_at h2 y1 y3) (fun v5 h4 => (jk h4 a3 4 (jc_V (r_Wo_take h4 a3 v5) (fun h6 => (jf_R h6 y0 8 4 (fun a7 => (jf_I h6 a7 4 5 (fun v8 => (if v8 = (8 : Int32) then (r_Ma_execute_74 h6 y0) else (jk h6 y1 1 (jc_L (r_Co_at h6 y1 (y3 + (1 : Int32))) (fun v10 h9 => (jk h9 y0 8 (jc_I (r_Ma_step h9 y0 y3 v10 y2) (fun v12 h11 => (jl (v12 : Int32) (fun (x13 : Int32) => (jl (y4 + (-1) : Int32) (fun (x14 : Int32) => (C12 h11 y0 y1 y2 x13 x14)))))))))))))))))))))))))))))
theorem t_Ma_execute_12 {C12 : ja_H → Nat → Nat → Nat → Int32 → Int32 → Option (Int64 × ja_H)} (k12 : ∀ (h : ja_H) (y0 : Nat) (y1 : Nat) (y2 : Nat) (y3 : Int32) (y4 : Int32), ja_D ja_gL M_Ma_execute 12 [some (.ref y0), some (.ref y1), some (.ref y2), some (.int y3), some (.int y4), none] [] h (C12 h y0 y1 y2 y3 y4)) {h : ja_H} {y0 : Nat} {y1 : Nat} {y2 : Nat} {y3 : Int32} {y4 : Int32} : ja_D ja_gL M_Ma_execute 12 [some (.ref y0), some (.ref y1), some (.ref y2), some (.int y3), some (.int y4), none] [] h (q_Ma_execute_12 C12 h y0 y1 y2 y3 y4) := by
  unfold q_Ma_execute_12
  refine jd_iload i_Ma_execute_12 rfl ?_
  refine jd_if_le 74 i_Ma_execute_14 (by decide) ?_ ?_
  · exact jd_less (t_Ma_execute_74) ⟨rfl, trivial⟩
  · refine jd_aload_n i_Ma_execute_17 rfl ?_
    refine jd_dupR i_Ma_execute_18 ?_
    refine jd_getI F_Ma_42 i_Ma_execute_19 (fun v1 => ?_)
    refine jd_iconst 1 i_Ma_execute_22 (by decide) ?_
    refine jd_iadd i_Ma_execute_23 ?_
    refine jd_putI F_Ma_42 P_Ma_steps i_Ma_execute_24 (fun h2 => ?_)
    refine jd_aload_n i_Ma_execute_27 rfl ?_
    refine jd_getR F_Ma_29 i_Ma_execute_28 (fun a3 => ?_)
    refine jd_aload_n i_Ma_execute_31 rfl ?_
    refine jd_iload_n i_Ma_execute_32 rfl ?_
    refine jd_callVL G_Ma_45 in_Co_at se_Co_at rfl (fun _ e => c_Co_at e) rfl ⟨by decide, by decide⟩ rfl (Nat.le_of_ble_eq_true rfl) i_Ma_execute_33 (fun v5 h4 => ?_)
    refine jd_callVV G_Ma_49 in_Wo_take se_Wo_take rfl (fun _ e => c_Wo_take e) rfl ⟨by decide, by decide⟩ rfl (Nat.le_of_ble_eq_true rfl) i_Ma_execute_36 (fun h6 => ?_)
    refine jd_aload_n i_Ma_execute_39 rfl ?_
    refine jd_getR F_Ma_29 i_Ma_execute_40 (fun a7 => ?_)
    refine jd_getI F_Ma_53 i_Ma_execute_43 (fun v8 => ?_)
    refine jd_bipush 8 i_Ma_execute_46 (by decide) ?_
    refine jd_icmp_ne 54 i_Ma_execute_48 (by decide) ?_ ?_
    · refine jd_aload_n i_Ma_execute_54 rfl ?_
      refine jd_iload_n i_Ma_execute_55 rfl ?_
      refine jd_aload_n i_Ma_execute_56 rfl ?_
      refine jd_iload_n i_Ma_execute_57 rfl ?_
      refine jd_iconst 1 i_Ma_execute_58 (by decide) ?_
      refine jd_iadd i_Ma_execute_59 ?_
      refine jd_callVL G_Ma_45 in_Co_at se_Co_at rfl (fun _ e => c_Co_at e) rfl ⟨by decide, by decide⟩ rfl (Nat.le_of_ble_eq_true rfl) i_Ma_execute_60 (fun v10 h9 => ?_)
      refine jd_aload_n i_Ma_execute_63 rfl ?_
      refine jd_callVI G_Ma_56 in_Ma_step se_Ma_step rfl (fun _ e => c_Ma_step e) rfl ⟨by decide, by decide⟩ rfl (Nat.le_of_ble_eq_true rfl) i_Ma_execute_64 (fun v12 h11 => ?_)
      refine jd_istore_n (fun x13 => [some (.ref y0), some (.ref y1), some (.ref y2), some (.int x13), some (.int y4), none]) i_Ma_execute_67 (by decide) rfl (fun _ => rfl) (fun x13 => ?_)
      refine jd_iinc (fun x14 => [some (.ref y0), some (.ref y1), some (.ref y2), some (.int x13), some (.int x14), none]) i_Ma_execute_68 rfl rfl (by decide) rfl (fun _ => rfl) (fun x14 => ?_)
      refine jd_goto 12 i_Ma_execute_71 (by decide) ?_
      exact jd_less (k12 _ _ _ _ _ _) ⟨rfl, rfl, rfl, rfl, rfl, trivial⟩
    · refine jd_goto 74 i_Ma_execute_51 (by decide) ?_
      exact jd_less (t_Ma_execute_74) ⟨rfl, trivial⟩
noncomputable def r_Ma_execute_12 : Nat → ja_H → Nat → Nat → Nat → Int32 → Int32 → Option (Int64 × ja_H) := ja_lo (q_Ma_execute_12) (fun _ _ _ _ _ _ => none)
theorem s_Ma_execute_12 : ∀ (n : Nat) (h : ja_H) (y0 : Nat) (y1 : Nat) (y2 : Nat) (y3 : Int32) (y4 : Int32), ja_D ja_gL M_Ma_execute 12 [some (.ref y0), some (.ref y1), some (.ref y2), some (.int y3), some (.int y4), none] [] h (r_Ma_execute_12 n h y0 y1 y2 y3 y4) := by
  intro n
  induction n with
  | zero => intro h y0 y1 y2 y3 y4 o e; cases e
  | succ n ih => intro h y0 y1 y2 y3 y4; exact t_Ma_execute_12 ih
noncomputable def r_Ma_execute (h : ja_H) (a0 : Nat) (a1 : Nat) (a2 : Nat) : Option (Int64 × ja_H) := (jk h a0 8 (jc_V (r_Ma_begin h a0) (fun h101 => (jl ((0 : Int32) : Int32) (fun (x102 : Int32) => (jf_I h101 a1 1 1 (fun v103 => (jl (v103 : Int32) (fun (x104 : Int32) => (r_Ma_execute_12 ja_fu h101 a0 a1 a2 x102 x104))))))))))
theorem e_Ma_execute {h : ja_H} {a0 : Nat} {a1 : Nat} {a2 : Nat} : ja_D ja_gL M_Ma_execute 0 [some (.ref a0), some (.ref a1), some (.ref a2), none, none, none] [] h (r_Ma_execute h a0 a1 a2) := by
  unfold r_Ma_execute
  refine jd_aload_n i_Ma_execute_0 rfl ?_
  refine jd_callVV G_Ma_33 in_Ma_begin se_Ma_begin rfl (fun _ e => c_Ma_begin e) rfl ⟨by decide, by decide⟩ rfl (Nat.le_of_ble_eq_true rfl) i_Ma_execute_1 (fun h101 => ?_)
  refine jd_iconst 0 i_Ma_execute_4 (by decide) ?_
  refine jd_istore_n (fun x102 => [some (.ref a0), some (.ref a1), some (.ref a2), some (.int x102), none, none]) i_Ma_execute_5 (by decide) rfl (fun _ => rfl) (fun x102 => ?_)
  refine jd_aload_n i_Ma_execute_6 rfl ?_
  refine jd_getI F_Ma_36 i_Ma_execute_7 (fun v103 => ?_)
  refine jd_istore (fun x104 => [some (.ref a0), some (.ref a1), some (.ref a2), some (.int x102), some (.int x104), none]) i_Ma_execute_10 (by decide) rfl (fun _ => rfl) (fun x104 => ?_)
  exact jd_less (s_Ma_execute_12 ja_fu _ _ _ _ _ _) ⟨rfl, rfl, rfl, rfl, rfl, trivial⟩
theorem c_Ma_execute {h : ja_H} {a0 : Nat} {a1 : Nat} {a2 : Nat} {o : Int64 × ja_H} (e : r_Ma_execute h a0 a1 a2 = some o) : ja_M (5, 119) y_Ma_execute b_Ma_execute 6 (some .long) [.ref a0, .ref a1, .ref a2] h [.long o.1] o.2 := jc_of (g := ja_gL) false _ e e_Ma_execute rfl (by decide +kernel) (fun q => nomatch q) (Nat.le_of_ble_eq_true rfl) (fun _ q => nomatch q) (Nat.le_of_ble_eq_true rfl)
noncomputable def r_WJ_run (h : ja_H) (a0 : Nat) : Option (List Value × ja_H) := (jf_I h a0 0 5 (fun v101 => (if v101 = (0 : Int32) then (some ([.retAddr 7], h)) else (jf_R h a0 0 4 (fun a102 => (jf_R h a0 0 0 (fun a103 => (jf_R h a0 0 1 (fun a104 => (jk h a102 8 (jc_L (r_Ma_execute h a102 a103 a104) (fun v106 h105 => (some ([.long v106], h105))))))))))))))
theorem e_WJ_run {h : ja_H} {a0 : Nat} : ja_D ja_gX M_WJ_run 0 [some (.ref a0)] [] h (r_WJ_run h a0) := by
  unfold r_WJ_run
  refine jd_aload_n i_WJ_run_0 rfl ?_
  refine jd_getI F_WJ_44 i_WJ_run_1 (fun v101 => ?_)
  refine jd_if_ne 17 i_WJ_run_4 (by decide) ?_ ?_
  · refine jd_aload_n i_WJ_run_17 rfl ?_
    refine jd_getR F_WJ_40 i_WJ_run_18 (fun a102 => ?_)
    refine jd_aload_n i_WJ_run_21 rfl ?_
    refine jd_getR F_WJ_12 i_WJ_run_22 (fun a103 => ?_)
    refine jd_aload_n i_WJ_run_25 rfl ?_
    refine jd_getR F_WJ_19 i_WJ_run_26 (fun a104 => ?_)
    refine jd_callVL G_WJ_111 in_Ma_execute se_Ma_execute rfl (fun _ e => c_Ma_execute e) rfl ⟨by decide, by decide⟩ rfl (Nat.le_of_ble_eq_true rfl) i_WJ_run_29 (fun v106 h105 => ?_)
    exact jd_lreturnX i_WJ_run_32 rfl
  · exact jd_throw
noncomputable def r_WJ_count_78 (h : ja_H) (z0 : Int32) : Option (List Value × ja_H) := (some ([.int z0], h))
theorem t_WJ_count_78 {h : ja_H} {z0 : Int32} : ja_D ja_gX M_WJ_count 78 [none, none] [.int z0] h (r_WJ_count_78 h z0) := by
  unfold r_WJ_count_78
  exact jd_ireturnX i_WJ_count_78 rfl
noncomputable def r_WJ_count (h : ja_H) (a0 : Nat) (a1 : Int32) : Option (List Value × ja_H) := (jsw a1 [0, 1, 2, 3, 4] [(jf_R h a0 0 0 (fun a101 => (jf_I h a101 1 1 (fun v102 => (some ([.int v102], h)))))), (jf_R h a0 0 1 (fun a103 => (jf_I h a103 2 1 (fun v104 => (some ([.int v104], h)))))), (jf_R h a0 0 4 (fun a105 => (jf_I h a105 8 5 (fun v106 => (some ([.int v106], h)))))), (jf_I h a0 0 5 (fun v107 => (if v107 = (0 : Int32) then (r_WJ_count_78 h (0 : Int32)) else (jf_R h a0 0 3 (fun a108 => (jf_I h a108 5 8 (fun v109 => (r_WJ_count_78 h v109)))))))), (jf_R h a0 0 4 (fun a110 => (jf_I h a110 8 6 (fun v111 => (some ([.int v111], h))))))] (some ([.retAddr 87], h)))
theorem e_WJ_count {h : ja_H} {a0 : Nat} {a1 : Int32} : ja_D ja_gX M_WJ_count 0 [some (.ref a0), some (.int a1)] [] h (r_WJ_count h a0 a1) := by
  unfold r_WJ_count
  refine jd_iload_n i_WJ_count_0 rfl ?_
  refine jd_ts 87 [0, 1, 2, 3, 4] [36, 44, 52, 60, 79] i_WJ_count_1 rfl (by decide) (by decide) (by decide) ?_ ⟨?_, ?_, ?_, ?_, ?_, trivial⟩
  · exact jd_throw
  · refine jd_aload_n i_WJ_count_36 rfl ?_
    refine jd_getR F_WJ_12 i_WJ_count_37 (fun a101 => ?_)
    refine jd_getI F_WJ_52 i_WJ_count_40 (fun v102 => ?_)
    exact jd_ireturnX i_WJ_count_43 rfl
  · refine jd_aload_n i_WJ_count_44 rfl ?_
    refine jd_getR F_WJ_19 i_WJ_count_45 (fun a103 => ?_)
    refine jd_getI F_WJ_73 i_WJ_count_48 (fun v104 => ?_)
    exact jd_ireturnX i_WJ_count_51 rfl
  · refine jd_aload_n i_WJ_count_52 rfl ?_
    refine jd_getR F_WJ_40 i_WJ_count_53 (fun a105 => ?_)
    refine jd_getI F_WJ_115 i_WJ_count_56 (fun v106 => ?_)
    exact jd_ireturnX i_WJ_count_59 rfl
  · refine jd_aload_n i_WJ_count_60 rfl ?_
    refine jd_getI F_WJ_44 i_WJ_count_61 (fun v107 => ?_)
    refine jd_if_eq 77 i_WJ_count_64 (by decide) ?_ ?_
    · refine jd_iconst 0 i_WJ_count_77 (by decide) ?_
      exact jd_less (t_WJ_count_78) trivial
    · refine jd_aload_n i_WJ_count_67 rfl ?_
      refine jd_getR F_WJ_33 i_WJ_count_68 (fun a108 => ?_)
      refine jd_getI F_WJ_118 i_WJ_count_71 (fun v109 => ?_)
      refine jd_goto 78 i_WJ_count_74 (by decide) ?_
      exact jd_less (t_WJ_count_78) trivial
  · refine jd_aload_n i_WJ_count_79 rfl ?_
    refine jd_getR F_WJ_40 i_WJ_count_80 (fun a110 => ?_)
    refine jd_getI F_WJ_121 i_WJ_count_83 (fun v111 => ?_)
    exact jd_ireturnX i_WJ_count_86 rfl
noncomputable def r_Mo_init (h : ja_H) (a0 : Nat) : Option (ja_H) := (jw_A h 1 (1024 : Int32) (fun a101 h102 => (jp_R h102 a0 9 1 a101 (fun h103 => (jw_A h103 2 (1025 : Int32) (fun a104 h105 => (jp_R h105 a0 9 3 a104 (fun h106 => (jw_A h106 2 (1024 : Int32) (fun a107 h108 => (jp_R h108 a0 9 4 a107 (fun h109 => (jp_I h109 a0 9 7 (-1 : Int32) (fun h110 => (jw_A h110 0 (256 : Int32) (fun a111 h112 => (jp_R h112 a0 9 8 a111 (fun h113 => (jw_A h113 3 (76950 : Int32) (fun a114 h115 => (jp_R h115 a0 9 10 a114 (fun h116 => (jw_A h116 1 (76950 : Int32) (fun a117 h118 => (jp_R h118 a0 9 11 a117 (fun h119 => (jw_A h119 1 (76950 : Int32) (fun a120 h121 => (jp_R h121 a0 9 12 a120 (fun h122 => (jw_A h122 2 (525312 : Int32) (fun a123 h124 => (jp_R h124 a0 9 13 a123 (fun h125 => (jw_A h125 0 (11 : Int32) (fun a126 h127 => (jp_R h127 a0 9 17 a126 (fun h128 => (jw_A h128 0 (64 : Int32) (fun a129 h130 => (jp_R h130 a0 9 18 a129 (fun h131 => (jw_A h131 1 (11 : Int32) (fun a132 h133 => (jp_R h133 a0 9 19 a132 (fun h134 => (jw_A h134 1 (64 : Int32) (fun a135 h136 => (jp_R h136 a0 9 20 a135 (fun h137 => (jw_A h137 0 (512 : Int32) (fun a138 h139 => (jp_R h139 a0 9 21 a138 (fun h140 => (jw_A h140 2 (512 : Int32) (fun a141 h142 => (jp_R h142 a0 9 22 a141 (fun h143 => (some h143)))))))))))))))))))))))))))))))))))))))))))))))))))))))))))
theorem e_Mo_init {h : ja_H} {a0 : Nat} : ja_D ja_gV M_Mo_init 0 [some (.ref a0)] [] h (r_Mo_init h a0) := by
  unfold r_Mo_init
  refine jd_aload_n i_Mo_init_0 rfl ?_
  refine jd_objInit O_Mo_3 in_Ob k_Ob ⟨by decide, by decide⟩ (Nat.le_of_ble_eq_true rfl) i_Mo_init_1 ?_
  refine jd_aload_n i_Mo_init_4 rfl ?_
  refine jd_sipush 1024 i_Mo_init_5 (by decide) ?_
  refine jd_newa 1 .long rfl (by decide) ac_long i_Mo_init_8 (fun a101 h102 => ?_)
  refine jd_putR F_Mo_9 P_Mo_words rfl rfl (fun _ => rfl) (fun _ => rfl) i_Mo_init_10 (fun h103 => ?_)
  refine jd_aload_n i_Mo_init_13 rfl ?_
  refine jd_sipush 1025 i_Mo_init_14 (by decide) ?_
  refine jd_newa 2 .boolean rfl (by decide) ac_boolean i_Mo_init_17 (fun a104 h105 => ?_)
  refine jd_putR F_Mo_13 P_Mo_second rfl rfl (fun _ => rfl) (fun _ => rfl) i_Mo_init_19 (fun h106 => ?_)
  refine jd_aload_n i_Mo_init_22 rfl ?_
  refine jd_sipush 1024 i_Mo_init_23 (by decide) ?_
  refine jd_newa 2 .boolean rfl (by decide) ac_boolean i_Mo_init_26 (fun a107 h108 => ?_)
  refine jd_putR F_Mo_17 P_Mo_come rfl rfl (fun _ => rfl) (fun _ => rfl) i_Mo_init_28 (fun h109 => ?_)
  refine jd_aload_n i_Mo_init_31 rfl ?_
  refine jd_iconst (-1) i_Mo_init_32 (by decide) ?_
  refine jd_putI F_Mo_20 P_Mo_faultAt i_Mo_init_33 (fun h110 => ?_)
  refine jd_aload_n i_Mo_init_36 rfl ?_
  refine jd_sipush 256 i_Mo_init_37 (by decide) ?_
  refine jd_newa 0 .int rfl (by decide) ac_int i_Mo_init_40 (fun a111 h112 => ?_)
  refine jd_putR F_Mo_24 P_Mo_context rfl rfl (fun _ => rfl) (fun _ => rfl) i_Mo_init_42 (fun h113 => ?_)
  refine jd_aload_n i_Mo_init_45 rfl ?_
  refine jd_ldc i_Mo_init_46 K_Mo_28 ?_
  refine jd_newa 3 .byte rfl (by decide) ac_byte i_Mo_init_48 (fun a114 h115 => ?_)
  refine jd_putR F_Mo_29 P_Mo_kind rfl rfl (fun _ => rfl) (fun _ => rfl) i_Mo_init_50 (fun h116 => ?_)
  refine jd_aload_n i_Mo_init_53 rfl ?_
  refine jd_ldc i_Mo_init_54 K_Mo_28 ?_
  refine jd_newa 1 .long rfl (by decide) ac_long i_Mo_init_56 (fun a117 h118 => ?_)
  refine jd_putR F_Mo_33 P_Mo_low rfl rfl (fun _ => rfl) (fun _ => rfl) i_Mo_init_58 (fun h119 => ?_)
  refine jd_aload_n i_Mo_init_61 rfl ?_
  refine jd_ldc i_Mo_init_62 K_Mo_28 ?_
  refine jd_newa 1 .long rfl (by decide) ac_long i_Mo_init_64 (fun a120 h121 => ?_)
  refine jd_putR F_Mo_36 P_Mo_high rfl rfl (fun _ => rfl) (fun _ => rfl) i_Mo_init_66 (fun h122 => ?_)
  refine jd_aload_n i_Mo_init_69 rfl ?_
  refine jd_ldc i_Mo_init_70 K_Mo_39 ?_
  refine jd_newa 2 .boolean rfl (by decide) ac_boolean i_Mo_init_72 (fun a123 h124 => ?_)
  refine jd_putR F_Mo_40 P_Mo_set rfl rfl (fun _ => rfl) (fun _ => rfl) i_Mo_init_74 (fun h125 => ?_)
  refine jd_aload_n i_Mo_init_77 rfl ?_
  refine jd_bipush 11 i_Mo_init_78 (by decide) ?_
  refine jd_newa 0 .int rfl (by decide) ac_int i_Mo_init_80 (fun a126 h127 => ?_)
  refine jd_putR F_Mo_43 P_Mo_has rfl rfl (fun _ => rfl) (fun _ => rfl) i_Mo_init_82 (fun h128 => ?_)
  refine jd_aload_n i_Mo_init_85 rfl ?_
  refine jd_bipush 64 i_Mo_init_86 (by decide) ?_
  refine jd_newa 0 .int rfl (by decide) ac_int i_Mo_init_88 (fun a129 h130 => ?_)
  refine jd_putR F_Mo_46 P_Mo_keeps rfl rfl (fun _ => rfl) (fun _ => rfl) i_Mo_init_90 (fun h131 => ?_)
  refine jd_aload_n i_Mo_init_93 rfl ?_
  refine jd_bipush 11 i_Mo_init_94 (by decide) ?_
  refine jd_newa 1 .long rfl (by decide) ac_long i_Mo_init_96 (fun a132 h133 => ?_)
  refine jd_putR F_Mo_49 P_Mo_value rfl rfl (fun _ => rfl) (fun _ => rfl) i_Mo_init_98 (fun h134 => ?_)
  refine jd_aload_n i_Mo_init_101 rfl ?_
  refine jd_bipush 64 i_Mo_init_102 (by decide) ?_
  refine jd_newa 1 .long rfl (by decide) ac_long i_Mo_init_104 (fun a135 h136 => ?_)
  refine jd_putR F_Mo_52 P_Mo_keptValue rfl rfl (fun _ => rfl) (fun _ => rfl) i_Mo_init_106 (fun h137 => ?_)
  refine jd_aload_n i_Mo_init_109 rfl ?_
  refine jd_sipush 512 i_Mo_init_110 (by decide) ?_
  refine jd_newa 0 .int rfl (by decide) ac_int i_Mo_init_113 (fun a138 h139 => ?_)
  refine jd_putR F_Mo_55 P_Mo_memory rfl rfl (fun _ => rfl) (fun _ => rfl) i_Mo_init_115 (fun h140 => ?_)
  refine jd_aload_n i_Mo_init_118 rfl ?_
  refine jd_sipush 512 i_Mo_init_119 (by decide) ?_
  refine jd_newa 2 .boolean rfl (by decide) ac_boolean i_Mo_init_122 (fun a141 h142 => ?_)
  refine jd_putR F_Mo_58 P_Mo_had rfl rfl (fun _ => rfl) (fun _ => rfl) i_Mo_init_124 (fun h143 => ?_)
  exact jd_return i_Mo_init_127 rfl
theorem c_Mo_init {h : ja_H} {a0 : Nat} {o : ja_H} (e : r_Mo_init h a0 = some o) : ja_M (1, 20) y_Mo_init b_Mo_init 1 (none) [.ref a0] h [] o := jc_of (g := ja_gV) true _ e e_Mo_init rfl (by decide +kernel) (fun _ => rfl) (Nat.le_of_ble_eq_true rfl) (fun _ q => nomatch q) (Nat.le_of_ble_eq_true rfl)
noncomputable def r_Mo_thrown (h : ja_H) (a0 : Nat) : Option (Int32 × ja_H) := (jf_I h a0 9 0 (fun v101 => (some (v101, h))))
theorem e_Mo_thrown {h : ja_H} {a0 : Nat} : ja_D ja_gI M_Mo_thrown 0 [some (.ref a0)] [] h (r_Mo_thrown h a0) := by
  unfold r_Mo_thrown
  refine jd_aload_n i_Mo_thrown_0 rfl ?_
  refine jd_getI F_Mo_61 i_Mo_thrown_1 (fun v101 => ?_)
  exact jd_ireturn i_Mo_thrown_4 rfl
theorem c_Mo_thrown {h : ja_H} {a0 : Nat} {o : Int32 × ja_H} (e : r_Mo_thrown h a0 = some o) : ja_M (0, 0) y_Mo_thrown b_Mo_thrown 1 (some .int) [.ref a0] h [.int o.1] o.2 := jc_of (g := ja_gI) false _ e e_Mo_thrown rfl (by decide +kernel) (fun q => nomatch q) (Nat.le_of_ble_eq_true rfl) (fun _ q => nomatch q) (Nat.le_of_ble_eq_true rfl)
noncomputable def r_Mo_fails_10 (h : ja_H) (y1 : Int32) (z0 : Int32) (z1 : Nat) : Option (Int32 × ja_H) := (jp_I h z1 9 0 z0 (fun h1 => (jb y1 (some (y1, h1)))))
theorem t_Mo_fails_10 {h : ja_H} {y1 : Int32} {z0 : Int32} {z1 : Nat} : ja_D ja_gI M_Mo_fails 10 [none, some (.int y1), none] [.int z0, .ref z1] h (r_Mo_fails_10 h y1 z0 z1) := by
  unfold r_Mo_fails_10
  refine jd_putI F_Mo_61 P_Mo_err i_Mo_fails_10 (fun h1 => ?_)
  refine jd_iload_n i_Mo_fails_13 rfl ?_
  exact jd_zreturn i_Mo_fails_14 rfl
noncomputable def r_Mo_fails (h : ja_H) (a0 : Nat) (a1 : Int32) (a2 : Int32) : Option (Int32 × ja_H) := (if a1 = (0 : Int32) then (r_Mo_fails_10 h a1 (0 : Int32) a0) else (r_Mo_fails_10 h a1 a2 a0))
theorem e_Mo_fails {h : ja_H} {a0 : Nat} {a1 : Int32} {a2 : Int32} : ja_D ja_gI M_Mo_fails 0 [some (.ref a0), some (.int a1), some (.int a2)] [] h (r_Mo_fails h a0 a1 a2) := by
  unfold r_Mo_fails
  refine jd_aload_n i_Mo_fails_0 rfl ?_
  refine jd_iload_n i_Mo_fails_1 rfl ?_
  refine jd_if_eq 9 i_Mo_fails_2 (by decide) ?_ ?_
  · refine jd_iconst 0 i_Mo_fails_9 (by decide) ?_
    exact jd_less (t_Mo_fails_10) ⟨rfl, trivial⟩
  · refine jd_iload_n i_Mo_fails_5 rfl ?_
    refine jd_goto 10 i_Mo_fails_6 (by decide) ?_
    exact jd_less (t_Mo_fails_10) ⟨rfl, trivial⟩
theorem c_Mo_fails {h : ja_H} {a0 : Nat} {a1 : Int32} {a2 : Int32} {o : Int32 × ja_H} (e : r_Mo_fails h a0 a1 a2 = some o) : ja_M (0, 0) y_Mo_fails b_Mo_fails 3 (some .boolean) [.ref a0, .int a1, .int a2] h [.int o.1] o.2 := jc_of (g := ja_gI) false _ e e_Mo_fails rfl (by decide +kernel) (fun q => nomatch q) (Nat.le_of_ble_eq_true rfl) (fun _ q => nomatch q) (Nat.le_of_ble_eq_true rfl)
noncomputable def r_Mo_word_59 (h : ja_H) (y0 : Nat) : Option (Int32 × ja_H) := (jp_Z h y0 9 5 (0 : Int32) (fun h1 => (jf_I h1 y0 9 2 (fun v2 => (some (v2, h1))))))
theorem t_Mo_word_59 {h : ja_H} {y0 : Nat} : ja_D ja_gI M_Mo_word 59 [some (.ref y0), none, none, none] [] h (r_Mo_word_59 h y0) := by
  unfold r_Mo_word_59
  refine jd_aload_n i_Mo_word_59 rfl ?_
  refine jd_iconst 0 i_Mo_word_60 (by decide) ?_
  refine jd_putZ F_Mo_71 P_Mo_verified i_Mo_word_61 (fun h1 => ?_)
  refine jd_aload_n i_Mo_word_64 rfl ?_
  refine jd_getI F_Mo_64 i_Mo_word_65 (fun v2 => ?_)
  exact jd_ireturn i_Mo_word_68 rfl
noncomputable def r_Mo_word_25 (h : ja_H) (y0 : Nat) (y1 : Int32) (y2 : Int64) (z0 : Int32) (z1 : Nat) : Option (Int32 × ja_H) := (jk h z1 9 (jc_I (r_Mo_fails h z1 z0 (1 : Int32)) (fun v2 h1 => (if v2 = (0 : Int32) then (jf_R h1 y0 9 1 (fun a3 => (js_L h1 a3 y1 y2 (fun h4 => (jf_I h4 y0 9 2 (fun v5 => (if y1 = v5 then (jf_I h4 y0 9 2 (fun v6 => (jp_I h4 y0 9 2 (v6 + (1 : Int32)) (fun h7 => (r_Mo_word_59 h7 y0))))) else (r_Mo_word_59 h4 y0)))))))) else (some ((0 : Int32), h1))))))
theorem t_Mo_word_25 {h : ja_H} {y0 : Nat} {y1 : Int32} {y2 : Int64} {z0 : Int32} {z1 : Nat} : ja_D ja_gI M_Mo_word 25 [some (.ref y0), some (.int y1), some (.long y2), none] [.int z0, .ref z1] h (r_Mo_word_25 h y0 y1 y2 z0 z1) := by
  unfold r_Mo_word_25
  refine jd_iconst 1 i_Mo_word_25 (by decide) ?_
  refine jd_callVI G_Mo_67 in_Mo_fails se_Mo_fails rfl (fun _ e => c_Mo_fails e) rfl ⟨by decide, by decide⟩ rfl (Nat.le_of_ble_eq_true rfl) i_Mo_word_26 (fun v2 h1 => ?_)
  refine jd_if_eq 34 i_Mo_word_29 (by decide) ?_ ?_
  · refine jd_aload_n i_Mo_word_34 rfl ?_
    refine jd_getR F_Mo_9 i_Mo_word_35 (fun a3 => ?_)
    refine jd_iload_n i_Mo_word_38 rfl ?_
    refine jd_lload_n i_Mo_word_39 rfl ?_
    refine jd_last i_Mo_word_40 (fun h4 => ?_)
    refine jd_iload_n i_Mo_word_41 rfl ?_
    refine jd_aload_n i_Mo_word_42 rfl ?_
    refine jd_getI F_Mo_64 i_Mo_word_43 (fun v5 => ?_)
    refine jd_icmp_ne 59 i_Mo_word_46 (by decide) ?_ ?_
    · exact jd_less (t_Mo_word_59) ⟨rfl, trivial⟩
    · refine jd_aload_n i_Mo_word_49 rfl ?_
      refine jd_dupR i_Mo_word_50 ?_
      refine jd_getI F_Mo_64 i_Mo_word_51 (fun v6 => ?_)
      refine jd_iconst 1 i_Mo_word_54 (by decide) ?_
      refine jd_iadd i_Mo_word_55 ?_
      refine jd_putI F_Mo_64 P_Mo_many i_Mo_word_56 (fun h7 => ?_)
      exact jd_less (t_Mo_word_59) ⟨rfl, trivial⟩
  · refine jd_iconst 0 i_Mo_word_32 (by decide) ?_
    exact jd_ireturn i_Mo_word_33 rfl
noncomputable def r_Mo_word_20 (h : ja_H) (y0 : Nat) (y1 : Int32) (y2 : Int64) (z0 : Nat) : Option (Int32 × ja_H) := (r_Mo_word_25 h y0 y1 y2 (1 : Int32) z0)
theorem t_Mo_word_20 {h : ja_H} {y0 : Nat} {y1 : Int32} {y2 : Int64} {z0 : Nat} : ja_D ja_gI M_Mo_word 20 [some (.ref y0), some (.int y1), some (.long y2), none] [.ref z0] h (r_Mo_word_20 h y0 y1 y2 z0) := by
  unfold r_Mo_word_20
  refine jd_iconst 1 i_Mo_word_20 (by decide) ?_
  refine jd_goto 25 i_Mo_word_21 (by decide) ?_
  exact jd_less (t_Mo_word_25) ⟨rfl, rfl, rfl, trivial⟩
noncomputable def r_Mo_word (h : ja_H) (a0 : Nat) (a1 : Int32) (a2 : Int64) : Option (Int32 × ja_H) := (if a1 < (0 : Int32) then (r_Mo_word_20 h a0 a1 a2 a0) else (jf_I h a0 9 2 (fun v101 => (if v101 < a1 then (r_Mo_word_20 h a0 a1 a2 a0) else (if a1 < (1024 : Int32) then (r_Mo_word_25 h a0 a1 a2 (0 : Int32) a0) else (r_Mo_word_20 h a0 a1 a2 a0))))))
theorem e_Mo_word {h : ja_H} {a0 : Nat} {a1 : Int32} {a2 : Int64} : ja_D ja_gI M_Mo_word 0 [some (.ref a0), some (.int a1), some (.long a2), none] [] h (r_Mo_word h a0 a1 a2) := by
  unfold r_Mo_word
  refine jd_aload_n i_Mo_word_0 rfl ?_
  refine jd_iload_n i_Mo_word_1 rfl ?_
  refine jd_if_lt 20 i_Mo_word_2 (by decide) ?_ ?_
  · exact jd_less (t_Mo_word_20) ⟨rfl, rfl, rfl, trivial⟩
  · refine jd_iload_n i_Mo_word_5 rfl ?_
    refine jd_aload_n i_Mo_word_6 rfl ?_
    refine jd_getI F_Mo_64 i_Mo_word_7 (fun v101 => ?_)
    refine jd_icmp_gt 20 i_Mo_word_10 (by decide) ?_ ?_
    · exact jd_less (t_Mo_word_20) ⟨rfl, rfl, rfl, trivial⟩
    · refine jd_iload_n i_Mo_word_13 rfl ?_
      refine jd_sipush 1024 i_Mo_word_14 (by decide) ?_
      refine jd_icmp_lt 24 i_Mo_word_17 (by decide) ?_ ?_
      · refine jd_iconst 0 i_Mo_word_24 (by decide) ?_
        exact jd_less (t_Mo_word_25) ⟨rfl, rfl, rfl, trivial⟩
      · exact jd_less (t_Mo_word_20) ⟨rfl, rfl, rfl, trivial⟩
theorem c_Mo_word {h : ja_H} {a0 : Nat} {a1 : Int32} {a2 : Int64} {o : Int32 × ja_H} (e : r_Mo_word h a0 a1 a2 = some o) : ja_M (1, 22) y_Mo_word b_Mo_word 4 (some .int) [.ref a0, .int a1, .long a2] h [.int o.1] o.2 := jc_of (g := ja_gI) false _ e e_Mo_word rfl (by decide +kernel) (fun q => nomatch q) (Nat.le_of_ble_eq_true rfl) (fun _ q => nomatch q) (Nat.le_of_ble_eq_true rfl)
noncomputable def r_Mo_cut_18 (h : ja_H) (y0 : Nat) (y1 : Int32) (z0 : Int32) (z1 : Nat) : Option (ja_H) := (jk h z1 9 (jc_I (r_Mo_fails h z1 z0 (1 : Int32)) (fun v2 h1 => (if v2 = (0 : Int32) then (jp_I h1 y0 9 2 y1 (fun h3 => (jp_Z h3 y0 9 5 (0 : Int32) (fun h4 => (some h4))))) else (some h1)))))
theorem t_Mo_cut_18 {h : ja_H} {y0 : Nat} {y1 : Int32} {z0 : Int32} {z1 : Nat} : ja_D ja_gV M_Mo_cut 18 [some (.ref y0), some (.int y1)] [.int z0, .ref z1] h (r_Mo_cut_18 h y0 y1 z0 z1) := by
  unfold r_Mo_cut_18
  refine jd_iconst 1 i_Mo_cut_18 (by decide) ?_
  refine jd_callVI G_Mo_67 in_Mo_fails se_Mo_fails rfl (fun _ e => c_Mo_fails e) rfl ⟨by decide, by decide⟩ rfl (Nat.le_of_ble_eq_true rfl) i_Mo_cut_19 (fun v2 h1 => ?_)
  refine jd_if_eq 26 i_Mo_cut_22 (by decide) ?_ ?_
  · refine jd_aload_n i_Mo_cut_26 rfl ?_
    refine jd_iload_n i_Mo_cut_27 rfl ?_
    refine jd_putI F_Mo_64 P_Mo_many i_Mo_cut_28 (fun h3 => ?_)
    refine jd_aload_n i_Mo_cut_31 rfl ?_
    refine jd_iconst 0 i_Mo_cut_32 (by decide) ?_
    refine jd_putZ F_Mo_71 P_Mo_verified i_Mo_cut_33 (fun h4 => ?_)
    exact jd_return i_Mo_cut_36 rfl
  · exact jd_return i_Mo_cut_25 rfl
noncomputable def r_Mo_cut_13 (h : ja_H) (y0 : Nat) (y1 : Int32) (z0 : Nat) : Option (ja_H) := (r_Mo_cut_18 h y0 y1 (1 : Int32) z0)
theorem t_Mo_cut_13 {h : ja_H} {y0 : Nat} {y1 : Int32} {z0 : Nat} : ja_D ja_gV M_Mo_cut 13 [some (.ref y0), some (.int y1)] [.ref z0] h (r_Mo_cut_13 h y0 y1 z0) := by
  unfold r_Mo_cut_13
  refine jd_iconst 1 i_Mo_cut_13 (by decide) ?_
  refine jd_goto 18 i_Mo_cut_14 (by decide) ?_
  exact jd_less (t_Mo_cut_18) ⟨rfl, rfl, trivial⟩
noncomputable def r_Mo_cut (h : ja_H) (a0 : Nat) (a1 : Int32) : Option (ja_H) := (if a1 < (0 : Int32) then (r_Mo_cut_13 h a0 a1 a0) else (jf_I h a0 9 2 (fun v101 => (if a1 ≤ v101 then (r_Mo_cut_18 h a0 a1 (0 : Int32) a0) else (r_Mo_cut_13 h a0 a1 a0)))))
theorem e_Mo_cut {h : ja_H} {a0 : Nat} {a1 : Int32} : ja_D ja_gV M_Mo_cut 0 [some (.ref a0), some (.int a1)] [] h (r_Mo_cut h a0 a1) := by
  unfold r_Mo_cut
  refine jd_aload_n i_Mo_cut_0 rfl ?_
  refine jd_iload_n i_Mo_cut_1 rfl ?_
  refine jd_if_lt 13 i_Mo_cut_2 (by decide) ?_ ?_
  · exact jd_less (t_Mo_cut_13) ⟨rfl, rfl, trivial⟩
  · refine jd_iload_n i_Mo_cut_5 rfl ?_
    refine jd_aload_n i_Mo_cut_6 rfl ?_
    refine jd_getI F_Mo_64 i_Mo_cut_7 (fun v101 => ?_)
    refine jd_icmp_le 17 i_Mo_cut_10 (by decide) ?_ ?_
    · refine jd_iconst 0 i_Mo_cut_17 (by decide) ?_
      exact jd_less (t_Mo_cut_18) ⟨rfl, rfl, trivial⟩
    · exact jd_less (t_Mo_cut_13) ⟨rfl, rfl, trivial⟩
theorem c_Mo_cut {h : ja_H} {a0 : Nat} {a1 : Int32} {o : ja_H} (e : r_Mo_cut h a0 a1 = some o) : ja_M (1, 22) y_Mo_cut b_Mo_cut 2 (none) [.ref a0, .int a1] h [] o := jc_of (g := ja_gV) false _ e e_Mo_cut rfl (by decide +kernel) (fun q => nomatch q) (Nat.le_of_ble_eq_true rfl) (fun _ q => nomatch q) (Nat.le_of_ble_eq_true rfl)
noncomputable def r_Mo_context_60 (h : ja_H) (y0 : Nat) (y1 : Int32) : Option (ja_H) := (jp_I h y0 9 9 y1 (fun h1 => (some h1)))
theorem t_Mo_context_60 {h : ja_H} {y0 : Nat} {y1 : Int32} : ja_D ja_gV M_Mo_context 60 [some (.ref y0), some (.int y1), none] [] h (r_Mo_context_60 h y0 y1) := by
  unfold r_Mo_context_60
  refine jd_aload_n i_Mo_context_60 rfl ?_
  refine jd_iload_n i_Mo_context_61 rfl ?_
  refine jd_putI F_Mo_75 P_Mo_length i_Mo_context_62 (fun h1 => ?_)
  exact jd_return i_Mo_context_65 rfl
noncomputable def q_Mo_context_27 (C27 : ja_H → Nat → Int32 → Int32 → Option (ja_H)) (h : ja_H) (y0 : Nat) (y1 : Int32) (y2 : Int32) : Option (ja_H) := (if (256 : Int32) ≤ y2 then (jf_I h y0 9 9 (fun v1 => (if y1 = v1 then (r_Mo_context_60 h y0 y1) else (jp_Z h y0 9 5 (0 : Int32) (fun h2 => (r_Mo_context_60 h2 y0 y1)))))) else (jf_R h y0 9 8 (fun a3 => (js_I h a3 y2 (0 : Int32) (fun h4 => (jl (y2 + 1 : Int32) (fun (x5 : Int32) => (C27 h4 y0 y1 x5))))))))
theorem t_Mo_context_27 {C27 : ja_H → Nat → Int32 → Int32 → Option (ja_H)} (k27 : ∀ (h : ja_H) (y0 : Nat) (y1 : Int32) (y2 : Int32), ja_D ja_gV M_Mo_context 27 [some (.ref y0), some (.int y1), some (.int y2)] [] h (C27 h y0 y1 y2)) {h : ja_H} {y0 : Nat} {y1 : Int32} {y2 : Int32} : ja_D ja_gV M_Mo_context 27 [some (.ref y0), some (.int y1), some (.int y2)] [] h (q_Mo_context_27 C27 h y0 y1 y2) := by
  unfold q_Mo_context_27
  refine jd_iload_n i_Mo_context_27 rfl ?_
  refine jd_sipush 256 i_Mo_context_28 (by decide) ?_
  refine jd_icmp_ge 47 i_Mo_context_31 (by decide) ?_ ?_
  · refine jd_iload_n i_Mo_context_47 rfl ?_
    refine jd_aload_n i_Mo_context_48 rfl ?_
    refine jd_getI F_Mo_75 i_Mo_context_49 (fun v1 => ?_)
    refine jd_icmp_eq 60 i_Mo_context_52 (by decide) ?_ ?_
    · exact jd_less (t_Mo_context_60) ⟨rfl, rfl, trivial⟩
    · refine jd_aload_n i_Mo_context_55 rfl ?_
      refine jd_iconst 0 i_Mo_context_56 (by decide) ?_
      refine jd_putZ F_Mo_71 P_Mo_verified i_Mo_context_57 (fun h2 => ?_)
      exact jd_less (t_Mo_context_60) ⟨rfl, rfl, trivial⟩
  · refine jd_aload_n i_Mo_context_34 rfl ?_
    refine jd_getR F_Mo_24 i_Mo_context_35 (fun a3 => ?_)
    refine jd_iload_n i_Mo_context_38 rfl ?_
    refine jd_iconst 0 i_Mo_context_39 (by decide) ?_
    refine jd_iast i_Mo_context_40 (fun h4 => ?_)
    refine jd_iinc (fun x5 => [some (.ref y0), some (.int y1), some (.int x5)]) i_Mo_context_41 rfl rfl (by decide) rfl (fun _ => rfl) (fun x5 => ?_)
    refine jd_goto 27 i_Mo_context_44 (by decide) ?_
    exact jd_less (k27 _ _ _ _) ⟨rfl, rfl, rfl, trivial⟩
noncomputable def r_Mo_context_27 : Nat → ja_H → Nat → Int32 → Int32 → Option (ja_H) := ja_lo (q_Mo_context_27) (fun _ _ _ _ => none)
theorem s_Mo_context_27 : ∀ (n : Nat) (h : ja_H) (y0 : Nat) (y1 : Int32) (y2 : Int32), ja_D ja_gV M_Mo_context 27 [some (.ref y0), some (.int y1), some (.int y2)] [] h (r_Mo_context_27 n h y0 y1 y2) := by
  intro n
  induction n with
  | zero => intro h y0 y1 y2 o e; cases e
  | succ n ih => intro h y0 y1 y2; exact t_Mo_context_27 ih
noncomputable def r_Mo_context_17 (h : ja_H) (y0 : Nat) (y1 : Int32) (z0 : Int32) (z1 : Nat) : Option (ja_H) := (jk h z1 9 (jc_I (r_Mo_fails h z1 z0 (1 : Int32)) (fun v2 h1 => (if v2 = (0 : Int32) then (jl (y1 : Int32) (fun (x3 : Int32) => (r_Mo_context_27 ja_fu h1 y0 y1 x3))) else (some h1)))))
theorem t_Mo_context_17 {h : ja_H} {y0 : Nat} {y1 : Int32} {z0 : Int32} {z1 : Nat} : ja_D ja_gV M_Mo_context 17 [some (.ref y0), some (.int y1), none] [.int z0, .ref z1] h (r_Mo_context_17 h y0 y1 z0 z1) := by
  unfold r_Mo_context_17
  refine jd_iconst 1 i_Mo_context_17 (by decide) ?_
  refine jd_callVI G_Mo_67 in_Mo_fails se_Mo_fails rfl (fun _ e => c_Mo_fails e) rfl ⟨by decide, by decide⟩ rfl (Nat.le_of_ble_eq_true rfl) i_Mo_context_18 (fun v2 h1 => ?_)
  refine jd_if_eq 25 i_Mo_context_21 (by decide) ?_ ?_
  · refine jd_iload_n i_Mo_context_25 rfl ?_
    refine jd_istore_n (fun x3 => [some (.ref y0), some (.int y1), some (.int x3)]) i_Mo_context_26 (by decide) rfl (fun _ => rfl) (fun x3 => ?_)
    exact jd_less (s_Mo_context_27 ja_fu _ _ _ _) ⟨rfl, rfl, rfl, trivial⟩
  · exact jd_return i_Mo_context_24 rfl
noncomputable def r_Mo_context_12 (h : ja_H) (y0 : Nat) (y1 : Int32) (z0 : Nat) : Option (ja_H) := (r_Mo_context_17 h y0 y1 (1 : Int32) z0)
theorem t_Mo_context_12 {h : ja_H} {y0 : Nat} {y1 : Int32} {z0 : Nat} : ja_D ja_gV M_Mo_context 12 [some (.ref y0), some (.int y1), none] [.ref z0] h (r_Mo_context_12 h y0 y1 z0) := by
  unfold r_Mo_context_12
  refine jd_iconst 1 i_Mo_context_12 (by decide) ?_
  refine jd_goto 17 i_Mo_context_13 (by decide) ?_
  exact jd_less (t_Mo_context_17) ⟨rfl, rfl, trivial⟩
noncomputable def r_Mo_context (h : ja_H) (a0 : Nat) (a1 : Int32) : Option (ja_H) := (if a1 < (0 : Int32) then (r_Mo_context_12 h a0 a1 a0) else (if a1 ≤ (256 : Int32) then (r_Mo_context_17 h a0 a1 (0 : Int32) a0) else (r_Mo_context_12 h a0 a1 a0)))
theorem e_Mo_context {h : ja_H} {a0 : Nat} {a1 : Int32} : ja_D ja_gV M_Mo_context 0 [some (.ref a0), some (.int a1), none] [] h (r_Mo_context h a0 a1) := by
  unfold r_Mo_context
  refine jd_aload_n i_Mo_context_0 rfl ?_
  refine jd_iload_n i_Mo_context_1 rfl ?_
  refine jd_if_lt 12 i_Mo_context_2 (by decide) ?_ ?_
  · exact jd_less (t_Mo_context_12) ⟨rfl, rfl, trivial⟩
  · refine jd_iload_n i_Mo_context_5 rfl ?_
    refine jd_sipush 256 i_Mo_context_6 (by decide) ?_
    refine jd_icmp_le 16 i_Mo_context_9 (by decide) ?_ ?_
    · refine jd_iconst 0 i_Mo_context_16 (by decide) ?_
      exact jd_less (t_Mo_context_17) ⟨rfl, rfl, trivial⟩
    · exact jd_less (t_Mo_context_12) ⟨rfl, rfl, trivial⟩
theorem c_Mo_context {h : ja_H} {a0 : Nat} {a1 : Int32} {o : ja_H} (e : r_Mo_context h a0 a1 = some o) : ja_M (1, 22) y_Mo_context b_Mo_context 3 (none) [.ref a0, .int a1] h [] o := jc_of (g := ja_gV) false _ e e_Mo_context rfl (by decide +kernel) (fun q => nomatch q) (Nat.le_of_ble_eq_true rfl) (fun _ q => nomatch q) (Nat.le_of_ble_eq_true rfl)
noncomputable def r_Mo_put_74 (h : ja_H) : Option (ja_H) := (some h)
theorem t_Mo_put_74 {h : ja_H} : ja_D ja_gV M_Mo_put 74 [none, none, none, none, none] [] h (r_Mo_put_74 h) := by
  unfold r_Mo_put_74
  exact jd_return i_Mo_put_74 rfl
noncomputable def q_Mo_put_29 (C29 : ja_H → Nat → Int32 → Int64 → Int32 → Option (ja_H)) (h : ja_H) (y0 : Nat) (y1 : Int32) (y2 : Int64) (y4 : Int32) : Option (ja_H) := (if (8 : Int32) ≤ y4 then (r_Mo_put_74 h) else (jf_I h y0 9 9 (fun v1 => (if v1 ≤ (y1 + y4) then (r_Mo_put_74 h) else (jf_R h y0 9 8 (fun a2 => (js_I h a2 (y1 + y4) ((Int64.toInt32 (UInt64.toInt64 (Int64.toUInt64 y2 >>> (Int64.toUInt64 (Int32.toInt64 ((8 : Int32) * y4)) &&& Int64.toUInt64 63)))) &&& (255 : Int32)) (fun h3 => (jl (y4 + 1 : Int32) (fun (x4 : Int32) => (C29 h3 y0 y1 y2 x4)))))))))))
theorem t_Mo_put_29 {C29 : ja_H → Nat → Int32 → Int64 → Int32 → Option (ja_H)} (k29 : ∀ (h : ja_H) (y0 : Nat) (y1 : Int32) (y2 : Int64) (y4 : Int32), ja_D ja_gV M_Mo_put 29 [some (.ref y0), some (.int y1), some (.long y2), none, some (.int y4)] [] h (C29 h y0 y1 y2 y4)) {h : ja_H} {y0 : Nat} {y1 : Int32} {y2 : Int64} {y4 : Int32} : ja_D ja_gV M_Mo_put 29 [some (.ref y0), some (.int y1), some (.long y2), none, some (.int y4)] [] h (q_Mo_put_29 C29 h y0 y1 y2 y4) := by
  unfold q_Mo_put_29
  refine jd_iload i_Mo_put_29 rfl ?_
  refine jd_bipush 8 i_Mo_put_31 (by decide) ?_
  refine jd_icmp_ge 74 i_Mo_put_33 (by decide) ?_ ?_
  · exact jd_less (t_Mo_put_74) trivial
  · refine jd_iload_n i_Mo_put_36 rfl ?_
    refine jd_iload i_Mo_put_37 rfl ?_
    refine jd_iadd i_Mo_put_39 ?_
    refine jd_aload_n i_Mo_put_40 rfl ?_
    refine jd_getI F_Mo_75 i_Mo_put_41 (fun v1 => ?_)
    refine jd_icmp_ge 74 i_Mo_put_44 (by decide) ?_ ?_
    · exact jd_less (t_Mo_put_74) trivial
    · refine jd_aload_n i_Mo_put_47 rfl ?_
      refine jd_getR F_Mo_24 i_Mo_put_48 (fun a2 => ?_)
      refine jd_iload_n i_Mo_put_51 rfl ?_
      refine jd_iload i_Mo_put_52 rfl ?_
      refine jd_iadd i_Mo_put_54 ?_
      refine jd_lload_n i_Mo_put_55 rfl ?_
      refine jd_bipush 8 i_Mo_put_56 (by decide) ?_
      refine jd_iload i_Mo_put_58 rfl ?_
      refine jd_imul i_Mo_put_60 ?_
      refine jd_lushr i_Mo_put_61 ?_
      refine jd_l2i i_Mo_put_62 ?_
      refine jd_sipush 255 i_Mo_put_63 (by decide) ?_
      refine jd_iand i_Mo_put_66 ?_
      refine jd_iast i_Mo_put_67 (fun h3 => ?_)
      refine jd_iinc (fun x4 => [some (.ref y0), some (.int y1), some (.long y2), none, some (.int x4)]) i_Mo_put_68 rfl rfl (by decide) rfl (fun _ => rfl) (fun x4 => ?_)
      refine jd_goto 29 i_Mo_put_71 (by decide) ?_
      exact jd_less (k29 _ _ _ _ _) ⟨rfl, rfl, rfl, rfl, trivial⟩
noncomputable def r_Mo_put_29 : Nat → ja_H → Nat → Int32 → Int64 → Int32 → Option (ja_H) := ja_lo (q_Mo_put_29) (fun _ _ _ _ _ => none)
theorem s_Mo_put_29 : ∀ (n : Nat) (h : ja_H) (y0 : Nat) (y1 : Int32) (y2 : Int64) (y4 : Int32), ja_D ja_gV M_Mo_put 29 [some (.ref y0), some (.int y1), some (.long y2), none, some (.int y4)] [] h (r_Mo_put_29 n h y0 y1 y2 y4) := by
  intro n
  induction n with
  | zero => intro h y0 y1 y2 y4 o e; cases e
  | succ n ih => intro h y0 y1 y2 y4; exact t_Mo_put_29 ih
noncomputable def r_Mo_put_18 (h : ja_H) (y0 : Nat) (y1 : Int32) (y2 : Int64) (z0 : Int32) (z1 : Nat) : Option (ja_H) := (jk h z1 9 (jc_I (r_Mo_fails h z1 z0 (1 : Int32)) (fun v2 h1 => (if v2 = (0 : Int32) then (jl ((0 : Int32) : Int32) (fun (x3 : Int32) => (r_Mo_put_29 ja_fu h1 y0 y1 y2 x3))) else (some h1)))))
theorem t_Mo_put_18 {h : ja_H} {y0 : Nat} {y1 : Int32} {y2 : Int64} {z0 : Int32} {z1 : Nat} : ja_D ja_gV M_Mo_put 18 [some (.ref y0), some (.int y1), some (.long y2), none, none] [.int z0, .ref z1] h (r_Mo_put_18 h y0 y1 y2 z0 z1) := by
  unfold r_Mo_put_18
  refine jd_iconst 1 i_Mo_put_18 (by decide) ?_
  refine jd_callVI G_Mo_67 in_Mo_fails se_Mo_fails rfl (fun _ e => c_Mo_fails e) rfl ⟨by decide, by decide⟩ rfl (Nat.le_of_ble_eq_true rfl) i_Mo_put_19 (fun v2 h1 => ?_)
  refine jd_if_eq 26 i_Mo_put_22 (by decide) ?_ ?_
  · refine jd_iconst 0 i_Mo_put_26 (by decide) ?_
    refine jd_istore (fun x3 => [some (.ref y0), some (.int y1), some (.long y2), none, some (.int x3)]) i_Mo_put_27 (by decide) rfl (fun _ => rfl) (fun x3 => ?_)
    exact jd_less (s_Mo_put_29 ja_fu _ _ _ _ _) ⟨rfl, rfl, rfl, rfl, trivial⟩
  · exact jd_return i_Mo_put_25 rfl
noncomputable def r_Mo_put_13 (h : ja_H) (y0 : Nat) (y1 : Int32) (y2 : Int64) (z0 : Nat) : Option (ja_H) := (r_Mo_put_18 h y0 y1 y2 (1 : Int32) z0)
theorem t_Mo_put_13 {h : ja_H} {y0 : Nat} {y1 : Int32} {y2 : Int64} {z0 : Nat} : ja_D ja_gV M_Mo_put 13 [some (.ref y0), some (.int y1), some (.long y2), none, none] [.ref z0] h (r_Mo_put_13 h y0 y1 y2 z0) := by
  unfold r_Mo_put_13
  refine jd_iconst 1 i_Mo_put_13 (by decide) ?_
  refine jd_goto 18 i_Mo_put_14 (by decide) ?_
  exact jd_less (t_Mo_put_18) ⟨rfl, rfl, rfl, trivial⟩
noncomputable def r_Mo_put (h : ja_H) (a0 : Nat) (a1 : Int32) (a2 : Int64) : Option (ja_H) := (if a1 < (0 : Int32) then (r_Mo_put_13 h a0 a1 a2 a0) else (jf_I h a0 9 9 (fun v101 => (if a1 < v101 then (r_Mo_put_18 h a0 a1 a2 (0 : Int32) a0) else (r_Mo_put_13 h a0 a1 a2 a0)))))
theorem e_Mo_put {h : ja_H} {a0 : Nat} {a1 : Int32} {a2 : Int64} : ja_D ja_gV M_Mo_put 0 [some (.ref a0), some (.int a1), some (.long a2), none, none] [] h (r_Mo_put h a0 a1 a2) := by
  unfold r_Mo_put
  refine jd_aload_n i_Mo_put_0 rfl ?_
  refine jd_iload_n i_Mo_put_1 rfl ?_
  refine jd_if_lt 13 i_Mo_put_2 (by decide) ?_ ?_
  · exact jd_less (t_Mo_put_13) ⟨rfl, rfl, rfl, trivial⟩
  · refine jd_iload_n i_Mo_put_5 rfl ?_
    refine jd_aload_n i_Mo_put_6 rfl ?_
    refine jd_getI F_Mo_75 i_Mo_put_7 (fun v101 => ?_)
    refine jd_icmp_lt 17 i_Mo_put_10 (by decide) ?_ ?_
    · refine jd_iconst 0 i_Mo_put_17 (by decide) ?_
      exact jd_less (t_Mo_put_18) ⟨rfl, rfl, rfl, trivial⟩
    · exact jd_less (t_Mo_put_13) ⟨rfl, rfl, rfl, trivial⟩
theorem c_Mo_put {h : ja_H} {a0 : Nat} {a1 : Int32} {a2 : Int64} {o : ja_H} (e : r_Mo_put h a0 a1 a2 = some o) : ja_M (1, 22) y_Mo_put b_Mo_put 5 (none) [.ref a0, .int a1, .long a2] h [] o := jc_of (g := ja_gV) false _ e e_Mo_put rfl (by decide +kernel) (fun q => nomatch q) (Nat.le_of_ble_eq_true rfl) (fun _ q => nomatch q) (Nat.le_of_ble_eq_true rfl)
