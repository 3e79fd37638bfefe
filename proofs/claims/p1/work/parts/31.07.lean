noncomputable def r_Ju_isComeTo_45 (h : ja_H) (z0 : Int32) : Option (Int32 × ja_H) := (jb z0 (some (z0, h)))
theorem t_Ju_isComeTo_45 {h : ja_H} {z0 : Int32} : ja_D ja_gI M_Ju_isComeTo 45 [none, none] [.int z0] h (r_Ju_isComeTo_45 h z0) := by
  unfold r_Ju_isComeTo_45
  exact jd_zreturn i_Ju_isComeTo_45 rfl
noncomputable def r_Ju_isComeTo_44 (h : ja_H) : Option (Int32 × ja_H) := (r_Ju_isComeTo_45 h (0 : Int32))
theorem t_Ju_isComeTo_44 {h : ja_H} : ja_D ja_gI M_Ju_isComeTo 44 [none, none] [] h (r_Ju_isComeTo_44 h) := by
  unfold r_Ju_isComeTo_44
  refine jd_iconst 0 i_Ju_isComeTo_44 (by decide) ?_
  exact jd_less (t_Ju_isComeTo_45) trivial
noncomputable def r_Ju_isComeTo (h : ja_H) (a0 : Nat) (a1 : Int32) : Option (Int32 × ja_H) := (if a1 < (0 : Int32) then (r_Ju_isComeTo_44 h) else (jf_I h a0 5 6 (fun v101 => (if v101 ≤ a1 then (r_Ju_isComeTo_44 h) else (if (1024 : Int32) ≤ a1 then (r_Ju_isComeTo_44 h) else (jf_R h a0 5 0 (fun a102 => (je_N h a102 a1 (r_Ju_isComeTo_44 h) (jf_R h a0 5 0 (fun a103 => (je_R h a103 a1 (fun a104 => (jf_I h a104 6 4 (fun v105 => (if v105 = (0 : Int32) then (r_Ju_isComeTo_44 h) else (r_Ju_isComeTo_45 h (1 : Int32)))))))))))))))))
theorem e_Ju_isComeTo {h : ja_H} {a0 : Nat} {a1 : Int32} : ja_D ja_gI M_Ju_isComeTo 0 [some (.ref a0), some (.int a1)] [] h (r_Ju_isComeTo h a0 a1) := by
  unfold r_Ju_isComeTo
  refine jd_iload_n i_Ju_isComeTo_0 rfl ?_
  refine jd_if_lt 44 i_Ju_isComeTo_1 (by decide) ?_ ?_
  · exact jd_less (t_Ju_isComeTo_44) trivial
  · refine jd_iload_n i_Ju_isComeTo_4 rfl ?_
    refine jd_aload_n i_Ju_isComeTo_5 rfl ?_
    refine jd_getI F_Ju_42 i_Ju_isComeTo_6 (fun v101 => ?_)
    refine jd_icmp_ge 44 i_Ju_isComeTo_9 (by decide) ?_ ?_
    · exact jd_less (t_Ju_isComeTo_44) trivial
    · refine jd_iload_n i_Ju_isComeTo_12 rfl ?_
      refine jd_sipush 1024 i_Ju_isComeTo_13 (by decide) ?_
      refine jd_icmp_ge 44 i_Ju_isComeTo_16 (by decide) ?_ ?_
      · exact jd_less (t_Ju_isComeTo_44) trivial
      · refine jd_aload_n i_Ju_isComeTo_19 rfl ?_
        refine jd_getR F_Ju_11 i_Ju_isComeTo_20 (fun a102 => ?_)
        refine jd_iload_n i_Ju_isComeTo_23 rfl ?_
        refine jd_aaldNull 44 i_Ju_isComeTo_24 i_Ju_isComeTo_25 (by decide) ?_ ?_
        · exact jd_less (t_Ju_isComeTo_44) trivial
        · refine jd_aload_n i_Ju_isComeTo_28 rfl ?_
          refine jd_getR F_Ju_11 i_Ju_isComeTo_29 (fun a103 => ?_)
          refine jd_iload_n i_Ju_isComeTo_32 rfl ?_
          refine jd_aald i_Ju_isComeTo_33 (fun a104 => ?_)
          refine jd_getI F_Ju_46 i_Ju_isComeTo_34 (fun v105 => ?_)
          refine jd_if_eq 44 i_Ju_isComeTo_37 (by decide) ?_ ?_
          · exact jd_less (t_Ju_isComeTo_44) trivial
          · refine jd_iconst 1 i_Ju_isComeTo_40 (by decide) ?_
            refine jd_goto 45 i_Ju_isComeTo_41 (by decide) ?_
            exact jd_less (t_Ju_isComeTo_45) trivial
theorem c_Ju_isComeTo {h : ja_H} {a0 : Nat} {a1 : Int32} {o : Int32 × ja_H} (e : r_Ju_isComeTo h a0 a1 = some o) : ja_M (0, 0) y_Ju_isComeTo b_Ju_isComeTo 2 (some .boolean) [.ref a0, .int a1] h [.int o.1] o.2 := jc_of (g := ja_gI) false _ e e_Ju_isComeTo rfl (by decide +kernel) (fun q => nomatch q) (Nat.le_of_ble_eq_true rfl) (fun _ q => nomatch q) (Nat.le_of_ble_eq_true rfl)
noncomputable def r_Ju_examine_89 (C11 : ja_H → Nat → Nat → Int32 → Option (Int32 × ja_H)) (h : ja_H) (y0 : Nat) (y1 : Nat) (y3 : Int32) : Option (Int32 × ja_H) := (jl (y3 + 1 : Int32) (fun (x1 : Int32) => (C11 h y0 y1 x1)))
theorem t_Ju_examine_89 {C11 : ja_H → Nat → Nat → Int32 → Option (Int32 × ja_H)} (k11 : ∀ (h : ja_H) (y0 : Nat) (y1 : Nat) (y3 : Int32), ja_D ja_gI M_Ju_examine 11 [some (.ref y0), some (.ref y1), none, some (.int y3), none] [] h (C11 h y0 y1 y3)) {h : ja_H} {y0 : Nat} {y1 : Nat} {y3 : Int32} : ja_D ja_gI M_Ju_examine 89 [some (.ref y0), some (.ref y1), none, some (.int y3), none] [] h (r_Ju_examine_89 C11 h y0 y1 y3) := by
  unfold r_Ju_examine_89
  refine jd_iinc (fun x1 => [some (.ref y0), some (.ref y1), none, some (.int x1), none]) i_Ju_examine_89 rfl rfl (by decide) rfl (fun _ => rfl) (fun x1 => ?_)
  refine jd_goto 11 i_Ju_examine_92 (by decide) ?_
  exact jd_less (k11 _ _ _ _) ⟨rfl, rfl, rfl, trivial⟩
noncomputable def q_Ju_examine_11 (C11 : ja_H → Nat → Nat → Int32 → Option (Int32 × ja_H)) (h : ja_H) (y0 : Nat) (y1 : Nat) (y3 : Int32) : Option (Int32 × ja_H) := (jf_I h y0 5 6 (fun v1 => (if v1 ≤ y3 then (some ((0 : Int32), h)) else (jk h y0 5 (jc_I (r_Ju_isComeTo h y0 y3) (fun v3 h2 => (if v3 = (0 : Int32) then (r_Ju_examine_89 C11 h2 y0 y1 y3) else (jf_I h2 y0 5 8 (fun v4 => (jp_I h2 y0 5 8 (v4 + (1 : Int32)) (fun h5 => (jf_R h5 y0 5 1 (fun a6 => (jf_R h5 y0 5 0 (fun a7 => (je_R h5 a7 y3 (fun a8 => (jk h5 a6 6 (jc_V (r_St_copy h5 a6 a8) (fun h9 => (jf_R h9 y0 5 2 (fun a10 => (jk h9 y1 1 (jc_L (r_Co_at h9 y1 y3) (fun v12 h11 => (jk h11 a10 4 (jc_V (r_Wo_take h11 a10 v12) (fun h13 => (jk h13 y1 1 (jc_L (r_Co_at h13 y1 (y3 + (1 : Int32))) (fun v15 h14 => (jk h14 y0 5 (jc_I (r_Ju_examineWord h14 y0 y3 v15) (fun v17 h16 => (jl (v17 : Int32) (fun (x18 : Int32) => (if x18 = (0 : Int32) then (r_Ju_examine_89 C11 h16 y0 y1 y3) else (jp_I h16 y0 5 9 y3 (fun h19 => (some (x18, h19)))))))))))))))))))))))))))))))))))))))))
theorem t_Ju_examine_11 {C11 : ja_H → Nat → Nat → Int32 → Option (Int32 × ja_H)} (k11 : ∀ (h : ja_H) (y0 : Nat) (y1 : Nat) (y3 : Int32), ja_D ja_gI M_Ju_examine 11 [some (.ref y0), some (.ref y1), none, some (.int y3), none] [] h (C11 h y0 y1 y3)) {h : ja_H} {y0 : Nat} {y1 : Nat} {y3 : Int32} : ja_D ja_gI M_Ju_examine 11 [some (.ref y0), some (.ref y1), none, some (.int y3), none] [] h (q_Ju_examine_11 C11 h y0 y1 y3) := by
  unfold q_Ju_examine_11
  refine jd_iload_n i_Ju_examine_11 rfl ?_
  refine jd_aload_n i_Ju_examine_12 rfl ?_
  refine jd_getI F_Ju_42 i_Ju_examine_13 (fun v1 => ?_)
  refine jd_icmp_ge 95 i_Ju_examine_16 (by decide) ?_ ?_
  · refine jd_iconst 0 i_Ju_examine_95 (by decide) ?_
    exact jd_ireturn i_Ju_examine_96 rfl
  · refine jd_aload_n i_Ju_examine_19 rfl ?_
    refine jd_iload_n i_Ju_examine_20 rfl ?_
    refine jd_callVI G_Ju_50 in_Ju_isComeTo se_Ju_isComeTo rfl (fun _ e => c_Ju_isComeTo e) rfl ⟨by decide, by decide⟩ rfl (Nat.le_of_ble_eq_true rfl) i_Ju_examine_21 (fun v3 h2 => ?_)
    refine jd_if_eq 89 i_Ju_examine_24 (by decide) ?_ ?_
    · exact jd_less (t_Ju_examine_89 k11) ⟨rfl, rfl, rfl, trivial⟩
    · refine jd_aload_n i_Ju_examine_27 rfl ?_
      refine jd_dupR i_Ju_examine_28 ?_
      refine jd_getI F_Ju_75 i_Ju_examine_29 (fun v4 => ?_)
      refine jd_iconst 1 i_Ju_examine_32 (by decide) ?_
      refine jd_iadd i_Ju_examine_33 ?_
      refine jd_putI F_Ju_75 P_Ju_comeTo i_Ju_examine_34 (fun h5 => ?_)
      refine jd_aload_n i_Ju_examine_37 rfl ?_
      refine jd_getR F_Ju_18 i_Ju_examine_38 (fun a6 => ?_)
      refine jd_aload_n i_Ju_examine_41 rfl ?_
      refine jd_getR F_Ju_11 i_Ju_examine_42 (fun a7 => ?_)
      refine jd_iload_n i_Ju_examine_45 rfl ?_
      refine jd_aald i_Ju_examine_46 (fun a8 => ?_)
      refine jd_callVV G_Ju_77 in_St_copy se_St_copy rfl (fun _ e => c_St_copy e) rfl ⟨by decide, by decide⟩ rfl (Nat.le_of_ble_eq_true rfl) i_Ju_examine_47 (fun h9 => ?_)
      refine jd_aload_n i_Ju_examine_50 rfl ?_
      refine jd_getR F_Ju_25 i_Ju_examine_51 (fun a10 => ?_)
      refine jd_aload_n i_Ju_examine_54 rfl ?_
      refine jd_iload_n i_Ju_examine_55 rfl ?_
      refine jd_callVL G_Ju_81 in_Co_at se_Co_at rfl (fun _ e => c_Co_at e) rfl ⟨by decide, by decide⟩ rfl (Nat.le_of_ble_eq_true rfl) i_Ju_examine_56 (fun v12 h11 => ?_)
      refine jd_callVV G_Ju_85 in_Wo_take se_Wo_take rfl (fun _ e => c_Wo_take e) rfl ⟨by decide, by decide⟩ rfl (Nat.le_of_ble_eq_true rfl) i_Ju_examine_59 (fun h13 => ?_)
      refine jd_aload_n i_Ju_examine_62 rfl ?_
      refine jd_iload_n i_Ju_examine_63 rfl ?_
      refine jd_aload_n i_Ju_examine_64 rfl ?_
      refine jd_iload_n i_Ju_examine_65 rfl ?_
      refine jd_iconst 1 i_Ju_examine_66 (by decide) ?_
      refine jd_iadd i_Ju_examine_67 ?_
      refine jd_callVL G_Ju_81 in_Co_at se_Co_at rfl (fun _ e => c_Co_at e) rfl ⟨by decide, by decide⟩ rfl (Nat.le_of_ble_eq_true rfl) i_Ju_examine_68 (fun v15 h14 => ?_)
      refine jd_callVI G_Ju_89 in_Ju_examineWord se_Ju_examineWord rfl (fun _ e => c_Ju_examineWord e) rfl ⟨by decide, by decide⟩ rfl (Nat.le_of_ble_eq_true rfl) i_Ju_examine_71 (fun v17 h16 => ?_)
      refine jd_istore (fun x18 => [some (.ref y0), some (.ref y1), none, some (.int y3), some (.int x18)]) i_Ju_examine_74 (by decide) rfl (fun _ => rfl) (fun x18 => ?_)
      refine jd_iload i_Ju_examine_76 rfl ?_
      refine jd_if_eq 89 i_Ju_examine_78 (by decide) ?_ ?_
      · exact jd_less (t_Ju_examine_89 k11) ⟨rfl, rfl, rfl, trivial⟩
      · refine jd_aload_n i_Ju_examine_81 rfl ?_
        refine jd_iload_n i_Ju_examine_82 rfl ?_
        refine jd_putI F_Ju_93 P_Ju_faultAt i_Ju_examine_83 (fun h19 => ?_)
        refine jd_iload i_Ju_examine_86 rfl ?_
        exact jd_ireturn i_Ju_examine_88 rfl
noncomputable def r_Ju_examine_11 : Nat → ja_H → Nat → Nat → Int32 → Option (Int32 × ja_H) := ja_lo (q_Ju_examine_11) (fun _ _ _ _ => none)
theorem s_Ju_examine_11 : ∀ (n : Nat) (h : ja_H) (y0 : Nat) (y1 : Nat) (y3 : Int32), ja_D ja_gI M_Ju_examine 11 [some (.ref y0), some (.ref y1), none, some (.int y3), none] [] h (r_Ju_examine_11 n h y0 y1 y3) := by
  intro n
  induction n with
  | zero => intro h y0 y1 y3 o e; cases e
  | succ n ih => intro h y0 y1 y3; exact t_Ju_examine_11 ih
noncomputable def r_Ju_examine (h : ja_H) (a0 : Nat) (a1 : Nat) (a2 : Int32) : Option (Int32 × ja_H) := (jf_I h a1 1 1 (fun v101 => (jk h a0 5 (jc_V (r_Ju_begin h a0 v101 a2) (fun h102 => (jl ((0 : Int32) : Int32) (fun (x103 : Int32) => (r_Ju_examine_11 ja_fu h102 a0 a1 x103))))))))
theorem e_Ju_examine {h : ja_H} {a0 : Nat} {a1 : Nat} {a2 : Int32} : ja_D ja_gI M_Ju_examine 0 [some (.ref a0), some (.ref a1), some (.int a2), none, none] [] h (r_Ju_examine h a0 a1 a2) := by
  unfold r_Ju_examine
  refine jd_aload_n i_Ju_examine_0 rfl ?_
  refine jd_aload_n i_Ju_examine_1 rfl ?_
  refine jd_getI F_Ju_68 i_Ju_examine_2 (fun v101 => ?_)
  refine jd_iload_n i_Ju_examine_5 rfl ?_
  refine jd_callVV G_Ju_71 in_Ju_begin se_Ju_begin rfl (fun _ e => c_Ju_begin e) rfl ⟨by decide, by decide⟩ rfl (Nat.le_of_ble_eq_true rfl) i_Ju_examine_6 (fun h102 => ?_)
  refine jd_iconst 0 i_Ju_examine_9 (by decide) ?_
  refine jd_istore_n (fun x103 => [some (.ref a0), some (.ref a1), some (.int a2), some (.int x103), none]) i_Ju_examine_10 (by decide) rfl (fun _ => rfl) (fun x103 => ?_)
  exact jd_less (s_Ju_examine_11 ja_fu _ _ _ _) ⟨rfl, rfl, rfl, trivial⟩
theorem c_Ju_examine {h : ja_H} {a0 : Nat} {a1 : Nat} {a2 : Int32} {o : Int32 × ja_H} (e : r_Ju_examine h a0 a1 a2 = some o) : ja_M (6, 151) y_Ju_examine b_Ju_examine 5 (some .int) [.ref a0, .ref a1, .int a2] h [.int o.1] o.2 := jc_of (g := ja_gI) false _ e e_Ju_examine rfl (by decide +kernel) (fun q => nomatch q) (Nat.le_of_ble_eq_true rfl) (fun _ q => nomatch q) (Nat.le_of_ble_eq_true rfl)
noncomputable def r_WJ_verify_87 (h : ja_H) (y1 : Int32) (z0 : Int32) (z1 : Nat) : Option (List Value × ja_H) := (jp_Z h z1 0 5 z0 (fun h1 => (some ([.int y1], h1))))
theorem t_WJ_verify_87 {h : ja_H} {y1 : Int32} {z0 : Int32} {z1 : Nat} : ja_D ja_gX M_WJ_verify 87 [none, some (.int y1)] [.int z0, .ref z1] h (r_WJ_verify_87 h y1 z0 z1) := by
  unfold r_WJ_verify_87
  refine jd_putZ F_WJ_44 P_WJ_verified i_WJ_verify_87 (fun h1 => ?_)
  refine jd_iload_n i_WJ_verify_90 rfl ?_
  exact jd_ireturnX i_WJ_verify_91 rfl
noncomputable def r_WJ_verify_77 (h : ja_H) (y0 : Nat) (y1 : Int32) : Option (List Value × ja_H) := (if y1 = (0 : Int32) then (r_WJ_verify_87 h y1 (1 : Int32) y0) else (r_WJ_verify_87 h y1 (0 : Int32) y0))
theorem t_WJ_verify_77 {h : ja_H} {y0 : Nat} {y1 : Int32} : ja_D ja_gX M_WJ_verify 77 [some (.ref y0), some (.int y1)] [] h (r_WJ_verify_77 h y0 y1) := by
  unfold r_WJ_verify_77
  refine jd_aload_n i_WJ_verify_77 rfl ?_
  refine jd_iload_n i_WJ_verify_78 rfl ?_
  refine jd_if_ne 86 i_WJ_verify_79 (by decide) ?_ ?_
  · refine jd_iconst 0 i_WJ_verify_86 (by decide) ?_
    exact jd_less (t_WJ_verify_87) ⟨rfl, trivial⟩
  · refine jd_iconst 1 i_WJ_verify_82 (by decide) ?_
    refine jd_goto 87 i_WJ_verify_83 (by decide) ?_
    exact jd_less (t_WJ_verify_87) ⟨rfl, trivial⟩
noncomputable def r_WJ_verify (h : ja_H) (a0 : Nat) : Option (List Value × ja_H) := (jf_R h a0 0 0 (fun a101 => (jf_I h a101 1 1 (fun v102 => (if v102 = (0 : Int32) then (some ([.retAddr 10], h)) else (jf_R h a0 0 2 (fun a103 => (jf_R h a0 0 0 (fun a104 => (jk h a103 3 (jc_I (r_Fo_examine h a103 a104) (fun v106 h105 => (jl (v106 : Int32) (fun (x107 : Int32) => (jf_R h105 a0 0 2 (fun a108 => (jf_I h105 a108 3 2 (fun v109 => (jp_I h105 a0 0 6 v109 (fun h110 => (if x107 = (0 : Int32) then (jf_R h110 a0 0 3 (fun a111 => (jf_R h110 a0 0 0 (fun a112 => (jf_R h110 a0 0 1 (fun a113 => (jf_I h110 a113 2 1 (fun v114 => (jk h110 a111 5 (jc_I (r_Ju_examine h110 a111 a112 v114) (fun v116 h115 => (jl (v116 : Int32) (fun (x117 : Int32) => (jf_R h115 a0 0 3 (fun a118 => (jf_I h115 a118 5 9 (fun v119 => (jp_I h115 a0 0 6 v119 (fun h120 => (r_WJ_verify_77 h120 a0 x117)))))))))))))))))))) else (r_WJ_verify_77 h110 a0 x107))))))))))))))))))))))
theorem e_WJ_verify {h : ja_H} {a0 : Nat} : ja_D ja_gX M_WJ_verify 0 [some (.ref a0), none] [] h (r_WJ_verify h a0) := by
  unfold r_WJ_verify
  refine jd_aload_n i_WJ_verify_0 rfl ?_
  refine jd_getR F_WJ_12 i_WJ_verify_1 (fun a101 => ?_)
  refine jd_getI F_WJ_52 i_WJ_verify_4 (fun v102 => ?_)
  refine jd_if_ne 20 i_WJ_verify_7 (by decide) ?_ ?_
  · refine jd_aload_n i_WJ_verify_20 rfl ?_
    refine jd_getR F_WJ_26 i_WJ_verify_21 (fun a103 => ?_)
    refine jd_aload_n i_WJ_verify_24 rfl ?_
    refine jd_getR F_WJ_12 i_WJ_verify_25 (fun a104 => ?_)
    refine jd_callVI G_WJ_88 in_Fo_examine se_Fo_examine rfl (fun _ e => c_Fo_examine e) rfl ⟨by decide, by decide⟩ rfl (Nat.le_of_ble_eq_true rfl) i_WJ_verify_28 (fun v106 h105 => ?_)
    refine jd_istore_n (fun x107 => [some (.ref a0), some (.int x107)]) i_WJ_verify_31 (by decide) rfl (fun _ => rfl) (fun x107 => ?_)
    refine jd_aload_n i_WJ_verify_32 rfl ?_
    refine jd_aload_n i_WJ_verify_33 rfl ?_
    refine jd_getR F_WJ_26 i_WJ_verify_34 (fun a108 => ?_)
    refine jd_getI F_WJ_92 i_WJ_verify_37 (fun v109 => ?_)
    refine jd_putI F_WJ_48 P_WJ_faultAt i_WJ_verify_40 (fun h110 => ?_)
    refine jd_iload_n i_WJ_verify_43 rfl ?_
    refine jd_if_ne 77 i_WJ_verify_44 (by decide) ?_ ?_
    · exact jd_less (t_WJ_verify_77) ⟨rfl, rfl, trivial⟩
    · refine jd_aload_n i_WJ_verify_47 rfl ?_
      refine jd_getR F_WJ_33 i_WJ_verify_48 (fun a111 => ?_)
      refine jd_aload_n i_WJ_verify_51 rfl ?_
      refine jd_getR F_WJ_12 i_WJ_verify_52 (fun a112 => ?_)
      refine jd_aload_n i_WJ_verify_55 rfl ?_
      refine jd_getR F_WJ_19 i_WJ_verify_56 (fun a113 => ?_)
      refine jd_getI F_WJ_73 i_WJ_verify_59 (fun v114 => ?_)
      refine jd_callVI G_WJ_93 in_Ju_examine se_Ju_examine rfl (fun _ e => c_Ju_examine e) rfl ⟨by decide, by decide⟩ rfl (Nat.le_of_ble_eq_true rfl) i_WJ_verify_62 (fun v116 h115 => ?_)
      refine jd_istore_n (fun x117 => [some (.ref a0), some (.int x117)]) i_WJ_verify_65 (by decide) rfl (fun _ => rfl) (fun x117 => ?_)
      refine jd_aload_n i_WJ_verify_66 rfl ?_
      refine jd_aload_n i_WJ_verify_67 rfl ?_
      refine jd_getR F_WJ_33 i_WJ_verify_68 (fun a118 => ?_)
      refine jd_getI F_WJ_96 i_WJ_verify_71 (fun v119 => ?_)
      refine jd_putI F_WJ_48 P_WJ_faultAt i_WJ_verify_74 (fun h120 => ?_)
      exact jd_less (t_WJ_verify_77) ⟨rfl, rfl, trivial⟩
  · exact jd_throw
noncomputable def r_WJ_fault (h : ja_H) (a0 : Nat) : Option (Int32 × ja_H) := (jf_I h a0 0 6 (fun v101 => (some (v101, h))))
theorem e_WJ_fault {h : ja_H} {a0 : Nat} : ja_D ja_gI M_WJ_fault 0 [some (.ref a0)] [] h (r_WJ_fault h a0) := by
  unfold r_WJ_fault
  refine jd_aload_n i_WJ_fault_0 rfl ?_
  refine jd_getI F_WJ_48 i_WJ_fault_1 (fun v101 => ?_)
  exact jd_ireturn i_WJ_fault_4 rfl
theorem c_WJ_fault {h : ja_H} {a0 : Nat} {o : Int32 × ja_H} (e : r_WJ_fault h a0 = some o) : ja_M (0, 0) y_WJ_fault b_WJ_fault 1 (some .int) [.ref a0] h [.int o.1] o.2 := jc_of (g := ja_gI) false _ e e_WJ_fault rfl (by decide +kernel) (fun q => nomatch q) (Nat.le_of_ble_eq_true rfl) (fun _ q => nomatch q) (Nat.le_of_ble_eq_true rfl)
noncomputable def r_Ju_tell_69 (h : ja_H) (z0 : Int64) : Option (Int64 × ja_H) := (some (z0, h))
theorem t_Ju_tell_69 {h : ja_H} {z0 : Int64} : ja_D ja_gL M_Ju_tell 69 [none, none, none, none] [.long z0] h (r_Ju_tell_69 h z0) := by
  unfold r_Ju_tell_69
  exact jd_lreturn i_Ju_tell_69 rfl
noncomputable def r_Ju_tell_18 (h : ja_H) : Option (Int64 × ja_H) := (some ((0 : Int64), h))
theorem t_Ju_tell_18 {h : ja_H} : ja_D ja_gL M_Ju_tell 18 [none, none, none, none] [] h (r_Ju_tell_18 h) := by
  unfold r_Ju_tell_18
  refine jd_lconst 0 i_Ju_tell_18 (by decide) ?_
  exact jd_lreturn i_Ju_tell_19 rfl
noncomputable def r_Ju_tell (h : ja_H) (a0 : Nat) (a1 : Int32) (a2 : Int32) (a3 : Int32) : Option (Int64 × ja_H) := (jk h a0 5 (jc_I (r_Ju_isComeTo h a0 a1) (fun v102 h101 => (if v102 = (0 : Int32) then (r_Ju_tell_18 h101) else (if a2 < (0 : Int32) then (r_Ju_tell_18 h101) else (if a2 < (11 : Int32) then (jf_R h101 a0 5 0 (fun a103 => (je_R h101 a103 a1 (fun a104 => (jf_R h101 a0 5 3 (fun a105 => (jk h101 a104 6 (jc_V (r_St_load h101 a104 a2 a105) (fun h106 => (if a3 = (0 : Int32) then (jf_R h106 a0 5 3 (fun a111 => (jf_I h106 a111 7 0 (fun v112 => (some ((Int32.toInt64 v112), h106)))))) else (if a3 = (1 : Int32) then (jf_R h106 a0 5 3 (fun a109 => (jf_L h106 a109 7 1 (fun v110 => (r_Ju_tell_69 h106 v110))))) else (jf_R h106 a0 5 3 (fun a107 => (jf_L h106 a107 7 2 (fun v108 => (r_Ju_tell_69 h106 v108)))))))))))))))) else (r_Ju_tell_18 h101)))))))
theorem e_Ju_tell {h : ja_H} {a0 : Nat} {a1 : Int32} {a2 : Int32} {a3 : Int32} : ja_D ja_gL M_Ju_tell 0 [some (.ref a0), some (.int a1), some (.int a2), some (.int a3)] [] h (r_Ju_tell h a0 a1 a2 a3) := by
  unfold r_Ju_tell
  refine jd_aload_n i_Ju_tell_0 rfl ?_
  refine jd_iload_n i_Ju_tell_1 rfl ?_
  refine jd_callVI G_Ju_50 in_Ju_isComeTo se_Ju_isComeTo rfl (fun _ e => c_Ju_isComeTo e) rfl ⟨by decide, by decide⟩ rfl (Nat.le_of_ble_eq_true rfl) i_Ju_tell_2 (fun v102 h101 => ?_)
  refine jd_if_eq 18 i_Ju_tell_5 (by decide) ?_ ?_
  · exact jd_less (t_Ju_tell_18) trivial
  · refine jd_iload_n i_Ju_tell_8 rfl ?_
    refine jd_if_lt 18 i_Ju_tell_9 (by decide) ?_ ?_
    · exact jd_less (t_Ju_tell_18) trivial
    · refine jd_iload_n i_Ju_tell_12 rfl ?_
      refine jd_bipush 11 i_Ju_tell_13 (by decide) ?_
      refine jd_icmp_lt 20 i_Ju_tell_15 (by decide) ?_ ?_
      · refine jd_aload_n i_Ju_tell_20 rfl ?_
        refine jd_getR F_Ju_11 i_Ju_tell_21 (fun a103 => ?_)
        refine jd_iload_n i_Ju_tell_24 rfl ?_
        refine jd_aald i_Ju_tell_25 (fun a104 => ?_)
        refine jd_iload_n i_Ju_tell_26 rfl ?_
        refine jd_aload_n i_Ju_tell_27 rfl ?_
        refine jd_getR F_Ju_32 i_Ju_tell_28 (fun a105 => ?_)
        refine jd_callVV G_Ju_54 in_St_load se_St_load rfl (fun _ e => c_St_load e) rfl ⟨by decide, by decide⟩ rfl (Nat.le_of_ble_eq_true rfl) i_Ju_tell_31 (fun h106 => ?_)
        refine jd_iload_n i_Ju_tell_34 rfl ?_
        refine jd_if_ne 47 i_Ju_tell_35 (by decide) ?_ ?_
        · refine jd_iload_n i_Ju_tell_47 rfl ?_
          refine jd_iconst 1 i_Ju_tell_48 (by decide) ?_
          refine jd_icmp_ne 62 i_Ju_tell_49 (by decide) ?_ ?_
          · refine jd_aload_n i_Ju_tell_62 rfl ?_
            refine jd_getR F_Ju_32 i_Ju_tell_63 (fun a107 => ?_)
            refine jd_getL F_Ju_65 i_Ju_tell_66 (fun v108 => ?_)
            exact jd_less (t_Ju_tell_69) trivial
          · refine jd_aload_n i_Ju_tell_52 rfl ?_
            refine jd_getR F_Ju_32 i_Ju_tell_53 (fun a109 => ?_)
            refine jd_getL F_Ju_61 i_Ju_tell_56 (fun v110 => ?_)
            refine jd_goto 69 i_Ju_tell_59 (by decide) ?_
            exact jd_less (t_Ju_tell_69) trivial
        · refine jd_aload_n i_Ju_tell_38 rfl ?_
          refine jd_getR F_Ju_32 i_Ju_tell_39 (fun a111 => ?_)
          refine jd_getI F_Ju_58 i_Ju_tell_42 (fun v112 => ?_)
          refine jd_i2l i_Ju_tell_45 ?_
          exact jd_lreturn i_Ju_tell_46 rfl
      · exact jd_less (t_Ju_tell_18) trivial
theorem c_Ju_tell {h : ja_H} {a0 : Nat} {a1 : Int32} {a2 : Int32} {a3 : Int32} {o : Int64 × ja_H} (e : r_Ju_tell h a0 a1 a2 a3 = some o) : ja_M (2, 47) y_Ju_tell b_Ju_tell 4 (some .long) [.ref a0, .int a1, .int a2, .int a3] h [.long o.1] o.2 := jc_of (g := ja_gL) false _ e e_Ju_tell rfl (by decide +kernel) (fun q => nomatch q) (Nat.le_of_ble_eq_true rfl) (fun _ q => nomatch q) (Nat.le_of_ble_eq_true rfl)
noncomputable def r_WJ_state_19 (h : ja_H) : Option (List Value × ja_H) := (some ([.retAddr 19], h))
theorem t_WJ_state_19 {h : ja_H} : ja_D ja_gX M_WJ_state 19 [none, none, none, none] [] h (r_WJ_state_19 h) := by
  unfold r_WJ_state_19
  exact jd_throw
noncomputable def r_WJ_state (h : ja_H) (a0 : Nat) (a1 : Int32) (a2 : Int32) (a3 : Int32) : Option (List Value × ja_H) := (if a3 < (0 : Int32) then (r_WJ_state_19 h) else (if (2 : Int32) < a3 then (r_WJ_state_19 h) else (if a2 < (0 : Int32) then (r_WJ_state_19 h) else (if a2 < (11 : Int32) then (jf_I h a0 0 5 (fun v101 => (if v101 = (0 : Int32) then (some ([.retAddr 36], h)) else (jf_R h a0 0 3 (fun a102 => (jk h a102 5 (jc_I (r_Ju_isComeTo h a102 a1) (fun v104 h103 => (if v104 = (0 : Int32) then (some ([.retAddr 57], h103)) else (jf_R h103 a0 0 3 (fun a105 => (jk h103 a105 5 (jc_L (r_Ju_tell h103 a105 a1 a2 a3) (fun v107 h106 => (some ([.long v107], h106)))))))))))))))) else (r_WJ_state_19 h)))))
theorem e_WJ_state {h : ja_H} {a0 : Nat} {a1 : Int32} {a2 : Int32} {a3 : Int32} : ja_D ja_gX M_WJ_state 0 [some (.ref a0), some (.int a1), some (.int a2), some (.int a3)] [] h (r_WJ_state h a0 a1 a2 a3) := by
  unfold r_WJ_state
  refine jd_iload_n i_WJ_state_0 rfl ?_
  refine jd_if_lt 19 i_WJ_state_1 (by decide) ?_ ?_
  · exact jd_less (t_WJ_state_19) trivial
  · refine jd_iload_n i_WJ_state_4 rfl ?_
    refine jd_iconst 2 i_WJ_state_5 (by decide) ?_
    refine jd_icmp_gt 19 i_WJ_state_6 (by decide) ?_ ?_
    · exact jd_less (t_WJ_state_19) trivial
    · refine jd_iload_n i_WJ_state_9 rfl ?_
      refine jd_if_lt 19 i_WJ_state_10 (by decide) ?_ ?_
      · exact jd_less (t_WJ_state_19) trivial
      · refine jd_iload_n i_WJ_state_13 rfl ?_
        refine jd_bipush 11 i_WJ_state_14 (by decide) ?_
        refine jd_icmp_lt 29 i_WJ_state_16 (by decide) ?_ ?_
        · refine jd_aload_n i_WJ_state_29 rfl ?_
          refine jd_getI F_WJ_44 i_WJ_state_30 (fun v101 => ?_)
          refine jd_if_ne 46 i_WJ_state_33 (by decide) ?_ ?_
          · refine jd_aload_n i_WJ_state_46 rfl ?_
            refine jd_getR F_WJ_33 i_WJ_state_47 (fun a102 => ?_)
            refine jd_iload_n i_WJ_state_50 rfl ?_
            refine jd_callVI G_WJ_101 in_Ju_isComeTo se_Ju_isComeTo rfl (fun _ e => c_Ju_isComeTo e) rfl ⟨by decide, by decide⟩ rfl (Nat.le_of_ble_eq_true rfl) i_WJ_state_51 (fun v104 h103 => ?_)
            refine jd_if_ne 67 i_WJ_state_54 (by decide) ?_ ?_
            · refine jd_aload_n i_WJ_state_67 rfl ?_
              refine jd_getR F_WJ_33 i_WJ_state_68 (fun a105 => ?_)
              refine jd_iload_n i_WJ_state_71 rfl ?_
              refine jd_iload_n i_WJ_state_72 rfl ?_
              refine jd_iload_n i_WJ_state_73 rfl ?_
              refine jd_callVL G_WJ_107 in_Ju_tell se_Ju_tell rfl (fun _ e => c_Ju_tell e) rfl ⟨by decide, by decide⟩ rfl (Nat.le_of_ble_eq_true rfl) i_WJ_state_74 (fun v107 h106 => ?_)
              exact jd_lreturnX i_WJ_state_77 rfl
            · exact jd_throw
          · exact jd_throw
        · exact jd_less (t_WJ_state_19) trivial
noncomputable def r_Ma_give (h : ja_H) (a0 : Nat) (a1 : Int32) (a2 : Int64) : Option (ja_H) := (jf_R h a0 8 0 (fun a101 => (js_L h a101 a1 a2 (fun h102 => (jf_R h102 a0 8 1 (fun a103 => (js_Z h102 a103 a1 (1 : Int32) (fun h104 => (some h104)))))))))
theorem e_Ma_give {h : ja_H} {a0 : Nat} {a1 : Int32} {a2 : Int64} : ja_D ja_gV M_Ma_give 0 [some (.ref a0), some (.int a1), some (.long a2), none] [] h (r_Ma_give h a0 a1 a2) := by
  unfold r_Ma_give
  refine jd_aload_n i_Ma_give_0 rfl ?_
  refine jd_getR F_Ma_9 i_Ma_give_1 (fun a101 => ?_)
  refine jd_iload_n i_Ma_give_4 rfl ?_
  refine jd_lload_n i_Ma_give_5 rfl ?_
  refine jd_last i_Ma_give_6 (fun h102 => ?_)
  refine jd_aload_n i_Ma_give_7 rfl ?_
  refine jd_getR F_Ma_15 i_Ma_give_8 (fun a103 => ?_)
  refine jd_iload_n i_Ma_give_11 rfl ?_
  refine jd_iconst 1 i_Ma_give_12 (by decide) ?_
  refine jd_zast i_Ma_give_13 (fun h104 => ?_)
  exact jd_return i_Ma_give_14 rfl
theorem c_Ma_give {h : ja_H} {a0 : Nat} {a1 : Int32} {a2 : Int64} {o : ja_H} (e : r_Ma_give h a0 a1 a2 = some o) : ja_M (0, 0) y_Ma_give b_Ma_give 4 (none) [.ref a0, .int a1, .long a2] h [] o := jc_of (g := ja_gV) false _ e e_Ma_give rfl (by decide +kernel) (fun q => nomatch q) (Nat.le_of_ble_eq_true rfl) (fun _ q => nomatch q) (Nat.le_of_ble_eq_true rfl)
noncomputable def q_Ma_begin_40 (C40 : ja_H → Nat → Int32 → Option (ja_H)) (h : ja_H) (y0 : Nat) (y1 : Int32) : Option (ja_H) := (if (512 : Int32) ≤ y1 then (jk h y0 8 (jc_V (r_Ma_give h y0 (1 : Int32) (1099511627776 : Int64)) (fun h1 => (jk h1 y0 8 (jc_V (r_Ma_give h1 y0 (10 : Int32) (2199023256064 : Int64)) (fun h2 => (some h2))))))) else (jf_R h y0 8 2 (fun a3 => (js_B h a3 y1 (0 : Int32) (fun h4 => (jf_R h4 y0 8 3 (fun a5 => (js_Z h4 a5 y1 (0 : Int32) (fun h6 => (jl (y1 + 1 : Int32) (fun (x7 : Int32) => (C40 h6 y0 x7))))))))))))
theorem t_Ma_begin_40 {C40 : ja_H → Nat → Int32 → Option (ja_H)} (k40 : ∀ (h : ja_H) (y0 : Nat) (y1 : Int32), ja_D ja_gV M_Ma_begin 40 [some (.ref y0), some (.int y1)] [] h (C40 h y0 y1)) {h : ja_H} {y0 : Nat} {y1 : Int32} : ja_D ja_gV M_Ma_begin 40 [some (.ref y0), some (.int y1)] [] h (q_Ma_begin_40 C40 h y0 y1) := by
  unfold q_Ma_begin_40
  refine jd_iload_n i_Ma_begin_40 rfl ?_
  refine jd_sipush 512 i_Ma_begin_41 (by decide) ?_
  refine jd_icmp_ge 67 i_Ma_begin_44 (by decide) ?_ ?_
  · refine jd_aload_n i_Ma_begin_67 rfl ?_
    refine jd_iconst 1 i_Ma_begin_68 (by decide) ?_
    refine jd_ldc2 i_Ma_begin_69 K_Ma_70 ?_
    refine jd_callVV G_Ma_72 in_Ma_give se_Ma_give rfl (fun _ e => c_Ma_give e) rfl ⟨by decide, by decide⟩ rfl (Nat.le_of_ble_eq_true rfl) i_Ma_begin_72 (fun h1 => ?_)
    refine jd_aload_n i_Ma_begin_75 rfl ?_
    refine jd_bipush 10 i_Ma_begin_76 (by decide) ?_
    refine jd_ldc2 i_Ma_begin_78 K_Ma_76 ?_
    refine jd_callVV G_Ma_72 in_Ma_give se_Ma_give rfl (fun _ e => c_Ma_give e) rfl ⟨by decide, by decide⟩ rfl (Nat.le_of_ble_eq_true rfl) i_Ma_begin_81 (fun h2 => ?_)
    exact jd_return i_Ma_begin_84 rfl
  · refine jd_aload_n i_Ma_begin_47 rfl ?_
    refine jd_getR F_Ma_19 i_Ma_begin_48 (fun a3 => ?_)
    refine jd_iload_n i_Ma_begin_51 rfl ?_
    refine jd_iconst 0 i_Ma_begin_52 (by decide) ?_
    refine jd_bast i_Ma_begin_53 (fun h4 => ?_)
    refine jd_aload_n i_Ma_begin_54 rfl ?_
    refine jd_getR F_Ma_23 i_Ma_begin_55 (fun a5 => ?_)
    refine jd_iload_n i_Ma_begin_58 rfl ?_
    refine jd_iconst 0 i_Ma_begin_59 (by decide) ?_
    refine jd_zast i_Ma_begin_60 (fun h6 => ?_)
    refine jd_iinc (fun x7 => [some (.ref y0), some (.int x7)]) i_Ma_begin_61 rfl rfl (by decide) rfl (fun _ => rfl) (fun x7 => ?_)
    refine jd_goto 40 i_Ma_begin_64 (by decide) ?_
    exact jd_less (k40 _ _ _) ⟨rfl, rfl, trivial⟩
noncomputable def r_Ma_begin_40 : Nat → ja_H → Nat → Int32 → Option (ja_H) := ja_lo (q_Ma_begin_40) (fun _ _ _ => none)
theorem s_Ma_begin_40 : ∀ (n : Nat) (h : ja_H) (y0 : Nat) (y1 : Int32), ja_D ja_gV M_Ma_begin 40 [some (.ref y0), some (.int y1)] [] h (r_Ma_begin_40 n h y0 y1) := by
  intro n
  induction n with
  | zero => intro h y0 y1 o e; cases e
  | succ n ih => intro h y0 y1; exact t_Ma_begin_40 ih
noncomputable def q_Ma_begin_12 (C12 : ja_H → Nat → Int32 → Option (ja_H)) (h : ja_H) (y0 : Nat) (y1 : Int32) : Option (ja_H) := (if (16 : Int32) ≤ y1 then (jl ((0 : Int32) : Int32) (fun (x1 : Int32) => (r_Ma_begin_40 ja_fu h y0 x1))) else (jf_R h y0 8 0 (fun a2 => (js_L h a2 y1 (0 : Int64) (fun h3 => (jf_R h3 y0 8 1 (fun a4 => (js_Z h3 a4 y1 (0 : Int32) (fun h5 => (jl (y1 + 1 : Int32) (fun (x6 : Int32) => (C12 h5 y0 x6))))))))))))
theorem t_Ma_begin_12 {C12 : ja_H → Nat → Int32 → Option (ja_H)} (k12 : ∀ (h : ja_H) (y0 : Nat) (y1 : Int32), ja_D ja_gV M_Ma_begin 12 [some (.ref y0), some (.int y1)] [] h (C12 h y0 y1)) {h : ja_H} {y0 : Nat} {y1 : Int32} : ja_D ja_gV M_Ma_begin 12 [some (.ref y0), some (.int y1)] [] h (q_Ma_begin_12 C12 h y0 y1) := by
  unfold q_Ma_begin_12
  refine jd_iload_n i_Ma_begin_12 rfl ?_
  refine jd_bipush 16 i_Ma_begin_13 (by decide) ?_
  refine jd_icmp_ge 38 i_Ma_begin_15 (by decide) ?_ ?_
  · refine jd_iconst 0 i_Ma_begin_38 (by decide) ?_
    refine jd_istore_n (fun x1 => [some (.ref y0), some (.int x1)]) i_Ma_begin_39 (by decide) rfl (fun _ => rfl) (fun x1 => ?_)
    exact jd_less (s_Ma_begin_40 ja_fu _ _ _) ⟨rfl, rfl, trivial⟩
  · refine jd_aload_n i_Ma_begin_18 rfl ?_
    refine jd_getR F_Ma_9 i_Ma_begin_19 (fun a2 => ?_)
    refine jd_iload_n i_Ma_begin_22 rfl ?_
    refine jd_lconst 0 i_Ma_begin_23 (by decide) ?_
    refine jd_last i_Ma_begin_24 (fun h3 => ?_)
    refine jd_aload_n i_Ma_begin_25 rfl ?_
    refine jd_getR F_Ma_15 i_Ma_begin_26 (fun a4 => ?_)
    refine jd_iload_n i_Ma_begin_29 rfl ?_
    refine jd_iconst 0 i_Ma_begin_30 (by decide) ?_
    refine jd_zast i_Ma_begin_31 (fun h5 => ?_)
    refine jd_iinc (fun x6 => [some (.ref y0), some (.int x6)]) i_Ma_begin_32 rfl rfl (by decide) rfl (fun _ => rfl) (fun x6 => ?_)
    refine jd_goto 12 i_Ma_begin_35 (by decide) ?_
    exact jd_less (k12 _ _ _) ⟨rfl, rfl, trivial⟩
noncomputable def r_Ma_begin_12 : Nat → ja_H → Nat → Int32 → Option (ja_H) := ja_lo (q_Ma_begin_12) (fun _ _ _ => none)
theorem s_Ma_begin_12 : ∀ (n : Nat) (h : ja_H) (y0 : Nat) (y1 : Int32), ja_D ja_gV M_Ma_begin 12 [some (.ref y0), some (.int y1)] [] h (r_Ma_begin_12 n h y0 y1) := by
  intro n
  induction n with
  | zero => intro h y0 y1 o e; cases e
  | succ n ih => intro h y0 y1; exact t_Ma_begin_12 ih
noncomputable def r_Ma_begin (h : ja_H) (a0 : Nat) : Option (ja_H) := (jp_I h a0 8 5 (0 : Int32) (fun h101 => (jp_Z h101 a0 8 7 (0 : Int32) (fun h102 => (jl ((0 : Int32) : Int32) (fun (x103 : Int32) => (r_Ma_begin_12 ja_fu h102 a0 x103)))))))
theorem e_Ma_begin {h : ja_H} {a0 : Nat} : ja_D ja_gV M_Ma_begin 0 [some (.ref a0), none] [] h (r_Ma_begin h a0) := by
  unfold r_Ma_begin
  refine jd_aload_n i_Ma_begin_0 rfl ?_
  refine jd_iconst 0 i_Ma_begin_1 (by decide) ?_
  refine jd_putI F_Ma_42 P_Ma_steps i_Ma_begin_2 (fun h101 => ?_)
  refine jd_aload_n i_Ma_begin_5 rfl ?_
  refine jd_iconst 0 i_Ma_begin_6 (by decide) ?_
  refine jd_putZ F_Ma_63 P_Ma_strayed i_Ma_begin_7 (fun h102 => ?_)
  refine jd_iconst 0 i_Ma_begin_10 (by decide) ?_
  refine jd_istore_n (fun x103 => [some (.ref a0), some (.int x103)]) i_Ma_begin_11 (by decide) rfl (fun _ => rfl) (fun x103 => ?_)
  exact jd_less (s_Ma_begin_12 ja_fu _ _ _) ⟨rfl, rfl, trivial⟩
theorem c_Ma_begin {h : ja_H} {a0 : Nat} {o : ja_H} (e : r_Ma_begin h a0 = some o) : ja_M (1, 23) y_Ma_begin b_Ma_begin 2 (none) [.ref a0] h [] o := jc_of (g := ja_gV) false _ e e_Ma_begin rfl (by decide +kernel) (fun q => nomatch q) (Nat.le_of_ble_eq_true rfl) (fun _ q => nomatch q) (Nat.le_of_ble_eq_true rfl)
noncomputable def r_Ar_isBelow_19 (h : ja_H) (z0 : Int32) : Option (Int32 × ja_H) := (jb z0 (some (z0, h)))
theorem t_Ar_isBelow_19 {h : ja_H} {z0 : Int32} : ja_D ja_gI M_Ar_isBelow 19 [none, none, none, none] [.int z0] h (r_Ar_isBelow_19 h z0) := by
  unfold r_Ar_isBelow_19
  exact jd_zreturn i_Ar_isBelow_19 rfl
noncomputable def r_Ar_isBelow (h : ja_H) (a0 : Int64) (a2 : Int64) : Option (Int32 × ja_H) := (if (a2 ^^^ (-9223372036854775808 : Int64)) ≤ (a0 ^^^ (-9223372036854775808 : Int64)) then (r_Ar_isBelow_19 h (0 : Int32)) else (r_Ar_isBelow_19 h (1 : Int32)))
theorem e_Ar_isBelow {h : ja_H} {a0 : Int64} {a2 : Int64} : ja_D ja_gI M_Ar_isBelow 0 [some (.long a0), none, some (.long a2), none] [] h (r_Ar_isBelow h a0 a2) := by
  unfold r_Ar_isBelow
  refine jd_lload_n i_Ar_isBelow_0 rfl ?_
  refine jd_ldc2 i_Ar_isBelow_1 K_Ar_27 ?_
  refine jd_lxor i_Ar_isBelow_4 ?_
  refine jd_lload_n i_Ar_isBelow_5 rfl ?_
  refine jd_ldc2 i_Ar_isBelow_6 K_Ar_27 ?_
  refine jd_lxor i_Ar_isBelow_9 ?_
  refine jd_lcmp_ge 18 i_Ar_isBelow_10 i_Ar_isBelow_11 (by decide) ?_ ?_
  · refine jd_iconst 0 i_Ar_isBelow_18 (by decide) ?_
    exact jd_less (t_Ar_isBelow_19) trivial
  · refine jd_iconst 1 i_Ar_isBelow_14 (by decide) ?_
    refine jd_goto 19 i_Ar_isBelow_15 (by decide) ?_
    exact jd_less (t_Ar_isBelow_19) trivial
theorem c_Ar_isBelow {h : ja_H} {a0 : Int64} {a2 : Int64} {o : Int32 × ja_H} (e : r_Ar_isBelow h a0 a2 = some o) : ja_M (0, 0) y_Ar_isBelow b_Ar_isBelow 4 (some .boolean) [.long a0, .long a2] h [.int o.1] o.2 := jc_of (g := ja_gI) false _ e e_Ar_isBelow rfl (by decide +kernel) (fun q => nomatch q) (Nat.le_of_ble_eq_true rfl) (fun _ q => nomatch q) (Nat.le_of_ble_eq_true rfl)
noncomputable def r_Ar_isRelated_189 (h : ja_H) (z0 : Int32) : Option (Int32 × ja_H) := (jb z0 (some (z0, h)))
theorem t_Ar_isRelated_189 {h : ja_H} {z0 : Int32} : ja_D ja_gI M_Ar_isRelated 189 [none, none, none, none, none] [.int z0] h (r_Ar_isRelated_189 h z0) := by
  unfold r_Ar_isRelated_189
  exact jd_zreturn i_Ar_isRelated_189 rfl
noncomputable def r_Ar_isRelated_178 (h : ja_H) (y1 : Int64) (y3 : Int64) : Option (Int32 × ja_H) := (if y3 < y1 then (r_Ar_isRelated_189 h (0 : Int32)) else (r_Ar_isRelated_189 h (1 : Int32)))
theorem t_Ar_isRelated_178 {h : ja_H} {y1 : Int64} {y3 : Int64} : ja_D ja_gI M_Ar_isRelated 178 [none, some (.long y1), none, some (.long y3), none] [] h (r_Ar_isRelated_178 h y1 y3) := by
  unfold r_Ar_isRelated_178
  refine jd_lload_n i_Ar_isRelated_178 rfl ?_
  refine jd_lload_n i_Ar_isRelated_179 rfl ?_
  refine jd_lcmp_gt 188 i_Ar_isRelated_180 i_Ar_isRelated_181 (by decide) ?_ ?_
  · refine jd_iconst 0 i_Ar_isRelated_188 (by decide) ?_
    exact jd_less (t_Ar_isRelated_189) trivial
  · refine jd_iconst 1 i_Ar_isRelated_184 (by decide) ?_
    refine jd_goto 189 i_Ar_isRelated_185 (by decide) ?_
    exact jd_less (t_Ar_isRelated_189) trivial
noncomputable def r_Ar_isRelated_177 (h : ja_H) (z0 : Int32) : Option (Int32 × ja_H) := (jb z0 (some (z0, h)))
theorem t_Ar_isRelated_177 {h : ja_H} {z0 : Int32} : ja_D ja_gI M_Ar_isRelated 177 [none, none, none, none, none] [.int z0] h (r_Ar_isRelated_177 h z0) := by
  unfold r_Ar_isRelated_177
  exact jd_zreturn i_Ar_isRelated_177 rfl
noncomputable def r_Ar_isRelated_165 (h : ja_H) (z0 : Int32) : Option (Int32 × ja_H) := (jb z0 (some (z0, h)))
theorem t_Ar_isRelated_165 {h : ja_H} {z0 : Int32} : ja_D ja_gI M_Ar_isRelated 165 [none, none, none, none, none] [.int z0] h (r_Ar_isRelated_165 h z0) := by
  unfold r_Ar_isRelated_165
  exact jd_zreturn i_Ar_isRelated_165 rfl
noncomputable def r_Ar_isRelated_153 (h : ja_H) (z0 : Int32) : Option (Int32 × ja_H) := (jb z0 (some (z0, h)))
theorem t_Ar_isRelated_153 {h : ja_H} {z0 : Int32} : ja_D ja_gI M_Ar_isRelated 153 [none, none, none, none, none] [.int z0] h (r_Ar_isRelated_153 h z0) := by
  unfold r_Ar_isRelated_153
  exact jd_zreturn i_Ar_isRelated_153 rfl
noncomputable def r_Ar_isRelated_141 (h : ja_H) (z0 : Int32) : Option (Int32 × ja_H) := (jb z0 (some (z0, h)))
theorem t_Ar_isRelated_141 {h : ja_H} {z0 : Int32} : ja_D ja_gI M_Ar_isRelated 141 [none, none, none, none, none] [.int z0] h (r_Ar_isRelated_141 h z0) := by
  unfold r_Ar_isRelated_141
  exact jd_zreturn i_Ar_isRelated_141 rfl
noncomputable def r_Ar_isRelated_121 (h : ja_H) (z0 : Int32) : Option (Int32 × ja_H) := (jb z0 (some (z0, h)))
theorem t_Ar_isRelated_121 {h : ja_H} {z0 : Int32} : ja_D ja_gI M_Ar_isRelated 121 [none, none, none, none, none] [.int z0] h (r_Ar_isRelated_121 h z0) := by
  unfold r_Ar_isRelated_121
  exact jd_zreturn i_Ar_isRelated_121 rfl
noncomputable def r_Ar_isRelated_101 (h : ja_H) (z0 : Int32) : Option (Int32 × ja_H) := (jb z0 (some (z0, h)))
theorem t_Ar_isRelated_101 {h : ja_H} {z0 : Int32} : ja_D ja_gI M_Ar_isRelated 101 [none, none, none, none, none] [.int z0] h (r_Ar_isRelated_101 h z0) := by
  unfold r_Ar_isRelated_101
  exact jd_zreturn i_Ar_isRelated_101 rfl
noncomputable def r_Ar_isRelated_87 (h : ja_H) (z0 : Int32) : Option (Int32 × ja_H) := (jb z0 (some (z0, h)))
theorem t_Ar_isRelated_87 {h : ja_H} {z0 : Int32} : ja_D ja_gI M_Ar_isRelated 87 [none, none, none, none, none] [.int z0] h (r_Ar_isRelated_87 h z0) := by
  unfold r_Ar_isRelated_87
  exact jd_zreturn i_Ar_isRelated_87 rfl
noncomputable def r_Ar_isRelated_75 (h : ja_H) (z0 : Int32) : Option (Int32 × ja_H) := (jb z0 (some (z0, h)))
theorem t_Ar_isRelated_75 {h : ja_H} {z0 : Int32} : ja_D ja_gI M_Ar_isRelated 75 [none, none, none, none, none] [.int z0] h (r_Ar_isRelated_75 h z0) := by
  unfold r_Ar_isRelated_75
  exact jd_zreturn i_Ar_isRelated_75 rfl
noncomputable def r_Ar_isRelated (h : ja_H) (a0 : Int32) (a1 : Int64) (a3 : Int64) : Option (Int32 × ja_H) := (jsw a0 [1, 2, 3, 4, 5, 6, 7, 8, 9, 10, 11, 12] [(if a1 = a3 then (r_Ar_isRelated_75 h (1 : Int32)) else (r_Ar_isRelated_75 h (0 : Int32))), (jc_I (r_Ar_isBelow h a3 a1) (fun v102 h101 => (jb v102 (some (v102, h101))))), (jc_I (r_Ar_isBelow h a1 a3) (fun v104 h103 => (if v104 = (0 : Int32) then (r_Ar_isRelated_121 h103 (1 : Int32)) else (r_Ar_isRelated_121 h103 (0 : Int32))))), (if (a1 &&& a3) = (0 : Int64) then (r_Ar_isRelated_101 h (0 : Int32)) else (r_Ar_isRelated_101 h (1 : Int32))), (if a1 = a3 then (r_Ar_isRelated_87 h (0 : Int32)) else (r_Ar_isRelated_87 h (1 : Int32))), (if a1 ≤ a3 then (r_Ar_isRelated_153 h (0 : Int32)) else (r_Ar_isRelated_153 h (1 : Int32))), (if a1 < a3 then (r_Ar_isRelated_165 h (0 : Int32)) else (r_Ar_isRelated_165 h (1 : Int32))), (r_Ar_isRelated_178 h a1 a3), (r_Ar_isRelated_178 h a1 a3), (jc_I (r_Ar_isBelow h a1 a3) (fun v106 h105 => (jb v106 (some (v106, h105))))), (jc_I (r_Ar_isBelow h a3 a1) (fun v108 h107 => (if v108 = (0 : Int32) then (r_Ar_isRelated_141 h107 (1 : Int32)) else (r_Ar_isRelated_141 h107 (0 : Int32))))), (if a3 ≤ a1 then (r_Ar_isRelated_177 h (0 : Int32)) else (r_Ar_isRelated_177 h (1 : Int32)))] (r_Ar_isRelated_178 h a1 a3))
theorem e_Ar_isRelated {h : ja_H} {a0 : Int32} {a1 : Int64} {a3 : Int64} : ja_D ja_gI M_Ar_isRelated 0 [some (.int a0), some (.long a1), none, some (.long a3), none] [] h (r_Ar_isRelated h a0 a1 a3) := by
  unfold r_Ar_isRelated
  refine jd_iload_n i_Ar_isRelated_0 rfl ?_
  refine jd_ts 178 [1, 2, 3, 4, 5, 6, 7, 8, 9, 10, 11, 12] [64, 102, 108, 88, 76, 142, 154, 178, 178, 122, 128, 166] i_Ar_isRelated_1 rfl (by decide) (by decide) (by decide) ?_ ⟨?_, ?_, ?_, ?_, ?_, ?_, ?_, ?_, ?_, ?_, ?_, ?_, trivial⟩
  · exact jd_less (t_Ar_isRelated_178) ⟨rfl, rfl, trivial⟩
  · refine jd_lload_n i_Ar_isRelated_64 rfl ?_
    refine jd_lload_n i_Ar_isRelated_65 rfl ?_
    refine jd_lcmp_ne 74 i_Ar_isRelated_66 i_Ar_isRelated_67 (by decide) ?_ ?_
    · refine jd_iconst 0 i_Ar_isRelated_74 (by decide) ?_
      exact jd_less (t_Ar_isRelated_75) trivial
    · refine jd_iconst 1 i_Ar_isRelated_70 (by decide) ?_
      refine jd_goto 75 i_Ar_isRelated_71 (by decide) ?_
      exact jd_less (t_Ar_isRelated_75) trivial
  · refine jd_lload_n i_Ar_isRelated_102 rfl ?_
    refine jd_lload_n i_Ar_isRelated_103 rfl ?_
    refine jd_callSI G_Ar_37 sc_Ar_isBelow (fun _ e => c_Ar_isBelow e) rfl ⟨by decide, by decide⟩ rfl (Nat.le_of_ble_eq_true rfl) i_Ar_isRelated_104 (fun v102 h101 => ?_)
    exact jd_zreturn i_Ar_isRelated_107 rfl
  · refine jd_lload_n i_Ar_isRelated_108 rfl ?_
    refine jd_lload_n i_Ar_isRelated_109 rfl ?_
    refine jd_callSI G_Ar_37 sc_Ar_isBelow (fun _ e => c_Ar_isBelow e) rfl ⟨by decide, by decide⟩ rfl (Nat.le_of_ble_eq_true rfl) i_Ar_isRelated_110 (fun v104 h103 => ?_)
    refine jd_if_ne 120 i_Ar_isRelated_113 (by decide) ?_ ?_
    · refine jd_iconst 0 i_Ar_isRelated_120 (by decide) ?_
      exact jd_less (t_Ar_isRelated_121) trivial
    · refine jd_iconst 1 i_Ar_isRelated_116 (by decide) ?_
      refine jd_goto 121 i_Ar_isRelated_117 (by decide) ?_
      exact jd_less (t_Ar_isRelated_121) trivial
  · refine jd_lload_n i_Ar_isRelated_88 rfl ?_
    refine jd_lload_n i_Ar_isRelated_89 rfl ?_
    refine jd_land i_Ar_isRelated_90 ?_
    refine jd_lconst 0 i_Ar_isRelated_91 (by decide) ?_
    refine jd_lcmp_eq 100 i_Ar_isRelated_92 i_Ar_isRelated_93 (by decide) ?_ ?_
    · refine jd_iconst 0 i_Ar_isRelated_100 (by decide) ?_
      exact jd_less (t_Ar_isRelated_101) trivial
    · refine jd_iconst 1 i_Ar_isRelated_96 (by decide) ?_
      refine jd_goto 101 i_Ar_isRelated_97 (by decide) ?_
      exact jd_less (t_Ar_isRelated_101) trivial
  · refine jd_lload_n i_Ar_isRelated_76 rfl ?_
    refine jd_lload_n i_Ar_isRelated_77 rfl ?_
    refine jd_lcmp_eq 86 i_Ar_isRelated_78 i_Ar_isRelated_79 (by decide) ?_ ?_
    · refine jd_iconst 0 i_Ar_isRelated_86 (by decide) ?_
      exact jd_less (t_Ar_isRelated_87) trivial
    · refine jd_iconst 1 i_Ar_isRelated_82 (by decide) ?_
      refine jd_goto 87 i_Ar_isRelated_83 (by decide) ?_
      exact jd_less (t_Ar_isRelated_87) trivial
  · refine jd_lload_n i_Ar_isRelated_142 rfl ?_
    refine jd_lload_n i_Ar_isRelated_143 rfl ?_
    refine jd_lcmp_le 152 i_Ar_isRelated_144 i_Ar_isRelated_145 (by decide) ?_ ?_
    · refine jd_iconst 0 i_Ar_isRelated_152 (by decide) ?_
      exact jd_less (t_Ar_isRelated_153) trivial
    · refine jd_iconst 1 i_Ar_isRelated_148 (by decide) ?_
      refine jd_goto 153 i_Ar_isRelated_149 (by decide) ?_
      exact jd_less (t_Ar_isRelated_153) trivial
  · refine jd_lload_n i_Ar_isRelated_154 rfl ?_
    refine jd_lload_n i_Ar_isRelated_155 rfl ?_
    refine jd_lcmp_lt 164 i_Ar_isRelated_156 i_Ar_isRelated_157 (by decide) ?_ ?_
    · refine jd_iconst 0 i_Ar_isRelated_164 (by decide) ?_
      exact jd_less (t_Ar_isRelated_165) trivial
    · refine jd_iconst 1 i_Ar_isRelated_160 (by decide) ?_
      refine jd_goto 165 i_Ar_isRelated_161 (by decide) ?_
      exact jd_less (t_Ar_isRelated_165) trivial
  · exact jd_less (t_Ar_isRelated_178) ⟨rfl, rfl, trivial⟩
  · exact jd_less (t_Ar_isRelated_178) ⟨rfl, rfl, trivial⟩
  · refine jd_lload_n i_Ar_isRelated_122 rfl ?_
    refine jd_lload_n i_Ar_isRelated_123 rfl ?_
    refine jd_callSI G_Ar_37 sc_Ar_isBelow (fun _ e => c_Ar_isBelow e) rfl ⟨by decide, by decide⟩ rfl (Nat.le_of_ble_eq_true rfl) i_Ar_isRelated_124 (fun v106 h105 => ?_)
    exact jd_zreturn i_Ar_isRelated_127 rfl
  · refine jd_lload_n i_Ar_isRelated_128 rfl ?_
    refine jd_lload_n i_Ar_isRelated_129 rfl ?_
    refine jd_callSI G_Ar_37 sc_Ar_isBelow (fun _ e => c_Ar_isBelow e) rfl ⟨by decide, by decide⟩ rfl (Nat.le_of_ble_eq_true rfl) i_Ar_isRelated_130 (fun v108 h107 => ?_)
    refine jd_if_ne 140 i_Ar_isRelated_133 (by decide) ?_ ?_
    · refine jd_iconst 0 i_Ar_isRelated_140 (by decide) ?_
      exact jd_less (t_Ar_isRelated_141) trivial
    · refine jd_iconst 1 i_Ar_isRelated_136 (by decide) ?_
      refine jd_goto 141 i_Ar_isRelated_137 (by decide) ?_
      exact jd_less (t_Ar_isRelated_141) trivial
  · refine jd_lload_n i_Ar_isRelated_166 rfl ?_
    refine jd_lload_n i_Ar_isRelated_167 rfl ?_
    refine jd_lcmp_ge 176 i_Ar_isRelated_168 i_Ar_isRelated_169 (by decide) ?_ ?_
    · refine jd_iconst 0 i_Ar_isRelated_176 (by decide) ?_
      exact jd_less (t_Ar_isRelated_177) trivial
    · refine jd_iconst 1 i_Ar_isRelated_172 (by decide) ?_
      refine jd_goto 177 i_Ar_isRelated_173 (by decide) ?_
      exact jd_less (t_Ar_isRelated_177) trivial
theorem c_Ar_isRelated {h : ja_H} {a0 : Int32} {a1 : Int64} {a3 : Int64} {o : Int32 × ja_H} (e : r_Ar_isRelated h a0 a1 a3 = some o) : ja_M (1, 23) y_Ar_isRelated b_Ar_isRelated 5 (some .boolean) [.int a0, .long a1, .long a3] h [.int o.1] o.2 := jc_of (g := ja_gI) false _ e e_Ar_isRelated rfl (by decide +kernel) (fun q => nomatch q) (Nat.le_of_ble_eq_true rfl) (fun _ q => nomatch q) (Nat.le_of_ble_eq_true rfl)
noncomputable def r_Ar_holds_43 (h : ja_H) (z0 : Int64) (z1 : Int64) (z2 : Int32) : Option (Int32 × ja_H) := (jc_I (r_Ar_isRelated h z2 z1 z0) (fun v2 h1 => (jb v2 (some (v2, h1)))))
theorem t_Ar_holds_43 {h : ja_H} {z0 : Int64} {z1 : Int64} {z2 : Int32} : ja_D ja_gI M_Ar_holds 43 [none, none, none, none, none, none] [.long z0, .long z1, .int z2] h (r_Ar_holds_43 h z0 z1 z2) := by
  unfold r_Ar_holds_43
  refine jd_callSI G_Ar_33 sc_Ar_isRelated (fun _ e => c_Ar_isRelated e) rfl ⟨by decide, by decide⟩ rfl (Nat.le_of_ble_eq_true rfl) i_Ar_holds_43 (fun v2 h1 => ?_)
  exact jd_zreturn i_Ar_holds_46 rfl
noncomputable def r_Ar_holds_31 (h : ja_H) (y3 : Int64) (y5 : Int32) (z0 : Int64) (z1 : Int32) : Option (Int32 × ja_H) := (if y5 = (0 : Int32) then (r_Ar_holds_43 h y3 z0 z1) else (r_Ar_holds_43 h (Int32.toInt64 (Int64.toInt32 y3)) z0 z1))
theorem t_Ar_holds_31 {h : ja_H} {y3 : Int64} {y5 : Int32} {z0 : Int64} {z1 : Int32} : ja_D ja_gI M_Ar_holds 31 [none, none, none, some (.long y3), none, some (.int y5)] [.long z0, .int z1] h (r_Ar_holds_31 h y3 y5 z0 z1) := by
  unfold r_Ar_holds_31
  refine jd_iload i_Ar_holds_31 rfl ?_
  refine jd_if_eq 42 i_Ar_holds_33 (by decide) ?_ ?_
  · refine jd_lload_n i_Ar_holds_42 rfl ?_
    exact jd_less (t_Ar_holds_43) trivial
  · refine jd_lload_n i_Ar_holds_36 rfl ?_
    refine jd_l2i i_Ar_holds_37 ?_
    refine jd_i2l i_Ar_holds_38 ?_
    refine jd_goto 43 i_Ar_holds_39 (by decide) ?_
    exact jd_less (t_Ar_holds_43) trivial
noncomputable def r_Ar_holds_14 (h : ja_H) (y0 : Int32) (y1 : Int64) (y3 : Int64) (z0 : Int32) : Option (Int32 × ja_H) := (jl (z0 : Int32) (fun (x1 : Int32) => (if x1 = (0 : Int32) then (r_Ar_holds_31 h y3 x1 y1 (y0 >>> ((4 : Int32) &&& 31))) else (r_Ar_holds_31 h y3 x1 (Int32.toInt64 (Int64.toInt32 y1)) (y0 >>> ((4 : Int32) &&& 31))))))
theorem t_Ar_holds_14 {h : ja_H} {y0 : Int32} {y1 : Int64} {y3 : Int64} {z0 : Int32} : ja_D ja_gI M_Ar_holds 14 [some (.int y0), some (.long y1), none, some (.long y3), none, none] [.int z0] h (r_Ar_holds_14 h y0 y1 y3 z0) := by
  unfold r_Ar_holds_14
  refine jd_istore (fun x1 => [some (.int y0), some (.long y1), none, some (.long y3), none, some (.int x1)]) i_Ar_holds_14 (by decide) rfl (fun _ => rfl) (fun x1 => ?_)
  refine jd_iload_n i_Ar_holds_16 rfl ?_
  refine jd_iconst 4 i_Ar_holds_17 (by decide) ?_
  refine jd_ishr i_Ar_holds_18 ?_
  refine jd_iload i_Ar_holds_19 rfl ?_
  refine jd_if_eq 30 i_Ar_holds_21 (by decide) ?_ ?_
  · refine jd_lload_n i_Ar_holds_30 rfl ?_
    exact jd_less (t_Ar_holds_31) ⟨rfl, rfl, trivial⟩
  · refine jd_lload_n i_Ar_holds_24 rfl ?_
    refine jd_l2i i_Ar_holds_25 ?_
    refine jd_i2l i_Ar_holds_26 ?_
    refine jd_goto 31 i_Ar_holds_27 (by decide) ?_
    exact jd_less (t_Ar_holds_31) ⟨rfl, rfl, trivial⟩
noncomputable def r_Ar_holds (h : ja_H) (a0 : Int32) (a1 : Int64) (a3 : Int64) : Option (Int32 × ja_H) := (if (a0 &&& (7 : Int32)) = (6 : Int32) then (r_Ar_holds_14 h a0 a1 a3 (1 : Int32)) else (r_Ar_holds_14 h a0 a1 a3 (0 : Int32)))
theorem e_Ar_holds {h : ja_H} {a0 : Int32} {a1 : Int64} {a3 : Int64} : ja_D ja_gI M_Ar_holds 0 [some (.int a0), some (.long a1), none, some (.long a3), none, none] [] h (r_Ar_holds h a0 a1 a3) := by
  unfold r_Ar_holds
  refine jd_iload_n i_Ar_holds_0 rfl ?_
  refine jd_bipush 7 i_Ar_holds_1 (by decide) ?_
  refine jd_iand i_Ar_holds_3 ?_
  refine jd_bipush 6 i_Ar_holds_4 (by decide) ?_
  refine jd_icmp_ne 13 i_Ar_holds_6 (by decide) ?_ ?_
  · refine jd_iconst 0 i_Ar_holds_13 (by decide) ?_
    exact jd_less (t_Ar_holds_14) ⟨rfl, rfl, rfl, trivial⟩
  · refine jd_iconst 1 i_Ar_holds_9 (by decide) ?_
    refine jd_goto 14 i_Ar_holds_10 (by decide) ?_
    exact jd_less (t_Ar_holds_14) ⟨rfl, rfl, rfl, trivial⟩
theorem c_Ar_holds {h : ja_H} {a0 : Int32} {a1 : Int64} {a3 : Int64} {o : Int32 × ja_H} (e : r_Ar_holds h a0 a1 a3 = some o) : ja_M (2, 47) y_Ar_holds b_Ar_holds 6 (some .boolean) [.int a0, .long a1, .long a3] h [.int o.1] o.2 := jc_of (g := ja_gI) false _ e e_Ar_holds rfl (by decide +kernel) (fun q => nomatch q) (Nat.le_of_ble_eq_true rfl) (fun _ q => nomatch q) (Nat.le_of_ble_eq_true rfl)
noncomputable def r_Gi_octet_23 (h : ja_H) (z0 : Int32) : Option (Int32 × ja_H) := (some (z0, h))
theorem t_Gi_octet_23 {h : ja_H} {z0 : Int32} : ja_D ja_gI M_Gi_octet 23 [none, none, none] [.int z0] h (r_Gi_octet_23 h z0) := by
  unfold r_Gi_octet_23
  exact jd_ireturn i_Gi_octet_23 rfl
noncomputable def r_Gi_octet (h : ja_H) (a0 : Nat) (a1 : Int64) : Option (Int32 × ja_H) := (jk h a0 2 (jc_I (r_Gi_has h a0 a1) (fun v102 h101 => (if v102 = (0 : Int32) then (r_Gi_octet_23 h101 (0 : Int32)) else (jf_R h101 a0 2 0 (fun a103 => (je_I h101 a103 3 (Int64.toInt32 a1) (fun v104 => (r_Gi_octet_23 h101 (v104 &&& (255 : Int32)))))))))))
theorem e_Gi_octet {h : ja_H} {a0 : Nat} {a1 : Int64} : ja_D ja_gI M_Gi_octet 0 [some (.ref a0), some (.long a1), none] [] h (r_Gi_octet h a0 a1) := by
  unfold r_Gi_octet
  refine jd_aload_n i_Gi_octet_0 rfl ?_
  refine jd_lload_n i_Gi_octet_1 rfl ?_
  refine jd_callVI G_Gi_25 in_Gi_has se_Gi_has rfl (fun _ e => c_Gi_has e) rfl ⟨by decide, by decide⟩ rfl (Nat.le_of_ble_eq_true rfl) i_Gi_octet_2 (fun v102 h101 => ?_)
  refine jd_if_eq 22 i_Gi_octet_5 (by decide) ?_ ?_
  · refine jd_iconst 0 i_Gi_octet_22 (by decide) ?_
    exact jd_less (t_Gi_octet_23) trivial
  · refine jd_aload_n i_Gi_octet_8 rfl ?_
    refine jd_getR F_Gi_9 i_Gi_octet_9 (fun a103 => ?_)
    refine jd_lload_n i_Gi_octet_12 rfl ?_
    refine jd_l2i i_Gi_octet_13 ?_
    refine jd_bald i_Gi_octet_14 (fun v104 => ?_)
    refine jd_sipush 255 i_Gi_octet_15 (by decide) ?_
    refine jd_iand i_Gi_octet_18 ?_
    refine jd_goto 23 i_Gi_octet_19 (by decide) ?_
    exact jd_less (t_Gi_octet_23) trivial
theorem c_Gi_octet {h : ja_H} {a0 : Nat} {a1 : Int64} {o : Int32 × ja_H} (e : r_Gi_octet h a0 a1 = some o) : ja_M (1, 22) y_Gi_octet b_Gi_octet 3 (some .int) [.ref a0, .long a1] h [.int o.1] o.2 := jc_of (g := ja_gI) false _ e e_Gi_octet rfl (by decide +kernel) (fun q => nomatch q) (Nat.le_of_ble_eq_true rfl) (fun _ q => nomatch q) (Nat.le_of_ble_eq_true rfl)
noncomputable def r_Ma_stackIndex_26 (h : ja_H) (z0 : Int32) : Option (Int32 × ja_H) := (some (z0, h))
theorem t_Ma_stackIndex_26 {h : ja_H} {z0 : Int32} : ja_D ja_gI M_Ma_stackIndex 26 [none, none, none, none, none] [.int z0] h (r_Ma_stackIndex_26 h z0) := by
  unfold r_Ma_stackIndex_26
  exact jd_ireturn i_Ma_stackIndex_26 rfl
noncomputable def r_Ma_stackIndex_25 (h : ja_H) : Option (Int32 × ja_H) := (r_Ma_stackIndex_26 h (-1 : Int32))
theorem t_Ma_stackIndex_25 {h : ja_H} : ja_D ja_gI M_Ma_stackIndex 25 [none, none, none, none, none] [] h (r_Ma_stackIndex_25 h) := by
  unfold r_Ma_stackIndex_25
  refine jd_iconst (-1) i_Ma_stackIndex_25 (by decide) ?_
  exact jd_less (t_Ma_stackIndex_26) trivial
noncomputable def r_Ma_stackIndex (h : ja_H) (a0 : Nat) (a1 : Int64) : Option (Int32 × ja_H) := (jl ((a1 - (2199023255552 : Int64)) : Int64) (fun (x101 : Int64) => (if x101 < (0 : Int64) then (r_Ma_stackIndex_25 h) else (if (512 : Int64) ≤ x101 then (r_Ma_stackIndex_25 h) else (r_Ma_stackIndex_26 h (Int64.toInt32 x101))))))
theorem e_Ma_stackIndex {h : ja_H} {a0 : Nat} {a1 : Int64} : ja_D ja_gI M_Ma_stackIndex 0 [some (.ref a0), some (.long a1), none, none, none] [] h (r_Ma_stackIndex h a0 a1) := by
  unfold r_Ma_stackIndex
  refine jd_lload_n i_Ma_stackIndex_0 rfl ?_
  refine jd_ldc2 i_Ma_stackIndex_1 K_Ma_151 ?_
  refine jd_lsub i_Ma_stackIndex_4 ?_
  refine jd_lstore_n (fun x101 => [some (.ref a0), some (.long a1), none, some (.long x101), none]) i_Ma_stackIndex_5 (by decide) rfl (fun _ => rfl) (fun x101 => ?_)
  refine jd_lload_n i_Ma_stackIndex_6 rfl ?_
  refine jd_lconst 0 i_Ma_stackIndex_7 (by decide) ?_
  refine jd_lcmp_lt 25 i_Ma_stackIndex_8 i_Ma_stackIndex_9 (by decide) ?_ ?_
  · exact jd_less (t_Ma_stackIndex_25) trivial
  · refine jd_lload_n i_Ma_stackIndex_12 rfl ?_
    refine jd_ldc2 i_Ma_stackIndex_13 K_Ma_153 ?_
    refine jd_lcmp_ge 25 i_Ma_stackIndex_16 i_Ma_stackIndex_17 (by decide) ?_ ?_
    · exact jd_less (t_Ma_stackIndex_25) trivial
    · refine jd_lload_n i_Ma_stackIndex_20 rfl ?_
      refine jd_l2i i_Ma_stackIndex_21 ?_
      refine jd_goto 26 i_Ma_stackIndex_22 (by decide) ?_
      exact jd_less (t_Ma_stackIndex_26) trivial
theorem c_Ma_stackIndex {h : ja_H} {a0 : Nat} {a1 : Int64} {o : Int32 × ja_H} (e : r_Ma_stackIndex h a0 a1 = some o) : ja_M (0, 0) y_Ma_stackIndex b_Ma_stackIndex 5 (some .int) [.ref a0, .long a1] h [.int o.1] o.2 := jc_of (g := ja_gI) false _ e e_Ma_stackIndex rfl (by decide +kernel) (fun q => nomatch q) (Nat.le_of_ble_eq_true rfl) (fun _ q => nomatch q) (Nat.le_of_ble_eq_true rfl)
noncomputable def r_Ma_readOctet_56 (h : ja_H) (y0 : Nat) : Option (Int32 × ja_H) := (jp_Z h y0 8 7 (1 : Int32) (fun h1 => (some ((0 : Int32), h1))))
theorem t_Ma_readOctet_56 {h : ja_H} {y0 : Nat} : ja_D ja_gI M_Ma_readOctet 56 [some (.ref y0), none, none, none, none] [] h (r_Ma_readOctet_56 h y0) := by
  unfold r_Ma_readOctet_56
  refine jd_aload_n i_Ma_readOctet_56 rfl ?_
  refine jd_iconst 1 i_Ma_readOctet_57 (by decide) ?_
  refine jd_putZ F_Ma_63 P_Ma_strayed i_Ma_readOctet_58 (fun h1 => ?_)
  refine jd_iconst 0 i_Ma_readOctet_61 (by decide) ?_
  exact jd_ireturn i_Ma_readOctet_62 rfl
noncomputable def r_Ma_readOctet (h : ja_H) (a0 : Nat) (a1 : Int64) (a3 : Nat) : Option (Int32 × ja_H) := (jk h a3 2 (jc_I (r_Gi_has h a3 (a1 - (1099511627776 : Int64))) (fun v102 h101 => (if v102 = (0 : Int32) then (jk h101 a0 8 (jc_I (r_Ma_stackIndex h101 a0 a1) (fun v104 h103 => (jl (v104 : Int32) (fun (x105 : Int32) => (if x105 < (0 : Int32) then (r_Ma_readOctet_56 h103 a0) else (jf_R h103 a0 8 3 (fun a106 => (je_I h103 a106 2 x105 (fun v107 => (if v107 = (0 : Int32) then (r_Ma_readOctet_56 h103 a0) else (jf_R h103 a0 8 2 (fun a108 => (je_I h103 a108 3 x105 (fun v109 => (some ((v109 &&& (255 : Int32)), h103))))))))))))))))) else (jk h101 a3 2 (jc_I (r_Gi_octet h101 a3 (a1 - (1099511627776 : Int64))) (fun v111 h110 => (some (v111, h110)))))))))
theorem e_Ma_readOctet {h : ja_H} {a0 : Nat} {a1 : Int64} {a3 : Nat} : ja_D ja_gI M_Ma_readOctet 0 [some (.ref a0), some (.long a1), none, some (.ref a3), none] [] h (r_Ma_readOctet h a0 a1 a3) := by
  unfold r_Ma_readOctet
  refine jd_aload_n i_Ma_readOctet_0 rfl ?_
  refine jd_lload_n i_Ma_readOctet_1 rfl ?_
  refine jd_ldc2 i_Ma_readOctet_2 K_Ma_70 ?_
  refine jd_lsub i_Ma_readOctet_5 ?_
  refine jd_callVI G_Ma_138 in_Gi_has se_Gi_has rfl (fun _ e => c_Gi_has e) rfl ⟨by decide, by decide⟩ rfl (Nat.le_of_ble_eq_true rfl) i_Ma_readOctet_6 (fun v102 h101 => ?_)
  refine jd_if_eq 22 i_Ma_readOctet_9 (by decide) ?_ ?_
  · refine jd_aload_n i_Ma_readOctet_22 rfl ?_
    refine jd_lload_n i_Ma_readOctet_23 rfl ?_
    refine jd_callVI G_Ma_148 in_Ma_stackIndex se_Ma_stackIndex rfl (fun _ e => c_Ma_stackIndex e) rfl ⟨by decide, by decide⟩ rfl (Nat.le_of_ble_eq_true rfl) i_Ma_readOctet_24 (fun v104 h103 => ?_)
    refine jd_istore (fun x105 => [some (.ref a0), some (.long a1), none, some (.ref a3), some (.int x105)]) i_Ma_readOctet_27 (by decide) rfl (fun _ => rfl) (fun x105 => ?_)
    refine jd_iload i_Ma_readOctet_29 rfl ?_
    refine jd_if_lt 56 i_Ma_readOctet_31 (by decide) ?_ ?_
    · exact jd_less (t_Ma_readOctet_56) ⟨rfl, trivial⟩
    · refine jd_aload_n i_Ma_readOctet_34 rfl ?_
      refine jd_getR F_Ma_23 i_Ma_readOctet_35 (fun a106 => ?_)
      refine jd_iload i_Ma_readOctet_38 rfl ?_
      refine jd_zald i_Ma_readOctet_40 (fun v107 => ?_)
      refine jd_if_eq 56 i_Ma_readOctet_41 (by decide) ?_ ?_
      · exact jd_less (t_Ma_readOctet_56) ⟨rfl, trivial⟩
      · refine jd_aload_n i_Ma_readOctet_44 rfl ?_
        refine jd_getR F_Ma_19 i_Ma_readOctet_45 (fun a108 => ?_)
        refine jd_iload i_Ma_readOctet_48 rfl ?_
        refine jd_bald i_Ma_readOctet_50 (fun v109 => ?_)
        refine jd_sipush 255 i_Ma_readOctet_51 (by decide) ?_
        refine jd_iand i_Ma_readOctet_54 ?_
        exact jd_ireturn i_Ma_readOctet_55 rfl
  · refine jd_aload_n i_Ma_readOctet_12 rfl ?_
    refine jd_lload_n i_Ma_readOctet_13 rfl ?_
    refine jd_ldc2 i_Ma_readOctet_14 K_Ma_70 ?_
    refine jd_lsub i_Ma_readOctet_17 ?_
    refine jd_callVI G_Ma_144 in_Gi_octet se_Gi_octet rfl (fun _ e => c_Gi_octet e) rfl ⟨by decide, by decide⟩ rfl (Nat.le_of_ble_eq_true rfl) i_Ma_readOctet_18 (fun v111 h110 => ?_)
    exact jd_ireturn i_Ma_readOctet_21 rfl
theorem c_Ma_readOctet {h : ja_H} {a0 : Nat} {a1 : Int64} {a3 : Nat} {o : Int32 × ja_H} (e : r_Ma_readOctet h a0 a1 a3 = some o) : ja_M (2, 44) y_Ma_readOctet b_Ma_readOctet 5 (some .int) [.ref a0, .long a1, .ref a3] h [.int o.1] o.2 := jc_of (g := ja_gI) false _ e e_Ma_readOctet rfl (by decide +kernel) (fun q => nomatch q) (Nat.le_of_ble_eq_true rfl) (fun _ q => nomatch q) (Nat.le_of_ble_eq_true rfl)
noncomputable def q_Ma_read_8 (C8 : ja_H → Nat → Int64 → Nat → Int64 → Int32 → Option (Int64 × ja_H)) (h : ja_H) (y0 : Nat) (y1 : Int64) (y4 : Nat) (y5 : Int64) (y7 : Int32) : Option (Int64 × ja_H) := (if y7 < (0 : Int32) then (some (y5, h)) else (jk h y0 8 (jc_I (r_Ma_readOctet h y0 (y1 + (Int32.toInt64 y7)) y4) (fun v2 h1 => (jl (((y5 <<< (Int32.toInt64 (8 : Int32) &&& 63)) ||| (Int32.toInt64 v2)) : Int64) (fun (x3 : Int64) => (jl (y7 + (-1) : Int32) (fun (x4 : Int32) => (C8 h1 y0 y1 y4 x3 x4)))))))))
theorem t_Ma_read_8 {C8 : ja_H → Nat → Int64 → Nat → Int64 → Int32 → Option (Int64 × ja_H)} (k8 : ∀ (h : ja_H) (y0 : Nat) (y1 : Int64) (y4 : Nat) (y5 : Int64) (y7 : Int32), ja_D ja_gL M_Ma_read 8 [some (.ref y0), some (.long y1), none, none, some (.ref y4), some (.long y5), none, some (.int y7)] [] h (C8 h y0 y1 y4 y5 y7)) {h : ja_H} {y0 : Nat} {y1 : Int64} {y4 : Nat} {y5 : Int64} {y7 : Int32} : ja_D ja_gL M_Ma_read 8 [some (.ref y0), some (.long y1), none, none, some (.ref y4), some (.long y5), none, some (.int y7)] [] h (q_Ma_read_8 C8 h y0 y1 y4 y5 y7) := by
  unfold q_Ma_read_8
  refine jd_iload i_Ma_read_8 rfl ?_
  refine jd_if_lt 39 i_Ma_read_10 (by decide) ?_ ?_
  · refine jd_lload i_Ma_read_39 rfl ?_
    exact jd_lreturn i_Ma_read_41 rfl
  · refine jd_lload i_Ma_read_13 rfl ?_
    refine jd_bipush 8 i_Ma_read_15 (by decide) ?_
    refine jd_lshl i_Ma_read_17 ?_
    refine jd_aload_n i_Ma_read_18 rfl ?_
    refine jd_lload_n i_Ma_read_19 rfl ?_
    refine jd_iload i_Ma_read_20 rfl ?_
    refine jd_i2l i_Ma_read_22 ?_
    refine jd_ladd i_Ma_read_23 ?_
    refine jd_aload i_Ma_read_24 rfl ?_
    refine jd_callVI G_Ma_134 in_Ma_readOctet se_Ma_readOctet rfl (fun _ e => c_Ma_readOctet e) rfl ⟨by decide, by decide⟩ rfl (Nat.le_of_ble_eq_true rfl) i_Ma_read_26 (fun v2 h1 => ?_)
    refine jd_i2l i_Ma_read_29 ?_
    refine jd_lor i_Ma_read_30 ?_
    refine jd_lstore (fun x3 => [some (.ref y0), some (.long y1), none, none, some (.ref y4), some (.long x3), none, some (.int y7)]) i_Ma_read_31 (by decide) rfl (fun _ => rfl) (fun x3 => ?_)
    refine jd_iinc (fun x4 => [some (.ref y0), some (.long y1), none, none, some (.ref y4), some (.long x3), none, some (.int x4)]) i_Ma_read_33 rfl rfl (by decide) rfl (fun _ => rfl) (fun x4 => ?_)
    refine jd_goto 8 i_Ma_read_36 (by decide) ?_
    exact jd_less (k8 _ _ _ _ _ _) ⟨rfl, rfl, rfl, rfl, rfl, trivial⟩
noncomputable def r_Ma_read_8 : Nat → ja_H → Nat → Int64 → Nat → Int64 → Int32 → Option (Int64 × ja_H) := ja_lo (q_Ma_read_8) (fun _ _ _ _ _ _ => none)
theorem s_Ma_read_8 : ∀ (n : Nat) (h : ja_H) (y0 : Nat) (y1 : Int64) (y4 : Nat) (y5 : Int64) (y7 : Int32), ja_D ja_gL M_Ma_read 8 [some (.ref y0), some (.long y1), none, none, some (.ref y4), some (.long y5), none, some (.int y7)] [] h (r_Ma_read_8 n h y0 y1 y4 y5 y7) := by
  intro n
  induction n with
  | zero => intro h y0 y1 y4 y5 y7 o e; cases e
  | succ n ih => intro h y0 y1 y4 y5 y7; exact t_Ma_read_8 ih
noncomputable def r_Ma_read (h : ja_H) (a0 : Nat) (a1 : Int64) (a3 : Int32) (a4 : Nat) : Option (Int64 × ja_H) := (jl ((0 : Int64) : Int64) (fun (x101 : Int64) => (jl ((a3 - (1 : Int32)) : Int32) (fun (x102 : Int32) => (r_Ma_read_8 ja_fu h a0 a1 a4 x101 x102)))))
theorem e_Ma_read {h : ja_H} {a0 : Nat} {a1 : Int64} {a3 : Int32} {a4 : Nat} : ja_D ja_gL M_Ma_read 0 [some (.ref a0), some (.long a1), none, some (.int a3), some (.ref a4), none, none, none] [] h (r_Ma_read h a0 a1 a3 a4) := by
  unfold r_Ma_read
  refine jd_lconst 0 i_Ma_read_0 (by decide) ?_
  refine jd_lstore (fun x101 => [some (.ref a0), some (.long a1), none, some (.int a3), some (.ref a4), some (.long x101), none, none]) i_Ma_read_1 (by decide) rfl (fun _ => rfl) (fun x101 => ?_)
  refine jd_iload_n i_Ma_read_3 rfl ?_
  refine jd_iconst 1 i_Ma_read_4 (by decide) ?_
  refine jd_isub i_Ma_read_5 ?_
  refine jd_istore (fun x102 => [some (.ref a0), some (.long a1), none, some (.int a3), some (.ref a4), some (.long x101), none, some (.int x102)]) i_Ma_read_6 (by decide) rfl (fun _ => rfl) (fun x102 => ?_)
  exact jd_less (s_Ma_read_8 ja_fu _ _ _ _ _ _) ⟨rfl, rfl, rfl, rfl, rfl, trivial⟩
theorem c_Ma_read {h : ja_H} {a0 : Nat} {a1 : Int64} {a3 : Int32} {a4 : Nat} {o : Int64 × ja_H} (e : r_Ma_read h a0 a1 a3 a4 = some o) : ja_M (3, 68) y_Ma_read b_Ma_read 8 (some .long) [.ref a0, .long a1, .int a3, .ref a4] h [.long o.1] o.2 := jc_of (g := ja_gL) false _ e e_Ma_read rfl (by decide +kernel) (fun q => nomatch q) (Nat.le_of_ble_eq_true rfl) (fun _ q => nomatch q) (Nat.le_of_ble_eq_true rfl)
