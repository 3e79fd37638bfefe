noncomputable def r_Ju_examineArithmetic_37 (h : ja_H) (y0 : Nat) : Option (Int32 × ja_H) := (jk h y0 5 (jc_I (r_Ju_movePointer h y0) (fun v2 h1 => (some (v2, h1)))))
theorem t_Ju_examineArithmetic_37 {h : ja_H} {y0 : Nat} : ja_D ja_gI M_Ju_examineArithmetic 37 [some (.ref y0)] [] h (r_Ju_examineArithmetic_37 h y0) := by
  unfold r_Ju_examineArithmetic_37
  refine jd_aload_n i_Ju_examineArithmetic_37 rfl ?_
  refine jd_callVI G_Ju_174 in_Ju_movePointer se_Ju_movePointer rfl (fun _ e => c_Ju_movePointer e) rfl ⟨by decide, by decide⟩ rfl (Nat.le_of_ble_eq_true rfl) i_Ju_examineArithmetic_38 (fun v2 h1 => ?_)
  exact jd_ireturn i_Ju_examineArithmetic_41 rfl
noncomputable def r_Ju_examineArithmetic (h : ja_H) (a0 : Nat) : Option (Int32 × ja_H) := (jf_R h a0 5 2 (fun a101 => (jf_I h a101 4 6 (fun v102 => (if v102 = (11 : Int32) then (jk h a0 5 (jc_I (r_Ju_move h a0) (fun v114 h113 => (some (v114, h113))))) else (jf_R h a0 5 3 (fun a103 => (jk h a103 7 (jc_I (r_Va_isPointer h a103) (fun v105 h104 => (if v105 = (0 : Int32) then (jf_R h104 a0 5 4 (fun a106 => (jk h104 a106 7 (jc_I (r_Va_isPointer h104 a106) (fun v108 h107 => (if v108 = (0 : Int32) then (jf_R h107 a0 5 2 (fun a109 => (jf_R h107 a0 5 3 (fun a110 => (jf_R h107 a0 5 4 (fun a111 => (jc_V (r_Nu_reckon h107 a109 a110 a111) (fun h112 => (some ((0 : Int32), h112)))))))))) else (r_Ju_examineArithmetic_37 h107 a0))))))) else (r_Ju_examineArithmetic_37 h104 a0))))))))))))
theorem e_Ju_examineArithmetic {h : ja_H} {a0 : Nat} : ja_D ja_gI M_Ju_examineArithmetic 0 [some (.ref a0)] [] h (r_Ju_examineArithmetic h a0) := by
  unfold r_Ju_examineArithmetic
  refine jd_aload_n i_Ju_examineArithmetic_0 rfl ?_
  refine jd_getR F_Ju_25 i_Ju_examineArithmetic_1 (fun a101 => ?_)
  refine jd_getI F_Ju_167 i_Ju_examineArithmetic_4 (fun v102 => ?_)
  refine jd_bipush 11 i_Ju_examineArithmetic_7 (by decide) ?_
  refine jd_icmp_ne 17 i_Ju_examineArithmetic_9 (by decide) ?_ ?_
  · refine jd_aload_n i_Ju_examineArithmetic_17 rfl ?_
    refine jd_getR F_Ju_32 i_Ju_examineArithmetic_18 (fun a103 => ?_)
    refine jd_callVI G_Ju_171 in_Va_isPointer se_Va_isPointer rfl (fun _ e => c_Va_isPointer e) rfl ⟨by decide, by decide⟩ rfl (Nat.le_of_ble_eq_true rfl) i_Ju_examineArithmetic_21 (fun v105 h104 => ?_)
    refine jd_if_ne 37 i_Ju_examineArithmetic_24 (by decide) ?_ ?_
    · exact jd_less (t_Ju_examineArithmetic_37) ⟨rfl, trivial⟩
    · refine jd_aload_n i_Ju_examineArithmetic_27 rfl ?_
      refine jd_getR F_Ju_36 i_Ju_examineArithmetic_28 (fun a106 => ?_)
      refine jd_callVI G_Ju_171 in_Va_isPointer se_Va_isPointer rfl (fun _ e => c_Va_isPointer e) rfl ⟨by decide, by decide⟩ rfl (Nat.le_of_ble_eq_true rfl) i_Ju_examineArithmetic_31 (fun v108 h107 => ?_)
      refine jd_if_eq 42 i_Ju_examineArithmetic_34 (by decide) ?_ ?_
      · refine jd_aload_n i_Ju_examineArithmetic_42 rfl ?_
        refine jd_getR F_Ju_25 i_Ju_examineArithmetic_43 (fun a109 => ?_)
        refine jd_aload_n i_Ju_examineArithmetic_46 rfl ?_
        refine jd_getR F_Ju_32 i_Ju_examineArithmetic_47 (fun a110 => ?_)
        refine jd_aload_n i_Ju_examineArithmetic_50 rfl ?_
        refine jd_getR F_Ju_36 i_Ju_examineArithmetic_51 (fun a111 => ?_)
        refine jd_callSV G_Ju_177 sc_Nu_reckon (fun _ e => c_Nu_reckon e) rfl ⟨by decide, by decide⟩ rfl (Nat.le_of_ble_eq_true rfl) i_Ju_examineArithmetic_54 (fun h112 => ?_)
        refine jd_iconst 0 i_Ju_examineArithmetic_57 (by decide) ?_
        exact jd_ireturn i_Ju_examineArithmetic_58 rfl
      · exact jd_less (t_Ju_examineArithmetic_37) ⟨rfl, trivial⟩
  · refine jd_aload_n i_Ju_examineArithmetic_12 rfl ?_
    refine jd_callVI G_Ju_168 in_Ju_move se_Ju_move rfl (fun _ e => c_Ju_move e) rfl ⟨by decide, by decide⟩ rfl (Nat.le_of_ble_eq_true rfl) i_Ju_examineArithmetic_13 (fun v114 h113 => ?_)
    exact jd_ireturn i_Ju_examineArithmetic_16 rfl
theorem c_Ju_examineArithmetic {h : ja_H} {a0 : Nat} {o : Int32 × ja_H} (e : r_Ju_examineArithmetic h a0 = some o) : ja_M (4, 107) y_Ju_examineArithmetic b_Ju_examineArithmetic 1 (some .int) [.ref a0] h [.int o.1] o.2 := jc_of (g := ja_gI) false _ e e_Ju_examineArithmetic rfl (by decide +kernel) (fun q => nomatch q) (Nat.le_of_ble_eq_true rfl) (fun _ q => nomatch q) (Nat.le_of_ble_eq_true rfl)
noncomputable def r_St_save (h : ja_H) (a0 : Nat) (a1 : Int32) (a2 : Nat) : Option (ja_H) := (jf_R h a0 6 0 (fun a101 => (jf_I h a2 7 0 (fun v102 => (js_I h a101 a1 v102 (fun h103 => (jf_R h103 a0 6 1 (fun a104 => (jf_L h103 a2 7 1 (fun v105 => (js_L h103 a104 a1 v105 (fun h106 => (jf_R h106 a0 6 2 (fun a107 => (jf_L h106 a2 7 2 (fun v108 => (js_L h106 a107 a1 v108 (fun h109 => (some h109)))))))))))))))))))
theorem e_St_save {h : ja_H} {a0 : Nat} {a1 : Int32} {a2 : Nat} : ja_D ja_gV M_St_save 0 [some (.ref a0), some (.int a1), some (.ref a2)] [] h (r_St_save h a0 a1 a2) := by
  unfold r_St_save
  refine jd_aload_n i_St_save_0 rfl ?_
  refine jd_getR F_St_11 i_St_save_1 (fun a101 => ?_)
  refine jd_iload_n i_St_save_4 rfl ?_
  refine jd_aload_n i_St_save_5 rfl ?_
  refine jd_getI F_St_67 i_St_save_6 (fun v102 => ?_)
  refine jd_iast i_St_save_9 (fun h103 => ?_)
  refine jd_aload_n i_St_save_10 rfl ?_
  refine jd_getR F_St_15 i_St_save_11 (fun a104 => ?_)
  refine jd_iload_n i_St_save_14 rfl ?_
  refine jd_aload_n i_St_save_15 rfl ?_
  refine jd_getL F_St_71 i_St_save_16 (fun v105 => ?_)
  refine jd_last i_St_save_19 (fun h106 => ?_)
  refine jd_aload_n i_St_save_20 rfl ?_
  refine jd_getR F_St_19 i_St_save_21 (fun a107 => ?_)
  refine jd_iload_n i_St_save_24 rfl ?_
  refine jd_aload_n i_St_save_25 rfl ?_
  refine jd_getL F_St_75 i_St_save_26 (fun v108 => ?_)
  refine jd_last i_St_save_29 (fun h109 => ?_)
  exact jd_return i_St_save_30 rfl
theorem c_St_save {h : ja_H} {a0 : Nat} {a1 : Int32} {a2 : Nat} {o : ja_H} (e : r_St_save h a0 a1 a2 = some o) : ja_M (0, 0) y_St_save b_St_save 3 (none) [.ref a0, .int a1, .ref a2] h [] o := jc_of (g := ja_gV) false _ e e_St_save rfl (by decide +kernel) (fun q => nomatch q) (Nat.le_of_ble_eq_true rfl) (fun _ q => nomatch q) (Nat.le_of_ble_eq_true rfl)
noncomputable def r_Va_leaveOut_62 (h : ja_H) : Option (Int32 × ja_H) := (jb (1 : Int32) (some ((1 : Int32), h)))
theorem t_Va_leaveOut_62 {h : ja_H} : ja_D ja_gI M_Va_leaveOut 62 [none, none, none] [] h (r_Va_leaveOut_62 h) := by
  unfold r_Va_leaveOut_62
  refine jd_iconst 1 i_Va_leaveOut_62 (by decide) ?_
  exact jd_zreturn i_Va_leaveOut_63 rfl
noncomputable def r_Va_leaveOut_26 (h : ja_H) (z0 : Int32) : Option (Int32 × ja_H) := (jb z0 (some (z0, h)))
theorem t_Va_leaveOut_26 {h : ja_H} {z0 : Int32} : ja_D ja_gI M_Va_leaveOut 26 [none, none, none] [.int z0] h (r_Va_leaveOut_26 h z0) := by
  unfold r_Va_leaveOut_26
  exact jd_zreturn i_Va_leaveOut_26 rfl
noncomputable def r_Va_leaveOut (h : ja_H) (a0 : Nat) (a1 : Int64) : Option (Int32 × ja_H) := (jf_L h a0 7 1 (fun v101 => (jf_L h a0 7 2 (fun v102 => (if v101 = v102 then (jf_L h a0 7 1 (fun v107 => (if v107 = a1 then (r_Va_leaveOut_26 h (0 : Int32)) else (r_Va_leaveOut_26 h (1 : Int32))))) else (jf_L h a0 7 1 (fun v103 => (if v103 = a1 then (jp_L h a0 7 1 (a1 + (1 : Int64)) (fun h106 => (r_Va_leaveOut_62 h106))) else (jf_L h a0 7 2 (fun v104 => (if v104 = a1 then (jp_L h a0 7 2 (a1 - (1 : Int64)) (fun h105 => (r_Va_leaveOut_62 h105))) else (r_Va_leaveOut_62 h))))))))))))
theorem e_Va_leaveOut {h : ja_H} {a0 : Nat} {a1 : Int64} : ja_D ja_gI M_Va_leaveOut 0 [some (.ref a0), some (.long a1), none] [] h (r_Va_leaveOut h a0 a1) := by
  unfold r_Va_leaveOut
  refine jd_aload_n i_Va_leaveOut_0 rfl ?_
  refine jd_getL F_Va_15 i_Va_leaveOut_1 (fun v101 => ?_)
  refine jd_aload_n i_Va_leaveOut_4 rfl ?_
  refine jd_getL F_Va_19 i_Va_leaveOut_5 (fun v102 => ?_)
  refine jd_lcmp_ne 27 i_Va_leaveOut_8 i_Va_leaveOut_9 (by decide) ?_ ?_
  · refine jd_aload_n i_Va_leaveOut_27 rfl ?_
    refine jd_getL F_Va_15 i_Va_leaveOut_28 (fun v103 => ?_)
    refine jd_lload_n i_Va_leaveOut_31 rfl ?_
    refine jd_lcmp_ne 46 i_Va_leaveOut_32 i_Va_leaveOut_33 (by decide) ?_ ?_
    · refine jd_aload_n i_Va_leaveOut_46 rfl ?_
      refine jd_getL F_Va_19 i_Va_leaveOut_47 (fun v104 => ?_)
      refine jd_lload_n i_Va_leaveOut_50 rfl ?_
      refine jd_lcmp_ne 62 i_Va_leaveOut_51 i_Va_leaveOut_52 (by decide) ?_ ?_
      · exact jd_less (t_Va_leaveOut_62) trivial
      · refine jd_aload_n i_Va_leaveOut_55 rfl ?_
        refine jd_lload_n i_Va_leaveOut_56 rfl ?_
        refine jd_lconst 1 i_Va_leaveOut_57 (by decide) ?_
        refine jd_lsub i_Va_leaveOut_58 ?_
        refine jd_putL F_Va_19 P_Va_high i_Va_leaveOut_59 (fun h105 => ?_)
        exact jd_less (t_Va_leaveOut_62) trivial
    · refine jd_aload_n i_Va_leaveOut_36 rfl ?_
      refine jd_lload_n i_Va_leaveOut_37 rfl ?_
      refine jd_lconst 1 i_Va_leaveOut_38 (by decide) ?_
      refine jd_ladd i_Va_leaveOut_39 ?_
      refine jd_putL F_Va_15 P_Va_low i_Va_leaveOut_40 (fun h106 => ?_)
      refine jd_goto 62 i_Va_leaveOut_43 (by decide) ?_
      exact jd_less (t_Va_leaveOut_62) trivial
  · refine jd_aload_n i_Va_leaveOut_12 rfl ?_
    refine jd_getL F_Va_15 i_Va_leaveOut_13 (fun v107 => ?_)
    refine jd_lload_n i_Va_leaveOut_16 rfl ?_
    refine jd_lcmp_eq 25 i_Va_leaveOut_17 i_Va_leaveOut_18 (by decide) ?_ ?_
    · refine jd_iconst 0 i_Va_leaveOut_25 (by decide) ?_
      exact jd_less (t_Va_leaveOut_26) trivial
    · refine jd_iconst 1 i_Va_leaveOut_21 (by decide) ?_
      refine jd_goto 26 i_Va_leaveOut_22 (by decide) ?_
      exact jd_less (t_Va_leaveOut_26) trivial
theorem c_Va_leaveOut {h : ja_H} {a0 : Nat} {a1 : Int64} {o : Int32 × ja_H} (e : r_Va_leaveOut h a0 a1 = some o) : ja_M (0, 0) y_Va_leaveOut b_Va_leaveOut 3 (some .boolean) [.ref a0, .long a1] h [.int o.1] o.2 := jc_of (g := ja_gI) false _ e e_Va_leaveOut rfl (by decide +kernel) (fun q => nomatch q) (Nat.le_of_ble_eq_true rfl) (fun _ q => nomatch q) (Nat.le_of_ble_eq_true rfl)
noncomputable def r_Va_narrowSigned_157 (h : ja_H) (z0 : Int32) : Option (Int32 × ja_H) := (jb z0 (some (z0, h)))
theorem t_Va_narrowSigned_157 {h : ja_H} {z0 : Int32} : ja_D ja_gI M_Va_narrowSigned 157 [none, none, none, none] [.int z0] h (r_Va_narrowSigned_157 h z0) := by
  unfold r_Va_narrowSigned_157
  exact jd_zreturn i_Va_narrowSigned_157 rfl
noncomputable def r_Va_narrowSigned_140 (h : ja_H) (y0 : Nat) : Option (Int32 × ja_H) := (jf_L h y0 7 1 (fun v1 => (jf_L h y0 7 2 (fun v2 => (if v2 < v1 then (r_Va_narrowSigned_157 h (0 : Int32)) else (r_Va_narrowSigned_157 h (1 : Int32)))))))
theorem t_Va_narrowSigned_140 {h : ja_H} {y0 : Nat} : ja_D ja_gI M_Va_narrowSigned 140 [some (.ref y0), none, none, none] [] h (r_Va_narrowSigned_140 h y0) := by
  unfold r_Va_narrowSigned_140
  refine jd_aload_n i_Va_narrowSigned_140 rfl ?_
  refine jd_getL F_Va_15 i_Va_narrowSigned_141 (fun v1 => ?_)
  refine jd_aload_n i_Va_narrowSigned_144 rfl ?_
  refine jd_getL F_Va_19 i_Va_narrowSigned_145 (fun v2 => ?_)
  refine jd_lcmp_gt 156 i_Va_narrowSigned_148 i_Va_narrowSigned_149 (by decide) ?_ ?_
  · refine jd_iconst 0 i_Va_narrowSigned_156 (by decide) ?_
    exact jd_less (t_Va_narrowSigned_157) trivial
  · refine jd_iconst 1 i_Va_narrowSigned_152 (by decide) ?_
    refine jd_goto 157 i_Va_narrowSigned_153 (by decide) ?_
    exact jd_less (t_Va_narrowSigned_157) trivial
noncomputable def r_Va_narrowSigned_30 (h : ja_H) (y0 : Nat) (y1 : Int32) (y2 : Int64) : Option (Int32 × ja_H) := (jsw y1 [6, 7, 8, 9, 10, 11, 12, 13] [(jf_L h y0 7 1 (fun v1 => (jc_L (r_Mt_max_J h v1 (y2 + (1 : Int64))) (fun v3 h2 => (jp_L h2 y0 7 1 v3 (fun h4 => (r_Va_narrowSigned_140 h4 y0))))))), (jf_L h y0 7 1 (fun v5 => (jc_L (r_Mt_max_J h v5 y2) (fun v7 h6 => (jp_L h6 y0 7 1 v7 (fun h8 => (r_Va_narrowSigned_140 h8 y0))))))), (r_Va_narrowSigned_140 h y0), (r_Va_narrowSigned_140 h y0), (r_Va_narrowSigned_140 h y0), (r_Va_narrowSigned_140 h y0), (jf_L h y0 7 2 (fun v9 => (jc_L (r_Mt_min_J h v9 (y2 - (1 : Int64))) (fun v11 h10 => (jp_L h10 y0 7 2 v11 (fun h12 => (r_Va_narrowSigned_140 h12 y0))))))), (jf_L h y0 7 2 (fun v13 => (jc_L (r_Mt_min_J h v13 y2) (fun v15 h14 => (jp_L h14 y0 7 2 v15 (fun h16 => (r_Va_narrowSigned_140 h16 y0)))))))] (r_Va_narrowSigned_140 h y0))
theorem t_Va_narrowSigned_30 {h : ja_H} {y0 : Nat} {y1 : Int32} {y2 : Int64} : ja_D ja_gI M_Va_narrowSigned 30 [some (.ref y0), some (.int y1), some (.long y2), none] [] h (r_Va_narrowSigned_30 h y0 y1 y2) := by
  unfold r_Va_narrowSigned_30
  refine jd_iload_n i_Va_narrowSigned_30 rfl ?_
  refine jd_ts 140 [6, 7, 8, 9, 10, 11, 12, 13] [108, 125, 140, 140, 140, 140, 76, 93] i_Va_narrowSigned_31 rfl (by decide) (by decide) (by decide) ?_ ⟨?_, ?_, ?_, ?_, ?_, ?_, ?_, ?_, trivial⟩
  · exact jd_less (t_Va_narrowSigned_140) ⟨rfl, trivial⟩
  · refine jd_aload_n i_Va_narrowSigned_108 rfl ?_
    refine jd_aload_n i_Va_narrowSigned_109 rfl ?_
    refine jd_getL F_Va_15 i_Va_narrowSigned_110 (fun v1 => ?_)
    refine jd_lload_n i_Va_narrowSigned_113 rfl ?_
    refine jd_lconst 1 i_Va_narrowSigned_114 (by decide) ?_
    refine jd_ladd i_Va_narrowSigned_115 ?_
    refine jd_callSL G_Va_26 sc_Mt_max_J (fun _ e => c_Mt_max_J e) rfl ⟨by decide, by decide⟩ rfl (Nat.le_of_ble_eq_true rfl) i_Va_narrowSigned_116 (fun v3 h2 => ?_)
    refine jd_putL F_Va_15 P_Va_low i_Va_narrowSigned_119 (fun h4 => ?_)
    refine jd_goto 140 i_Va_narrowSigned_122 (by decide) ?_
    exact jd_less (t_Va_narrowSigned_140) ⟨rfl, trivial⟩
  · refine jd_aload_n i_Va_narrowSigned_125 rfl ?_
    refine jd_aload_n i_Va_narrowSigned_126 rfl ?_
    refine jd_getL F_Va_15 i_Va_narrowSigned_127 (fun v5 => ?_)
    refine jd_lload_n i_Va_narrowSigned_130 rfl ?_
    refine jd_callSL G_Va_26 sc_Mt_max_J (fun _ e => c_Mt_max_J e) rfl ⟨by decide, by decide⟩ rfl (Nat.le_of_ble_eq_true rfl) i_Va_narrowSigned_131 (fun v7 h6 => ?_)
    refine jd_putL F_Va_15 P_Va_low i_Va_narrowSigned_134 (fun h8 => ?_)
    refine jd_goto 140 i_Va_narrowSigned_137 (by decide) ?_
    exact jd_less (t_Va_narrowSigned_140) ⟨rfl, trivial⟩
  · exact jd_less (t_Va_narrowSigned_140) ⟨rfl, trivial⟩
  · exact jd_less (t_Va_narrowSigned_140) ⟨rfl, trivial⟩
  · exact jd_less (t_Va_narrowSigned_140) ⟨rfl, trivial⟩
  · exact jd_less (t_Va_narrowSigned_140) ⟨rfl, trivial⟩
  · refine jd_aload_n i_Va_narrowSigned_76 rfl ?_
    refine jd_aload_n i_Va_narrowSigned_77 rfl ?_
    refine jd_getL F_Va_19 i_Va_narrowSigned_78 (fun v9 => ?_)
    refine jd_lload_n i_Va_narrowSigned_81 rfl ?_
    refine jd_lconst 1 i_Va_narrowSigned_82 (by decide) ?_
    refine jd_lsub i_Va_narrowSigned_83 ?_
    refine jd_callSL G_Va_32 sc_Mt_min_J (fun _ e => c_Mt_min_J e) rfl ⟨by decide, by decide⟩ rfl (Nat.le_of_ble_eq_true rfl) i_Va_narrowSigned_84 (fun v11 h10 => ?_)
    refine jd_putL F_Va_19 P_Va_high i_Va_narrowSigned_87 (fun h12 => ?_)
    refine jd_goto 140 i_Va_narrowSigned_90 (by decide) ?_
    exact jd_less (t_Va_narrowSigned_140) ⟨rfl, trivial⟩
  · refine jd_aload_n i_Va_narrowSigned_93 rfl ?_
    refine jd_aload_n i_Va_narrowSigned_94 rfl ?_
    refine jd_getL F_Va_19 i_Va_narrowSigned_95 (fun v13 => ?_)
    refine jd_lload_n i_Va_narrowSigned_98 rfl ?_
    refine jd_callSL G_Va_32 sc_Mt_min_J (fun _ e => c_Mt_min_J e) rfl ⟨by decide, by decide⟩ rfl (Nat.le_of_ble_eq_true rfl) i_Va_narrowSigned_99 (fun v15 h14 => ?_)
    refine jd_putL F_Va_19 P_Va_high i_Va_narrowSigned_102 (fun h16 => ?_)
    refine jd_goto 140 i_Va_narrowSigned_105 (by decide) ?_
    exact jd_less (t_Va_narrowSigned_140) ⟨rfl, trivial⟩
noncomputable def r_Va_narrowSigned_28 (h : ja_H) : Option (Int32 × ja_H) := (jb (0 : Int32) (some ((0 : Int32), h)))
theorem t_Va_narrowSigned_28 {h : ja_H} : ja_D ja_gI M_Va_narrowSigned 28 [none, none, none, none] [] h (r_Va_narrowSigned_28 h) := by
  unfold r_Va_narrowSigned_28
  refine jd_iconst 0 i_Va_narrowSigned_28 (by decide) ?_
  exact jd_zreturn i_Va_narrowSigned_29 rfl
noncomputable def r_Va_narrowSigned_14 (h : ja_H) (y0 : Nat) (y1 : Int32) (y2 : Int64) : Option (Int32 × ja_H) := (if y1 = (6 : Int32) then (if y2 = (9223372036854775807 : Int64) then (r_Va_narrowSigned_28 h) else (r_Va_narrowSigned_30 h y0 y1 y2)) else (r_Va_narrowSigned_30 h y0 y1 y2))
theorem t_Va_narrowSigned_14 {h : ja_H} {y0 : Nat} {y1 : Int32} {y2 : Int64} : ja_D ja_gI M_Va_narrowSigned 14 [some (.ref y0), some (.int y1), some (.long y2), none] [] h (r_Va_narrowSigned_14 h y0 y1 y2) := by
  unfold r_Va_narrowSigned_14
  refine jd_iload_n i_Va_narrowSigned_14 rfl ?_
  refine jd_bipush 6 i_Va_narrowSigned_15 (by decide) ?_
  refine jd_icmp_ne 30 i_Va_narrowSigned_17 (by decide) ?_ ?_
  · exact jd_less (t_Va_narrowSigned_30) ⟨rfl, rfl, rfl, trivial⟩
  · refine jd_lload_n i_Va_narrowSigned_20 rfl ?_
    refine jd_ldc2 i_Va_narrowSigned_21 K_Va_24 ?_
    refine jd_lcmp_ne 30 i_Va_narrowSigned_24 i_Va_narrowSigned_25 (by decide) ?_ ?_
    · exact jd_less (t_Va_narrowSigned_30) ⟨rfl, rfl, rfl, trivial⟩
    · exact jd_less (t_Va_narrowSigned_28) trivial
noncomputable def r_Va_narrowSigned (h : ja_H) (a0 : Nat) (a1 : Int32) (a2 : Int64) : Option (Int32 × ja_H) := (if a1 = (12 : Int32) then (if a2 = (-9223372036854775808 : Int64) then (r_Va_narrowSigned_28 h) else (r_Va_narrowSigned_14 h a0 a1 a2)) else (r_Va_narrowSigned_14 h a0 a1 a2))
theorem e_Va_narrowSigned {h : ja_H} {a0 : Nat} {a1 : Int32} {a2 : Int64} : ja_D ja_gI M_Va_narrowSigned 0 [some (.ref a0), some (.int a1), some (.long a2), none] [] h (r_Va_narrowSigned h a0 a1 a2) := by
  unfold r_Va_narrowSigned
  refine jd_iload_n i_Va_narrowSigned_0 rfl ?_
  refine jd_bipush 12 i_Va_narrowSigned_1 (by decide) ?_
  refine jd_icmp_ne 14 i_Va_narrowSigned_3 (by decide) ?_ ?_
  · exact jd_less (t_Va_narrowSigned_14) ⟨rfl, rfl, rfl, trivial⟩
  · refine jd_lload_n i_Va_narrowSigned_6 rfl ?_
    refine jd_ldc2 i_Va_narrowSigned_7 K_Va_22 ?_
    refine jd_lcmp_eq 28 i_Va_narrowSigned_10 i_Va_narrowSigned_11 (by decide) ?_ ?_
    · exact jd_less (t_Va_narrowSigned_28) trivial
    · exact jd_less (t_Va_narrowSigned_14) ⟨rfl, rfl, rfl, trivial⟩
theorem c_Va_narrowSigned {h : ja_H} {a0 : Nat} {a1 : Int32} {a2 : Int64} {o : Int32 × ja_H} (e : r_Va_narrowSigned h a0 a1 a2 = some o) : ja_M (1, 23) y_Va_narrowSigned b_Va_narrowSigned 4 (some .boolean) [.ref a0, .int a1, .long a2] h [.int o.1] o.2 := jc_of (g := ja_gI) false _ e e_Va_narrowSigned rfl (by decide +kernel) (fun q => nomatch q) (Nat.le_of_ble_eq_true rfl) (fun _ q => nomatch q) (Nat.le_of_ble_eq_true rfl)
noncomputable def r_Va_narrow_197 (h : ja_H) (z0 : Int32) : Option (Int32 × ja_H) := (jb z0 (some (z0, h)))
theorem t_Va_narrow_197 {h : ja_H} {z0 : Int32} : ja_D ja_gI M_Va_narrow 197 [none, none, none, none] [.int z0] h (r_Va_narrow_197 h z0) := by
  unfold r_Va_narrow_197
  exact jd_zreturn i_Va_narrow_197 rfl
noncomputable def r_Va_narrow_173 (h : ja_H) (y0 : Nat) (y1 : Int32) (y2 : Int64) : Option (Int32 × ja_H) := (jk h y0 7 (jc_I (r_Va_narrowSigned h y0 y1 y2) (fun v2 h1 => (jb v2 (some (v2, h1))))))
theorem t_Va_narrow_173 {h : ja_H} {y0 : Nat} {y1 : Int32} {y2 : Int64} : ja_D ja_gI M_Va_narrow 173 [some (.ref y0), some (.int y1), some (.long y2), none] [] h (r_Va_narrow_173 h y0 y1 y2) := by
  unfold r_Va_narrow_173
  refine jd_aload_n i_Va_narrow_173 rfl ?_
  refine jd_iload_n i_Va_narrow_174 rfl ?_
  refine jd_lload_n i_Va_narrow_175 rfl ?_
  refine jd_callVI G_Va_39 in_Va_narrowSigned se_Va_narrowSigned rfl (fun _ e => c_Va_narrowSigned e) rfl ⟨by decide, by decide⟩ rfl (Nat.le_of_ble_eq_true rfl) i_Va_narrow_176 (fun v2 h1 => ?_)
  exact jd_zreturn i_Va_narrow_179 rfl
noncomputable def r_Va_narrow_168 (h : ja_H) (y2 : Int64) (z0 : Int32) (z1 : Nat) : Option (Int32 × ja_H) := (jk h z1 7 (jc_I (r_Va_narrowSigned h z1 z0 y2) (fun v2 h1 => (jb v2 (some (v2, h1))))))
theorem t_Va_narrow_168 {h : ja_H} {y2 : Int64} {z0 : Int32} {z1 : Nat} : ja_D ja_gI M_Va_narrow 168 [none, none, some (.long y2), none] [.int z0, .ref z1] h (r_Va_narrow_168 h y2 z0 z1) := by
  unfold r_Va_narrow_168
  refine jd_lload_n i_Va_narrow_168 rfl ?_
  refine jd_callVI G_Va_39 in_Va_narrowSigned se_Va_narrowSigned rfl (fun _ e => c_Va_narrowSigned e) rfl ⟨by decide, by decide⟩ rfl (Nat.le_of_ble_eq_true rfl) i_Va_narrow_169 (fun v2 h1 => ?_)
  exact jd_zreturn i_Va_narrow_172 rfl
noncomputable def r_Va_narrow_134 (h : ja_H) (y0 : Nat) (y1 : Int32) (y2 : Int64) : Option (Int32 × ja_H) := (if (0 : Int64) ≤ y2 then (jf_L h y0 7 1 (fun v1 => (jc_L (r_Mt_max_J h v1 (0 : Int64)) (fun v3 h2 => (jp_L h2 y0 7 1 v3 (fun h4 => (if y1 = (10 : Int32) then (r_Va_narrow_168 h4 y2 (12 : Int32) y0) else (r_Va_narrow_168 h4 y2 (13 : Int32) y0)))))))) else (jb (1 : Int32) (some ((1 : Int32), h))))
theorem t_Va_narrow_134 {h : ja_H} {y0 : Nat} {y1 : Int32} {y2 : Int64} : ja_D ja_gI M_Va_narrow 134 [some (.ref y0), some (.int y1), some (.long y2), none] [] h (r_Va_narrow_134 h y0 y1 y2) := by
  unfold r_Va_narrow_134
  refine jd_lload_n i_Va_narrow_134 rfl ?_
  refine jd_lconst 0 i_Va_narrow_135 (by decide) ?_
  refine jd_lcmp_ge 142 i_Va_narrow_136 i_Va_narrow_137 (by decide) ?_ ?_
  · refine jd_aload_n i_Va_narrow_142 rfl ?_
    refine jd_aload_n i_Va_narrow_143 rfl ?_
    refine jd_getL F_Va_15 i_Va_narrow_144 (fun v1 => ?_)
    refine jd_lconst 0 i_Va_narrow_147 (by decide) ?_
    refine jd_callSL G_Va_26 sc_Mt_max_J (fun _ e => c_Mt_max_J e) rfl ⟨by decide, by decide⟩ rfl (Nat.le_of_ble_eq_true rfl) i_Va_narrow_148 (fun v3 h2 => ?_)
    refine jd_putL F_Va_15 P_Va_low i_Va_narrow_151 (fun h4 => ?_)
    refine jd_aload_n i_Va_narrow_154 rfl ?_
    refine jd_iload_n i_Va_narrow_155 rfl ?_
    refine jd_bipush 10 i_Va_narrow_156 (by decide) ?_
    refine jd_icmp_ne 166 i_Va_narrow_158 (by decide) ?_ ?_
    · refine jd_bipush 13 i_Va_narrow_166 (by decide) ?_
      exact jd_less (t_Va_narrow_168) ⟨rfl, trivial⟩
    · refine jd_bipush 12 i_Va_narrow_161 (by decide) ?_
      refine jd_goto 168 i_Va_narrow_163 (by decide) ?_
      exact jd_less (t_Va_narrow_168) ⟨rfl, trivial⟩
  · refine jd_iconst 1 i_Va_narrow_140 (by decide) ?_
    exact jd_zreturn i_Va_narrow_141 rfl
noncomputable def r_Va_narrow_133 (h : ja_H) (z0 : Int32) : Option (Int32 × ja_H) := (jb z0 (some (z0, h)))
theorem t_Va_narrow_133 {h : ja_H} {z0 : Int32} : ja_D ja_gI M_Va_narrow 133 [none, none, none, none] [.int z0] h (r_Va_narrow_133 h z0) := by
  unfold r_Va_narrow_133
  exact jd_zreturn i_Va_narrow_133 rfl
noncomputable def r_Va_narrow_128 (h : ja_H) : Option (Int32 × ja_H) := (r_Va_narrow_133 h (1 : Int32))
theorem t_Va_narrow_128 {h : ja_H} : ja_D ja_gI M_Va_narrow 128 [none, none, none, none] [] h (r_Va_narrow_128 h) := by
  unfold r_Va_narrow_128
  refine jd_iconst 1 i_Va_narrow_128 (by decide) ?_
  refine jd_goto 133 i_Va_narrow_129 (by decide) ?_
  exact jd_less (t_Va_narrow_133) trivial
noncomputable def r_Va_narrow_121 (h : ja_H) (y2 : Int64) (z0 : Int32) (z1 : Nat) : Option (Int32 × ja_H) := (jk h z1 7 (jc_I (r_Va_narrowSigned h z1 z0 y2) (fun v2 h1 => (if v2 = (0 : Int32) then (r_Va_narrow_133 h1 (0 : Int32)) else (r_Va_narrow_128 h1)))))
theorem t_Va_narrow_121 {h : ja_H} {y2 : Int64} {z0 : Int32} {z1 : Nat} : ja_D ja_gI M_Va_narrow 121 [none, none, some (.long y2), none] [.int z0, .ref z1] h (r_Va_narrow_121 h y2 z0 z1) := by
  unfold r_Va_narrow_121
  refine jd_lload_n i_Va_narrow_121 rfl ?_
  refine jd_callVI G_Va_39 in_Va_narrowSigned se_Va_narrowSigned rfl (fun _ e => c_Va_narrowSigned e) rfl ⟨by decide, by decide⟩ rfl (Nat.le_of_ble_eq_true rfl) i_Va_narrow_122 (fun v2 h1 => ?_)
  refine jd_if_eq 132 i_Va_narrow_125 (by decide) ?_ ?_
  · refine jd_iconst 0 i_Va_narrow_132 (by decide) ?_
    exact jd_less (t_Va_narrow_133) trivial
  · exact jd_less (t_Va_narrow_128) trivial
noncomputable def r_Va_narrow_93 (h : ja_H) (y0 : Nat) (y1 : Int32) (y2 : Int64) : Option (Int32 × ja_H) := (jf_L h y0 7 1 (fun v1 => (if v1 < (0 : Int64) then (r_Va_narrow_128 h) else (if y2 < (0 : Int64) then (r_Va_narrow_128 h) else (if y1 = (2 : Int32) then (r_Va_narrow_121 h y2 (6 : Int32) y0) else (r_Va_narrow_121 h y2 (7 : Int32) y0))))))
theorem t_Va_narrow_93 {h : ja_H} {y0 : Nat} {y1 : Int32} {y2 : Int64} : ja_D ja_gI M_Va_narrow 93 [some (.ref y0), some (.int y1), some (.long y2), none] [] h (r_Va_narrow_93 h y0 y1 y2) := by
  unfold r_Va_narrow_93
  refine jd_aload_n i_Va_narrow_93 rfl ?_
  refine jd_getL F_Va_15 i_Va_narrow_94 (fun v1 => ?_)
  refine jd_lconst 0 i_Va_narrow_97 (by decide) ?_
  refine jd_lcmp_lt 128 i_Va_narrow_98 i_Va_narrow_99 (by decide) ?_ ?_
  · exact jd_less (t_Va_narrow_128) trivial
  · refine jd_lload_n i_Va_narrow_102 rfl ?_
    refine jd_lconst 0 i_Va_narrow_103 (by decide) ?_
    refine jd_lcmp_lt 128 i_Va_narrow_104 i_Va_narrow_105 (by decide) ?_ ?_
    · exact jd_less (t_Va_narrow_128) trivial
    · refine jd_aload_n i_Va_narrow_108 rfl ?_
      refine jd_iload_n i_Va_narrow_109 rfl ?_
      refine jd_iconst 2 i_Va_narrow_110 (by decide) ?_
      refine jd_icmp_ne 119 i_Va_narrow_111 (by decide) ?_ ?_
      · refine jd_bipush 7 i_Va_narrow_119 (by decide) ?_
        exact jd_less (t_Va_narrow_121) ⟨rfl, trivial⟩
      · refine jd_bipush 6 i_Va_narrow_114 (by decide) ?_
        refine jd_goto 121 i_Va_narrow_116 (by decide) ?_
        exact jd_less (t_Va_narrow_121) ⟨rfl, trivial⟩
noncomputable def r_Va_narrow (h : ja_H) (a0 : Nat) (a1 : Int32) (a2 : Int64) : Option (Int32 × ja_H) := (jsw a1 [1, 2, 3, 4, 5, 6, 7, 8, 9, 10, 11] [(jf_L h a0 7 1 (fun v101 => (jc_L (r_Mt_max_J h v101 a2) (fun v103 h102 => (jp_L h102 a0 7 1 v103 (fun h104 => (jf_L h104 a0 7 2 (fun v105 => (jc_L (r_Mt_min_J h104 v105 a2) (fun v107 h106 => (jp_L h106 a0 7 2 v107 (fun h108 => (jf_L h108 a0 7 1 (fun v109 => (jf_L h108 a0 7 2 (fun v110 => (if v110 < v109 then (r_Va_narrow_197 h108 (0 : Int32)) else (r_Va_narrow_197 h108 (1 : Int32))))))))))))))))))), (r_Va_narrow_93 h a0 a1 a2), (r_Va_narrow_93 h a0 a1 a2), (r_Va_narrow_173 h a0 a1 a2), (jk h a0 7 (jc_I (r_Va_leaveOut h a0 a2) (fun v112 h111 => (jb v112 (some (v112, h111)))))), (r_Va_narrow_173 h a0 a1 a2), (r_Va_narrow_173 h a0 a1 a2), (r_Va_narrow_173 h a0 a1 a2), (r_Va_narrow_173 h a0 a1 a2), (r_Va_narrow_134 h a0 a1 a2), (r_Va_narrow_134 h a0 a1 a2)] (r_Va_narrow_173 h a0 a1 a2))
theorem e_Va_narrow {h : ja_H} {a0 : Nat} {a1 : Int32} {a2 : Int64} : ja_D ja_gI M_Va_narrow 0 [some (.ref a0), some (.int a1), some (.long a2), none] [] h (r_Va_narrow h a0 a1 a2) := by
  unfold r_Va_narrow
  refine jd_iload_n i_Va_narrow_0 rfl ?_
  refine jd_ts 173 [1, 2, 3, 4, 5, 6, 7, 8, 9, 10, 11] [60, 93, 93, 173, 87, 173, 173, 173, 173, 134, 134] i_Va_narrow_1 rfl (by decide) (by decide) (by decide) ?_ ⟨?_, ?_, ?_, ?_, ?_, ?_, ?_, ?_, ?_, ?_, ?_, trivial⟩
  · exact jd_less (t_Va_narrow_173) ⟨rfl, rfl, rfl, trivial⟩
  · refine jd_aload_n i_Va_narrow_60 rfl ?_
    refine jd_aload_n i_Va_narrow_61 rfl ?_
    refine jd_getL F_Va_15 i_Va_narrow_62 (fun v101 => ?_)
    refine jd_lload_n i_Va_narrow_65 rfl ?_
    refine jd_callSL G_Va_26 sc_Mt_max_J (fun _ e => c_Mt_max_J e) rfl ⟨by decide, by decide⟩ rfl (Nat.le_of_ble_eq_true rfl) i_Va_narrow_66 (fun v103 h102 => ?_)
    refine jd_putL F_Va_15 P_Va_low i_Va_narrow_69 (fun h104 => ?_)
    refine jd_aload_n i_Va_narrow_72 rfl ?_
    refine jd_aload_n i_Va_narrow_73 rfl ?_
    refine jd_getL F_Va_19 i_Va_narrow_74 (fun v105 => ?_)
    refine jd_lload_n i_Va_narrow_77 rfl ?_
    refine jd_callSL G_Va_32 sc_Mt_min_J (fun _ e => c_Mt_min_J e) rfl ⟨by decide, by decide⟩ rfl (Nat.le_of_ble_eq_true rfl) i_Va_narrow_78 (fun v107 h106 => ?_)
    refine jd_putL F_Va_19 P_Va_high i_Va_narrow_81 (fun h108 => ?_)
    refine jd_goto 180 i_Va_narrow_84 (by decide) ?_
    refine jd_aload_n i_Va_narrow_180 rfl ?_
    refine jd_getL F_Va_15 i_Va_narrow_181 (fun v109 => ?_)
    refine jd_aload_n i_Va_narrow_184 rfl ?_
    refine jd_getL F_Va_19 i_Va_narrow_185 (fun v110 => ?_)
    refine jd_lcmp_gt 196 i_Va_narrow_188 i_Va_narrow_189 (by decide) ?_ ?_
    · refine jd_iconst 0 i_Va_narrow_196 (by decide) ?_
      exact jd_less (t_Va_narrow_197) trivial
    · refine jd_iconst 1 i_Va_narrow_192 (by decide) ?_
      refine jd_goto 197 i_Va_narrow_193 (by decide) ?_
      exact jd_less (t_Va_narrow_197) trivial
  · exact jd_less (t_Va_narrow_93) ⟨rfl, rfl, rfl, trivial⟩
  · exact jd_less (t_Va_narrow_93) ⟨rfl, rfl, rfl, trivial⟩
  · exact jd_less (t_Va_narrow_173) ⟨rfl, rfl, rfl, trivial⟩
  · refine jd_aload_n i_Va_narrow_87 rfl ?_
    refine jd_lload_n i_Va_narrow_88 rfl ?_
    refine jd_callVI G_Va_35 in_Va_leaveOut se_Va_leaveOut rfl (fun _ e => c_Va_leaveOut e) rfl ⟨by decide, by decide⟩ rfl (Nat.le_of_ble_eq_true rfl) i_Va_narrow_89 (fun v112 h111 => ?_)
    exact jd_zreturn i_Va_narrow_92 rfl
  · exact jd_less (t_Va_narrow_173) ⟨rfl, rfl, rfl, trivial⟩
  · exact jd_less (t_Va_narrow_173) ⟨rfl, rfl, rfl, trivial⟩
  · exact jd_less (t_Va_narrow_173) ⟨rfl, rfl, rfl, trivial⟩
  · exact jd_less (t_Va_narrow_173) ⟨rfl, rfl, rfl, trivial⟩
  · exact jd_less (t_Va_narrow_134) ⟨rfl, rfl, rfl, trivial⟩
  · exact jd_less (t_Va_narrow_134) ⟨rfl, rfl, rfl, trivial⟩
theorem c_Va_narrow {h : ja_H} {a0 : Nat} {a1 : Int32} {a2 : Int64} {o : Int32 × ja_H} (e : r_Va_narrow h a0 a1 a2 = some o) : ja_M (2, 46) y_Va_narrow b_Va_narrow 4 (some .boolean) [.ref a0, .int a1, .long a2] h [.int o.1] o.2 := jc_of (g := ja_gI) false _ e e_Va_narrow rfl (by decide +kernel) (fun q => nomatch q) (Nat.le_of_ble_eq_true rfl) (fun _ q => nomatch q) (Nat.le_of_ble_eq_true rfl)
noncomputable def r_Ju_narrowD_87 (h : ja_H) (y0 : Nat) : Option (Int32 × ja_H) := (jf_R h y0 5 1 (fun a1 => (jf_R h y0 5 2 (fun a2 => (jf_I h a2 4 1 (fun v3 => (jf_R h y0 5 5 (fun a4 => (jk h a1 6 (jc_V (r_St_save h a1 v3 a4) (fun h5 => (jb (1 : Int32) (some ((1 : Int32), h5))))))))))))))
theorem t_Ju_narrowD_87 {h : ja_H} {y0 : Nat} : ja_D ja_gI M_Ju_narrowD 87 [some (.ref y0), none, none] [] h (r_Ju_narrowD_87 h y0) := by
  unfold r_Ju_narrowD_87
  refine jd_aload_n i_Ju_narrowD_87 rfl ?_
  refine jd_getR F_Ju_18 i_Ju_narrowD_88 (fun a1 => ?_)
  refine jd_aload_n i_Ju_narrowD_91 rfl ?_
  refine jd_getR F_Ju_25 i_Ju_narrowD_92 (fun a2 => ?_)
  refine jd_getI F_Ju_108 i_Ju_narrowD_95 (fun v3 => ?_)
  refine jd_aload_n i_Ju_narrowD_98 rfl ?_
  refine jd_getR F_Ju_39 i_Ju_narrowD_99 (fun a4 => ?_)
  refine jd_callVV G_Ju_152 in_St_save se_St_save rfl (fun _ e => c_St_save e) rfl ⟨by decide, by decide⟩ rfl (Nat.le_of_ble_eq_true rfl) i_Ju_narrowD_102 (fun h5 => ?_)
  refine jd_iconst 1 i_Ju_narrowD_105 (by decide) ?_
  exact jd_zreturn i_Ju_narrowD_106 rfl
noncomputable def r_Ju_narrowD_62 (h : ja_H) (y0 : Nat) (y1 : Int32) (z0 : Int32) : Option (Int32 × ja_H) := (jl (z0 : Int32) (fun (x1 : Int32) => (if x1 = (0 : Int32) then (r_Ju_narrowD_87 h y0) else (jf_R h y0 5 5 (fun a2 => (jf_R h y0 5 4 (fun a3 => (jf_L h a3 7 1 (fun v4 => (jk h a2 7 (jc_I (r_Va_narrow h a2 y1 v4) (fun v6 h5 => (if v6 = (0 : Int32) then (jb (0 : Int32) (some ((0 : Int32), h5))) else (r_Ju_narrowD_87 h5 y0))))))))))))))
theorem t_Ju_narrowD_62 {h : ja_H} {y0 : Nat} {y1 : Int32} {z0 : Int32} : ja_D ja_gI M_Ju_narrowD 62 [some (.ref y0), some (.int y1), none] [.int z0] h (r_Ju_narrowD_62 h y0 y1 z0) := by
  unfold r_Ju_narrowD_62
  refine jd_istore_n (fun x1 => [some (.ref y0), some (.int y1), some (.int x1)]) i_Ju_narrowD_62 (by decide) rfl (fun _ => rfl) (fun x1 => ?_)
  refine jd_iload_n i_Ju_narrowD_63 rfl ?_
  refine jd_if_eq 87 i_Ju_narrowD_64 (by decide) ?_ ?_
  · exact jd_less (t_Ju_narrowD_87) ⟨rfl, trivial⟩
  · refine jd_aload_n i_Ju_narrowD_67 rfl ?_
    refine jd_getR F_Ju_39 i_Ju_narrowD_68 (fun a2 => ?_)
    refine jd_iload_n i_Ju_narrowD_71 rfl ?_
    refine jd_aload_n i_Ju_narrowD_72 rfl ?_
    refine jd_getR F_Ju_36 i_Ju_narrowD_73 (fun a3 => ?_)
    refine jd_getL F_Ju_61 i_Ju_narrowD_76 (fun v4 => ?_)
    refine jd_callVI G_Ju_214 in_Va_narrow se_Va_narrow rfl (fun _ e => c_Va_narrow e) rfl ⟨by decide, by decide⟩ rfl (Nat.le_of_ble_eq_true rfl) i_Ju_narrowD_79 (fun v6 h5 => ?_)
    refine jd_if_ne 87 i_Ju_narrowD_82 (by decide) ?_ ?_
    · exact jd_less (t_Ju_narrowD_87) ⟨rfl, trivial⟩
    · refine jd_iconst 0 i_Ju_narrowD_85 (by decide) ?_
      exact jd_zreturn i_Ju_narrowD_86 rfl
noncomputable def r_Ju_narrowD_61 (h : ja_H) (y0 : Nat) (y1 : Int32) : Option (Int32 × ja_H) := (r_Ju_narrowD_62 h y0 y1 (0 : Int32))
theorem t_Ju_narrowD_61 {h : ja_H} {y0 : Nat} {y1 : Int32} : ja_D ja_gI M_Ju_narrowD 61 [some (.ref y0), some (.int y1), none] [] h (r_Ju_narrowD_61 h y0 y1) := by
  unfold r_Ju_narrowD_61
  refine jd_iconst 0 i_Ju_narrowD_61 (by decide) ?_
  exact jd_less (t_Ju_narrowD_62) ⟨rfl, rfl, trivial⟩
noncomputable def r_Ju_narrowD (h : ja_H) (a0 : Nat) (a1 : Int32) : Option (Int32 × ja_H) := (jf_R h a0 5 5 (fun a101 => (jf_R h a0 5 3 (fun a102 => (jf_I h a102 7 0 (fun v103 => (jf_R h a0 5 3 (fun a104 => (jf_L h a104 7 1 (fun v105 => (jf_R h a0 5 3 (fun a106 => (jf_L h a106 7 2 (fun v107 => (jk h a101 7 (jc_V (r_Va_become h a101 v103 v105 v107) (fun h108 => (jf_R h108 a0 5 2 (fun a109 => (jf_I h108 a109 4 0 (fun v110 => (if (v110 &&& (7 : Int32)) = (5 : Int32) then (if a1 = (4 : Int32) then (r_Ju_narrowD_61 h108 a0 a1) else (jf_R h108 a0 5 4 (fun a111 => (jk h108 a111 7 (jc_I (r_Va_isOne h108 a111) (fun v113 h112 => (if v113 = (0 : Int32) then (r_Ju_narrowD_61 h112 a0 a1) else (r_Ju_narrowD_62 h112 a0 a1 (1 : Int32))))))))) else (r_Ju_narrowD_61 h108 a0 a1)))))))))))))))))))))))
theorem e_Ju_narrowD {h : ja_H} {a0 : Nat} {a1 : Int32} : ja_D ja_gI M_Ju_narrowD 0 [some (.ref a0), some (.int a1), none] [] h (r_Ju_narrowD h a0 a1) := by
  unfold r_Ju_narrowD
  refine jd_aload_n i_Ju_narrowD_0 rfl ?_
  refine jd_getR F_Ju_39 i_Ju_narrowD_1 (fun a101 => ?_)
  refine jd_aload_n i_Ju_narrowD_4 rfl ?_
  refine jd_getR F_Ju_32 i_Ju_narrowD_5 (fun a102 => ?_)
  refine jd_getI F_Ju_58 i_Ju_narrowD_8 (fun v103 => ?_)
  refine jd_aload_n i_Ju_narrowD_11 rfl ?_
  refine jd_getR F_Ju_32 i_Ju_narrowD_12 (fun a104 => ?_)
  refine jd_getL F_Ju_61 i_Ju_narrowD_15 (fun v105 => ?_)
  refine jd_aload_n i_Ju_narrowD_18 rfl ?_
  refine jd_getR F_Ju_32 i_Ju_narrowD_19 (fun a106 => ?_)
  refine jd_getL F_Ju_65 i_Ju_narrowD_22 (fun v107 => ?_)
  refine jd_callVV G_Ju_142 in_Va_become se_Va_become rfl (fun _ e => c_Va_become e) rfl ⟨by decide, by decide⟩ rfl (Nat.le_of_ble_eq_true rfl) i_Ju_narrowD_25 (fun h108 => ?_)
  refine jd_aload_n i_Ju_narrowD_28 rfl ?_
  refine jd_getR F_Ju_25 i_Ju_narrowD_29 (fun a109 => ?_)
  refine jd_getI F_Ju_211 i_Ju_narrowD_32 (fun v110 => ?_)
  refine jd_bipush 7 i_Ju_narrowD_35 (by decide) ?_
  refine jd_iand i_Ju_narrowD_37 ?_
  refine jd_iconst 5 i_Ju_narrowD_38 (by decide) ?_
  refine jd_icmp_ne 61 i_Ju_narrowD_39 (by decide) ?_ ?_
  · exact jd_less (t_Ju_narrowD_61) ⟨rfl, rfl, trivial⟩
  · refine jd_iload_n i_Ju_narrowD_42 rfl ?_
    refine jd_iconst 4 i_Ju_narrowD_43 (by decide) ?_
    refine jd_icmp_eq 61 i_Ju_narrowD_44 (by decide) ?_ ?_
    · exact jd_less (t_Ju_narrowD_61) ⟨rfl, rfl, trivial⟩
    · refine jd_aload_n i_Ju_narrowD_47 rfl ?_
      refine jd_getR F_Ju_36 i_Ju_narrowD_48 (fun a111 => ?_)
      refine jd_callVI G_Ju_190 in_Va_isOne se_Va_isOne rfl (fun _ e => c_Va_isOne e) rfl ⟨by decide, by decide⟩ rfl (Nat.le_of_ble_eq_true rfl) i_Ju_narrowD_51 (fun v113 h112 => ?_)
      refine jd_if_eq 61 i_Ju_narrowD_54 (by decide) ?_ ?_
      · exact jd_less (t_Ju_narrowD_61) ⟨rfl, rfl, trivial⟩
      · refine jd_iconst 1 i_Ju_narrowD_57 (by decide) ?_
        refine jd_goto 62 i_Ju_narrowD_58 (by decide) ?_
        exact jd_less (t_Ju_narrowD_62) ⟨rfl, rfl, trivial⟩
theorem c_Ju_narrowD {h : ja_H} {a0 : Nat} {a1 : Int32} {o : Int32 × ja_H} (e : r_Ju_narrowD h a0 a1 = some o) : ja_M (3, 69) y_Ju_narrowD b_Ju_narrowD 3 (some .boolean) [.ref a0, .int a1] h [.int o.1] o.2 := jc_of (g := ja_gI) false _ e e_Ju_narrowD rfl (by decide +kernel) (fun q => nomatch q) (Nat.le_of_ble_eq_true rfl) (fun _ q => nomatch q) (Nat.le_of_ble_eq_true rfl)
noncomputable def r_Wo_opposite_98 (h : ja_H) (y0 : Nat) : Option (Int32 × ja_H) := (jf_I h y0 4 6 (fun v1 => (some (v1, h))))
theorem t_Wo_opposite_98 {h : ja_H} {y0 : Nat} : ja_D ja_gI M_Wo_opposite 98 [some (.ref y0)] [] h (r_Wo_opposite_98 h y0) := by
  unfold r_Wo_opposite_98
  refine jd_aload_n i_Wo_opposite_98 rfl ?_
  refine jd_getI F_Wo_27 i_Wo_opposite_99 (fun v1 => ?_)
  exact jd_ireturn i_Wo_opposite_102 rfl
noncomputable def r_Wo_opposite (h : ja_H) (a0 : Nat) : Option (Int32 × ja_H) := (jf_I h a0 4 6 (fun v101 => (jsw v101 [1, 2, 3, 4, 5, 6, 7, 8, 9, 10, 11, 12, 13] [(some ((5 : Int32), h)), (some ((11 : Int32), h)), (some ((10 : Int32), h)), (r_Wo_opposite_98 h a0), (some ((1 : Int32), h)), (some ((13 : Int32), h)), (some ((12 : Int32), h)), (r_Wo_opposite_98 h a0), (r_Wo_opposite_98 h a0), (some ((3 : Int32), h)), (some ((2 : Int32), h)), (some ((7 : Int32), h)), (some ((6 : Int32), h))] (r_Wo_opposite_98 h a0))))
theorem e_Wo_opposite {h : ja_H} {a0 : Nat} : ja_D ja_gI M_Wo_opposite 0 [some (.ref a0)] [] h (r_Wo_opposite h a0) := by
  unfold r_Wo_opposite
  refine jd_aload_n i_Wo_opposite_0 rfl ?_
  refine jd_getI F_Wo_27 i_Wo_opposite_1 (fun v101 => ?_)
  refine jd_ts 98 [1, 2, 3, 4, 5, 6, 7, 8, 9, 10, 11, 12, 13] [72, 76, 81, 98, 74, 86, 92, 98, 98, 84, 79, 95, 89] i_Wo_opposite_4 rfl (by decide) (by decide) (by decide) ?_ ⟨?_, ?_, ?_, ?_, ?_, ?_, ?_, ?_, ?_, ?_, ?_, ?_, ?_, trivial⟩
  · exact jd_less (t_Wo_opposite_98) ⟨rfl, trivial⟩
  · refine jd_iconst 5 i_Wo_opposite_72 (by decide) ?_
    exact jd_ireturn i_Wo_opposite_73 rfl
  · refine jd_bipush 11 i_Wo_opposite_76 (by decide) ?_
    exact jd_ireturn i_Wo_opposite_78 rfl
  · refine jd_bipush 10 i_Wo_opposite_81 (by decide) ?_
    exact jd_ireturn i_Wo_opposite_83 rfl
  · exact jd_less (t_Wo_opposite_98) ⟨rfl, trivial⟩
  · refine jd_iconst 1 i_Wo_opposite_74 (by decide) ?_
    exact jd_ireturn i_Wo_opposite_75 rfl
  · refine jd_bipush 13 i_Wo_opposite_86 (by decide) ?_
    exact jd_ireturn i_Wo_opposite_88 rfl
  · refine jd_bipush 12 i_Wo_opposite_92 (by decide) ?_
    exact jd_ireturn i_Wo_opposite_94 rfl
  · exact jd_less (t_Wo_opposite_98) ⟨rfl, trivial⟩
  · exact jd_less (t_Wo_opposite_98) ⟨rfl, trivial⟩
  · refine jd_iconst 3 i_Wo_opposite_84 (by decide) ?_
    exact jd_ireturn i_Wo_opposite_85 rfl
  · refine jd_iconst 2 i_Wo_opposite_79 (by decide) ?_
    exact jd_ireturn i_Wo_opposite_80 rfl
  · refine jd_bipush 7 i_Wo_opposite_95 (by decide) ?_
    exact jd_ireturn i_Wo_opposite_97 rfl
  · refine jd_bipush 6 i_Wo_opposite_89 (by decide) ?_
    exact jd_ireturn i_Wo_opposite_91 rfl
theorem c_Wo_opposite {h : ja_H} {a0 : Nat} {o : Int32 × ja_H} (e : r_Wo_opposite h a0 = some o) : ja_M (0, 0) y_Wo_opposite b_Wo_opposite 1 (some .int) [.ref a0] h [.int o.1] o.2 := jc_of (g := ja_gI) false _ e e_Wo_opposite rfl (by decide +kernel) (fun q => nomatch q) (Nat.le_of_ble_eq_true rfl) (fun _ q => nomatch q) (Nat.le_of_ble_eq_true rfl)
noncomputable def r_Ju_examineCondition_70 (h : ja_H) : Option (Int32 × ja_H) := (some ((0 : Int32), h))
theorem t_Ju_examineCondition_70 {h : ja_H} : ja_D ja_gI M_Ju_examineCondition 70 [none, none] [] h (r_Ju_examineCondition_70 h) := by
  unfold r_Ju_examineCondition_70
  refine jd_iconst 0 i_Ju_examineCondition_70 (by decide) ?_
  exact jd_ireturn i_Ju_examineCondition_71 rfl
noncomputable def r_Ju_examineCondition_49 (h : ja_H) (y0 : Nat) (y1 : Int32) : Option (Int32 × ja_H) := (jf_R h y0 5 2 (fun a1 => (jk h a1 4 (jc_I (r_Wo_opposite h a1) (fun v3 h2 => (jk h2 y0 5 (jc_I (r_Ju_narrowD h2 y0 v3) (fun v5 h4 => (if v5 = (0 : Int32) then (r_Ju_examineCondition_70 h4) else (jk h4 y0 5 (jc_V (r_Ju_flowTo h4 y0 (y1 + (1 : Int32))) (fun h6 => (r_Ju_examineCondition_70 h6)))))))))))))
theorem t_Ju_examineCondition_49 {h : ja_H} {y0 : Nat} {y1 : Int32} : ja_D ja_gI M_Ju_examineCondition 49 [some (.ref y0), some (.int y1)] [] h (r_Ju_examineCondition_49 h y0 y1) := by
  unfold r_Ju_examineCondition_49
  refine jd_aload_n i_Ju_examineCondition_49 rfl ?_
  refine jd_aload_n i_Ju_examineCondition_50 rfl ?_
  refine jd_getR F_Ju_25 i_Ju_examineCondition_51 (fun a1 => ?_)
  refine jd_callVI G_Ju_208 in_Wo_opposite se_Wo_opposite rfl (fun _ e => c_Wo_opposite e) rfl ⟨by decide, by decide⟩ rfl (Nat.le_of_ble_eq_true rfl) i_Ju_examineCondition_54 (fun v3 h2 => ?_)
  refine jd_callVI G_Ju_205 in_Ju_narrowD se_Ju_narrowD rfl (fun _ e => c_Ju_narrowD e) rfl ⟨by decide, by decide⟩ rfl (Nat.le_of_ble_eq_true rfl) i_Ju_examineCondition_57 (fun v5 h4 => ?_)
  refine jd_if_eq 70 i_Ju_examineCondition_60 (by decide) ?_ ?_
  · exact jd_less (t_Ju_examineCondition_70) trivial
  · refine jd_aload_n i_Ju_examineCondition_63 rfl ?_
    refine jd_iload_n i_Ju_examineCondition_64 rfl ?_
    refine jd_iconst 1 i_Ju_examineCondition_65 (by decide) ?_
    refine jd_iadd i_Ju_examineCondition_66 ?_
    refine jd_callVV G_Ju_101 in_Ju_flowTo se_Ju_flowTo rfl (fun _ e => c_Ju_flowTo e) rfl ⟨by decide, by decide⟩ rfl (Nat.le_of_ble_eq_true rfl) i_Ju_examineCondition_67 (fun h6 => ?_)
    exact jd_less (t_Ju_examineCondition_70) trivial
noncomputable def r_Ju_examineCondition_20 (h : ja_H) : Option (Int32 × ja_H) := (some ((8 : Int32), h))
theorem t_Ju_examineCondition_20 {h : ja_H} : ja_D ja_gI M_Ju_examineCondition 20 [none, none] [] h (r_Ju_examineCondition_20 h) := by
  unfold r_Ju_examineCondition_20
  refine jd_bipush 8 i_Ju_examineCondition_20 (by decide) ?_
  exact jd_ireturn i_Ju_examineCondition_22 rfl
noncomputable def r_Ju_examineCondition (h : ja_H) (a0 : Nat) (a1 : Int32) : Option (Int32 × ja_H) := (jf_R h a0 5 3 (fun a101 => (jk h a101 7 (jc_I (r_Va_isPointer h a101) (fun v103 h102 => (if v103 = (0 : Int32) then (jf_R h102 a0 5 4 (fun a104 => (jk h102 a104 7 (jc_I (r_Va_isPointer h102 a104) (fun v106 h105 => (if v106 = (0 : Int32) then (jf_R h105 a0 5 2 (fun a107 => (jf_I h105 a107 4 6 (fun v108 => (jk h105 a0 5 (jc_I (r_Ju_narrowD h105 a0 v108) (fun v110 h109 => (if v110 = (0 : Int32) then (r_Ju_examineCondition_49 h109 a0 a1) else (jf_R h109 a0 5 2 (fun a111 => (jk h109 a111 4 (jc_I (r_Wo_goalFrom h109 a111 a1) (fun v113 h112 => (jk h112 a0 5 (jc_V (r_Ju_flowTo h112 a0 v113) (fun h114 => (r_Ju_examineCondition_49 h114 a0 a1))))))))))))))))) else (r_Ju_examineCondition_20 h105))))))) else (r_Ju_examineCondition_20 h102)))))))
theorem e_Ju_examineCondition {h : ja_H} {a0 : Nat} {a1 : Int32} : ja_D ja_gI M_Ju_examineCondition 0 [some (.ref a0), some (.int a1)] [] h (r_Ju_examineCondition h a0 a1) := by
  unfold r_Ju_examineCondition
  refine jd_aload_n i_Ju_examineCondition_0 rfl ?_
  refine jd_getR F_Ju_32 i_Ju_examineCondition_1 (fun a101 => ?_)
  refine jd_callVI G_Ju_171 in_Va_isPointer se_Va_isPointer rfl (fun _ e => c_Va_isPointer e) rfl ⟨by decide, by decide⟩ rfl (Nat.le_of_ble_eq_true rfl) i_Ju_examineCondition_4 (fun v103 h102 => ?_)
  refine jd_if_ne 20 i_Ju_examineCondition_7 (by decide) ?_ ?_
  · exact jd_less (t_Ju_examineCondition_20) trivial
  · refine jd_aload_n i_Ju_examineCondition_10 rfl ?_
    refine jd_getR F_Ju_36 i_Ju_examineCondition_11 (fun a104 => ?_)
    refine jd_callVI G_Ju_171 in_Va_isPointer se_Va_isPointer rfl (fun _ e => c_Va_isPointer e) rfl ⟨by decide, by decide⟩ rfl (Nat.le_of_ble_eq_true rfl) i_Ju_examineCondition_14 (fun v106 h105 => ?_)
    refine jd_if_eq 23 i_Ju_examineCondition_17 (by decide) ?_ ?_
    · refine jd_aload_n i_Ju_examineCondition_23 rfl ?_
      refine jd_aload_n i_Ju_examineCondition_24 rfl ?_
      refine jd_getR F_Ju_25 i_Ju_examineCondition_25 (fun a107 => ?_)
      refine jd_getI F_Ju_167 i_Ju_examineCondition_28 (fun v108 => ?_)
      refine jd_callVI G_Ju_205 in_Ju_narrowD se_Ju_narrowD rfl (fun _ e => c_Ju_narrowD e) rfl ⟨by decide, by decide⟩ rfl (Nat.le_of_ble_eq_true rfl) i_Ju_examineCondition_31 (fun v110 h109 => ?_)
      refine jd_if_eq 49 i_Ju_examineCondition_34 (by decide) ?_ ?_
      · exact jd_less (t_Ju_examineCondition_49) ⟨rfl, rfl, trivial⟩
      · refine jd_aload_n i_Ju_examineCondition_37 rfl ?_
        refine jd_aload_n i_Ju_examineCondition_38 rfl ?_
        refine jd_getR F_Ju_25 i_Ju_examineCondition_39 (fun a111 => ?_)
        refine jd_iload_n i_Ju_examineCondition_42 rfl ?_
        refine jd_callVI G_Ju_155 in_Wo_goalFrom se_Wo_goalFrom rfl (fun _ e => c_Wo_goalFrom e) rfl ⟨by decide, by decide⟩ rfl (Nat.le_of_ble_eq_true rfl) i_Ju_examineCondition_43 (fun v113 h112 => ?_)
        refine jd_callVV G_Ju_101 in_Ju_flowTo se_Ju_flowTo rfl (fun _ e => c_Ju_flowTo e) rfl ⟨by decide, by decide⟩ rfl (Nat.le_of_ble_eq_true rfl) i_Ju_examineCondition_46 (fun h114 => ?_)
        exact jd_less (t_Ju_examineCondition_49) ⟨rfl, rfl, trivial⟩
    · exact jd_less (t_Ju_examineCondition_20) trivial
theorem c_Ju_examineCondition {h : ja_H} {a0 : Nat} {a1 : Int32} {o : Int32 × ja_H} (e : r_Ju_examineCondition h a0 a1 = some o) : ja_M (4, 91) y_Ju_examineCondition b_Ju_examineCondition 2 (some .int) [.ref a0, .int a1] h [.int o.1] o.2 := jc_of (g := ja_gI) false _ e e_Ju_examineCondition rfl (by decide +kernel) (fun q => nomatch q) (Nat.le_of_ble_eq_true rfl) (fun _ q => nomatch q) (Nat.le_of_ble_eq_true rfl)
noncomputable def r_Wo_size (h : ja_H) (a0 : Nat) : Option (Int32 × ja_H) := (jf_I h a0 4 0 (fun v101 => (jsw (v101 &&& (24 : Int32)) [0, 8, 16] [(some ((4 : Int32), h)), (some ((2 : Int32), h)), (some ((1 : Int32), h))] (some ((8 : Int32), h)))))
theorem e_Wo_size {h : ja_H} {a0 : Nat} : ja_D ja_gI M_Wo_size 0 [some (.ref a0)] [] h (r_Wo_size h a0) := by
  unfold r_Wo_size
  refine jd_aload_n i_Wo_size_0 rfl ?_
  refine jd_getI F_Wo_9 i_Wo_size_1 (fun v101 => ?_)
  refine jd_bipush 24 i_Wo_size_4 (by decide) ?_
  refine jd_iand i_Wo_size_6 ?_
  refine jd_ls 46 [0, 8, 16] [40, 42, 44] i_Wo_size_7 (by decide) rfl (by decide) (by decide) (by decide) ?_ ⟨?_, ?_, ?_, trivial⟩
  · refine jd_bipush 8 i_Wo_size_46 (by decide) ?_
    exact jd_ireturn i_Wo_size_48 rfl
  · refine jd_iconst 4 i_Wo_size_40 (by decide) ?_
    exact jd_ireturn i_Wo_size_41 rfl
  · refine jd_iconst 2 i_Wo_size_42 (by decide) ?_
    exact jd_ireturn i_Wo_size_43 rfl
  · refine jd_iconst 1 i_Wo_size_44 (by decide) ?_
    exact jd_ireturn i_Wo_size_45 rfl
theorem c_Wo_size {h : ja_H} {a0 : Nat} {o : Int32 × ja_H} (e : r_Wo_size h a0 = some o) : ja_M (0, 0) y_Wo_size b_Wo_size 1 (some .int) [.ref a0] h [.int o.1] o.2 := jc_of (g := ja_gI) false _ e e_Wo_size rfl (by decide +kernel) (fun q => nomatch q) (Nat.le_of_ble_eq_true rfl) (fun _ q => nomatch q) (Nat.le_of_ble_eq_true rfl)
noncomputable def r_Wo_stores_21 (h : ja_H) (z0 : Int32) : Option (Int32 × ja_H) := (jb z0 (some (z0, h)))
theorem t_Wo_stores_21 {h : ja_H} {z0 : Int32} : ja_D ja_gI M_Wo_stores 21 [none] [.int z0] h (r_Wo_stores_21 h z0) := by
  unfold r_Wo_stores_21
  exact jd_zreturn i_Wo_stores_21 rfl
noncomputable def r_Wo_stores_16 (h : ja_H) : Option (Int32 × ja_H) := (r_Wo_stores_21 h (1 : Int32))
theorem t_Wo_stores_16 {h : ja_H} : ja_D ja_gI M_Wo_stores 16 [none] [] h (r_Wo_stores_16 h) := by
  unfold r_Wo_stores_16
  refine jd_iconst 1 i_Wo_stores_16 (by decide) ?_
  refine jd_goto 21 i_Wo_stores_17 (by decide) ?_
  exact jd_less (t_Wo_stores_21) trivial
noncomputable def r_Wo_stores (h : ja_H) (a0 : Nat) : Option (Int32 × ja_H) := (jf_I h a0 4 5 (fun v101 => (if v101 = (4 : Int32) then (r_Wo_stores_16 h) else (jf_I h a0 4 5 (fun v102 => (if v102 = (5 : Int32) then (r_Wo_stores_16 h) else (r_Wo_stores_21 h (0 : Int32))))))))
theorem e_Wo_stores {h : ja_H} {a0 : Nat} : ja_D ja_gI M_Wo_stores 0 [some (.ref a0)] [] h (r_Wo_stores h a0) := by
  unfold r_Wo_stores
  refine jd_aload_n i_Wo_stores_0 rfl ?_
  refine jd_getI F_Wo_34 i_Wo_stores_1 (fun v101 => ?_)
  refine jd_iconst 4 i_Wo_stores_4 (by decide) ?_
  refine jd_icmp_eq 16 i_Wo_stores_5 (by decide) ?_ ?_
  · exact jd_less (t_Wo_stores_16) trivial
  · refine jd_aload_n i_Wo_stores_8 rfl ?_
    refine jd_getI F_Wo_34 i_Wo_stores_9 (fun v102 => ?_)
    refine jd_iconst 5 i_Wo_stores_12 (by decide) ?_
    refine jd_icmp_ne 20 i_Wo_stores_13 (by decide) ?_ ?_
    · refine jd_iconst 0 i_Wo_stores_20 (by decide) ?_
      exact jd_less (t_Wo_stores_21) trivial
    · exact jd_less (t_Wo_stores_16) trivial
theorem c_Wo_stores {h : ja_H} {a0 : Nat} {o : Int32 × ja_H} (e : r_Wo_stores h a0 = some o) : ja_M (0, 0) y_Wo_stores b_Wo_stores 1 (some .boolean) [.ref a0] h [.int o.1] o.2 := jc_of (g := ja_gI) false _ e e_Wo_stores rfl (by decide +kernel) (fun q => nomatch q) (Nat.le_of_ble_eq_true rfl) (fun _ q => nomatch q) (Nat.le_of_ble_eq_true rfl)
noncomputable def r_Ju_examineReach_132 (h : ja_H) (z0 : Int32) : Option (Int32 × ja_H) := (some (z0, h))
theorem t_Ju_examineReach_132 {h : ja_H} {z0 : Int32} : ja_D ja_gI M_Ju_examineReach 132 [none, none, none, none, none, none, none, none] [.int z0] h (r_Ju_examineReach_132 h z0) := by
  unfold r_Ju_examineReach_132
  exact jd_ireturn i_Ju_examineReach_132 rfl
noncomputable def r_Ju_examineReach_119 (h : ja_H) (z0 : Int32) : Option (Int32 × ja_H) := (jl (z0 : Int32) (fun (x1 : Int32) => (if x1 = (0 : Int32) then (r_Ju_examineReach_132 h (11 : Int32)) else (r_Ju_examineReach_132 h (0 : Int32)))))
theorem t_Ju_examineReach_119 {h : ja_H} {z0 : Int32} : ja_D ja_gI M_Ju_examineReach 119 [none, none, none, none, none, none, none, none] [.int z0] h (r_Ju_examineReach_119 h z0) := by
  unfold r_Ju_examineReach_119
  refine jd_istore (fun x1 => [none, none, none, none, none, none, none, some (.int x1)]) i_Ju_examineReach_119 (by decide) rfl (fun _ => rfl) (fun x1 => ?_)
  refine jd_iload i_Ju_examineReach_121 rfl ?_
  refine jd_if_eq 130 i_Ju_examineReach_123 (by decide) ?_ ?_
  · refine jd_bipush 11 i_Ju_examineReach_130 (by decide) ?_
    exact jd_less (t_Ju_examineReach_132) trivial
  · refine jd_iconst 0 i_Ju_examineReach_126 (by decide) ?_
    refine jd_goto 132 i_Ju_examineReach_127 (by decide) ?_
    exact jd_less (t_Ju_examineReach_132) trivial
noncomputable def r_Ju_examineReach_118 (h : ja_H) : Option (Int32 × ja_H) := (r_Ju_examineReach_119 h (0 : Int32))
theorem t_Ju_examineReach_118 {h : ja_H} : ja_D ja_gI M_Ju_examineReach 118 [none, none, none, none, none, none, none, none] [] h (r_Ju_examineReach_118 h) := by
  unfold r_Ju_examineReach_118
  refine jd_iconst 0 i_Ju_examineReach_118 (by decide) ?_
  exact jd_less (t_Ju_examineReach_119) trivial
noncomputable def r_Ju_examineReach_66 (h : ja_H) (y0 : Nat) (y1 : Nat) (y3 : Int64) (z0 : Int64) : Option (Int32 × ja_H) := (jl (z0 : Int64) (fun (x1 : Int64) => (jf_L h y1 7 1 (fun v2 => (jf_R h y0 5 2 (fun a3 => (jf_I h a3 4 3 (fun v4 => (if (v2 + (Int32.toInt64 v4)) < y3 then (r_Ju_examineReach_118 h) else (jf_L h y1 7 2 (fun v5 => (jf_R h y0 5 2 (fun a6 => (jf_I h a6 4 3 (fun v7 => (jf_R h y0 5 2 (fun a8 => (jk h a8 4 (jc_I (r_Wo_size h a8) (fun v10 h9 => (if x1 < ((v5 + (Int32.toInt64 v7)) + (Int32.toInt64 v10)) then (r_Ju_examineReach_118 h9) else (r_Ju_examineReach_119 h9 (1 : Int32)))))))))))))))))))))))
theorem t_Ju_examineReach_66 {h : ja_H} {y0 : Nat} {y1 : Nat} {y3 : Int64} {z0 : Int64} : ja_D ja_gI M_Ju_examineReach 66 [some (.ref y0), some (.ref y1), none, some (.long y3), none, none, none, none] [.long z0] h (r_Ju_examineReach_66 h y0 y1 y3 z0) := by
  unfold r_Ju_examineReach_66
  refine jd_lstore (fun x1 => [some (.ref y0), some (.ref y1), none, some (.long y3), none, some (.long x1), none, none]) i_Ju_examineReach_66 (by decide) rfl (fun _ => rfl) (fun x1 => ?_)
  refine jd_aload_n i_Ju_examineReach_68 rfl ?_
  refine jd_getL F_Ju_61 i_Ju_examineReach_69 (fun v2 => ?_)
  refine jd_aload_n i_Ju_examineReach_72 rfl ?_
  refine jd_getR F_Ju_25 i_Ju_examineReach_73 (fun a3 => ?_)
  refine jd_getI F_Ju_223 i_Ju_examineReach_76 (fun v4 => ?_)
  refine jd_i2l i_Ju_examineReach_79 ?_
  refine jd_ladd i_Ju_examineReach_80 ?_
  refine jd_lload_n i_Ju_examineReach_81 rfl ?_
  refine jd_lcmp_lt 118 i_Ju_examineReach_82 i_Ju_examineReach_83 (by decide) ?_ ?_
  · exact jd_less (t_Ju_examineReach_118) trivial
  · refine jd_aload_n i_Ju_examineReach_86 rfl ?_
    refine jd_getL F_Ju_65 i_Ju_examineReach_87 (fun v5 => ?_)
    refine jd_aload_n i_Ju_examineReach_90 rfl ?_
    refine jd_getR F_Ju_25 i_Ju_examineReach_91 (fun a6 => ?_)
    refine jd_getI F_Ju_223 i_Ju_examineReach_94 (fun v7 => ?_)
    refine jd_i2l i_Ju_examineReach_97 ?_
    refine jd_ladd i_Ju_examineReach_98 ?_
    refine jd_aload_n i_Ju_examineReach_99 rfl ?_
    refine jd_getR F_Ju_25 i_Ju_examineReach_100 (fun a8 => ?_)
    refine jd_callVI G_Ju_226 in_Wo_size se_Wo_size rfl (fun _ e => c_Wo_size e) rfl ⟨by decide, by decide⟩ rfl (Nat.le_of_ble_eq_true rfl) i_Ju_examineReach_103 (fun v10 h9 => ?_)
    refine jd_i2l i_Ju_examineReach_106 ?_
    refine jd_ladd i_Ju_examineReach_107 ?_
    refine jd_lload i_Ju_examineReach_108 rfl ?_
    refine jd_lcmp_gt 118 i_Ju_examineReach_110 i_Ju_examineReach_111 (by decide) ?_ ?_
    · exact jd_less (t_Ju_examineReach_118) trivial
    · refine jd_iconst 1 i_Ju_examineReach_114 (by decide) ?_
      refine jd_goto 119 i_Ju_examineReach_115 (by decide) ?_
      exact jd_less (t_Ju_examineReach_119) trivial
noncomputable def r_Ju_examineReach_52 (h : ja_H) (y0 : Nat) (y1 : Nat) (y2 : Int32) (z0 : Int64) : Option (Int32 × ja_H) := (jl (z0 : Int64) (fun (x1 : Int64) => (if y2 = (0 : Int32) then (r_Ju_examineReach_66 h y0 y1 x1 (0 : Int64)) else (jf_I h y0 5 7 (fun v2 => (r_Ju_examineReach_66 h y0 y1 x1 (Int32.toInt64 v2)))))))
theorem t_Ju_examineReach_52 {h : ja_H} {y0 : Nat} {y1 : Nat} {y2 : Int32} {z0 : Int64} : ja_D ja_gI M_Ju_examineReach 52 [some (.ref y0), some (.ref y1), some (.int y2), none, none, none, none, none] [.long z0] h (r_Ju_examineReach_52 h y0 y1 y2 z0) := by
  unfold r_Ju_examineReach_52
  refine jd_lstore_n (fun x1 => [some (.ref y0), some (.ref y1), some (.int y2), some (.long x1), none, none, none, none]) i_Ju_examineReach_52 (by decide) rfl (fun _ => rfl) (fun x1 => ?_)
  refine jd_iload_n i_Ju_examineReach_53 rfl ?_
  refine jd_if_eq 65 i_Ju_examineReach_54 (by decide) ?_ ?_
  · refine jd_lconst 0 i_Ju_examineReach_65 (by decide) ?_
    exact jd_less (t_Ju_examineReach_66) ⟨rfl, rfl, rfl, trivial⟩
  · refine jd_aload_n i_Ju_examineReach_57 rfl ?_
    refine jd_getI F_Ju_96 i_Ju_examineReach_58 (fun v2 => ?_)
    refine jd_i2l i_Ju_examineReach_61 ?_
    refine jd_goto 66 i_Ju_examineReach_62 (by decide) ?_
    exact jd_less (t_Ju_examineReach_66) ⟨rfl, rfl, rfl, trivial⟩
noncomputable def r_Ju_examineReach_41 (h : ja_H) (y0 : Nat) (y1 : Nat) (y2 : Int32) : Option (Int32 × ja_H) := (if y2 = (0 : Int32) then (r_Ju_examineReach_52 h y0 y1 y2 (-512 : Int64)) else (r_Ju_examineReach_52 h y0 y1 y2 (0 : Int64)))
theorem t_Ju_examineReach_41 {h : ja_H} {y0 : Nat} {y1 : Nat} {y2 : Int32} : ja_D ja_gI M_Ju_examineReach 41 [some (.ref y0), some (.ref y1), some (.int y2), none, none, none, none, none] [] h (r_Ju_examineReach_41 h y0 y1 y2) := by
  unfold r_Ju_examineReach_41
  refine jd_iload_n i_Ju_examineReach_41 rfl ?_
  refine jd_if_eq 49 i_Ju_examineReach_42 (by decide) ?_ ?_
  · refine jd_ldc2 i_Ju_examineReach_49 K_Ju_221 ?_
    exact jd_less (t_Ju_examineReach_52) ⟨rfl, rfl, rfl, trivial⟩
  · refine jd_lconst 0 i_Ju_examineReach_45 (by decide) ?_
    refine jd_goto 52 i_Ju_examineReach_46 (by decide) ?_
    exact jd_less (t_Ju_examineReach_52) ⟨rfl, rfl, rfl, trivial⟩
noncomputable def r_Ju_examineReach_23 (h : ja_H) (y0 : Nat) (y1 : Nat) (z0 : Int32) : Option (Int32 × ja_H) := (jl (z0 : Int32) (fun (x1 : Int32) => (if x1 = (0 : Int32) then (r_Ju_examineReach_41 h y0 y1 x1) else (jf_R h y0 5 2 (fun a2 => (jk h a2 4 (jc_I (r_Wo_stores h a2) (fun v4 h3 => (if v4 = (0 : Int32) then (r_Ju_examineReach_41 h3 y0 y1 x1) else (some ((10 : Int32), h3)))))))))))
theorem t_Ju_examineReach_23 {h : ja_H} {y0 : Nat} {y1 : Nat} {z0 : Int32} : ja_D ja_gI M_Ju_examineReach 23 [some (.ref y0), some (.ref y1), none, none, none, none, none, none] [.int z0] h (r_Ju_examineReach_23 h y0 y1 z0) := by
  unfold r_Ju_examineReach_23
  refine jd_istore_n (fun x1 => [some (.ref y0), some (.ref y1), some (.int x1), none, none, none, none, none]) i_Ju_examineReach_23 (by decide) rfl (fun _ => rfl) (fun x1 => ?_)
  refine jd_iload_n i_Ju_examineReach_24 rfl ?_
  refine jd_if_eq 41 i_Ju_examineReach_25 (by decide) ?_ ?_
  · exact jd_less (t_Ju_examineReach_41) ⟨rfl, rfl, rfl, trivial⟩
  · refine jd_aload_n i_Ju_examineReach_28 rfl ?_
    refine jd_getR F_Ju_25 i_Ju_examineReach_29 (fun a2 => ?_)
    refine jd_callVI G_Ju_218 in_Wo_stores se_Wo_stores rfl (fun _ e => c_Wo_stores e) rfl ⟨by decide, by decide⟩ rfl (Nat.le_of_ble_eq_true rfl) i_Ju_examineReach_32 (fun v4 h3 => ?_)
    refine jd_if_eq 41 i_Ju_examineReach_35 (by decide) ?_ ?_
    · exact jd_less (t_Ju_examineReach_41) ⟨rfl, rfl, rfl, trivial⟩
    · refine jd_bipush 10 i_Ju_examineReach_38 (by decide) ?_
      exact jd_ireturn i_Ju_examineReach_40 rfl
noncomputable def r_Ju_examineReach (h : ja_H) (a0 : Nat) (a1 : Nat) : Option (Int32 × ja_H) := (jk h a1 7 (jc_I (r_Va_isPointer h a1) (fun v102 h101 => (if v102 = (0 : Int32) then (some ((9 : Int32), h101)) else (jf_I h101 a1 7 0 (fun v103 => (if v103 = (2 : Int32) then (r_Ju_examineReach_23 h101 a0 a1 (1 : Int32)) else (r_Ju_examineReach_23 h101 a0 a1 (0 : Int32)))))))))
theorem e_Ju_examineReach {h : ja_H} {a0 : Nat} {a1 : Nat} : ja_D ja_gI M_Ju_examineReach 0 [some (.ref a0), some (.ref a1), none, none, none, none, none, none] [] h (r_Ju_examineReach h a0 a1) := by
  unfold r_Ju_examineReach
  refine jd_aload_n i_Ju_examineReach_0 rfl ?_
  refine jd_callVI G_Ju_171 in_Va_isPointer se_Va_isPointer rfl (fun _ e => c_Va_isPointer e) rfl ⟨by decide, by decide⟩ rfl (Nat.le_of_ble_eq_true rfl) i_Ju_examineReach_1 (fun v102 h101 => ?_)
  refine jd_if_ne 10 i_Ju_examineReach_4 (by decide) ?_ ?_
  · refine jd_aload_n i_Ju_examineReach_10 rfl ?_
    refine jd_getI F_Ju_58 i_Ju_examineReach_11 (fun v103 => ?_)
    refine jd_iconst 2 i_Ju_examineReach_14 (by decide) ?_
    refine jd_icmp_ne 22 i_Ju_examineReach_15 (by decide) ?_ ?_
    · refine jd_iconst 0 i_Ju_examineReach_22 (by decide) ?_
      exact jd_less (t_Ju_examineReach_23) ⟨rfl, rfl, trivial⟩
    · refine jd_iconst 1 i_Ju_examineReach_18 (by decide) ?_
      refine jd_goto 23 i_Ju_examineReach_19 (by decide) ?_
      exact jd_less (t_Ju_examineReach_23) ⟨rfl, rfl, trivial⟩
  · refine jd_bipush 9 i_Ju_examineReach_7 (by decide) ?_
    exact jd_ireturn i_Ju_examineReach_9 rfl
theorem c_Ju_examineReach {h : ja_H} {a0 : Nat} {a1 : Nat} {o : Int32 × ja_H} (e : r_Ju_examineReach h a0 a1 = some o) : ja_M (1, 20) y_Ju_examineReach b_Ju_examineReach 8 (some .int) [.ref a0, .ref a1] h [.int o.1] o.2 := jc_of (g := ja_gI) false _ e e_Ju_examineReach rfl (by decide +kernel) (fun q => nomatch q) (Nat.le_of_ble_eq_true rfl) (fun _ q => nomatch q) (Nat.le_of_ble_eq_true rfl)
noncomputable def r_Ju_octetAt (h : ja_H) (a0 : Nat) (a1 : Nat) : Option (Int32 × ja_H) := (jf_L h a1 7 1 (fun v101 => (jf_R h a0 5 2 (fun a102 => (jf_I h a102 4 3 (fun v103 => (some ((Int64.toInt32 ((v101 + (Int32.toInt64 v103)) + (512 : Int64))), h))))))))
theorem e_Ju_octetAt {h : ja_H} {a0 : Nat} {a1 : Nat} : ja_D ja_gI M_Ju_octetAt 0 [some (.ref a0), some (.ref a1)] [] h (r_Ju_octetAt h a0 a1) := by
  unfold r_Ju_octetAt
  refine jd_aload_n i_Ju_octetAt_0 rfl ?_
  refine jd_getL F_Ju_61 i_Ju_octetAt_1 (fun v101 => ?_)
  refine jd_aload_n i_Ju_octetAt_4 rfl ?_
  refine jd_getR F_Ju_25 i_Ju_octetAt_5 (fun a102 => ?_)
  refine jd_getI F_Ju_223 i_Ju_octetAt_8 (fun v103 => ?_)
  refine jd_i2l i_Ju_octetAt_11 ?_
  refine jd_ladd i_Ju_octetAt_12 ?_
  refine jd_ldc2 i_Ju_octetAt_13 K_Ju_229 ?_
  refine jd_ladd i_Ju_octetAt_16 ?_
  refine jd_l2i i_Ju_octetAt_17 ?_
  exact jd_ireturn i_Ju_octetAt_18 rfl
theorem c_Ju_octetAt {h : ja_H} {a0 : Nat} {a1 : Nat} {o : Int32 × ja_H} (e : r_Ju_octetAt h a0 a1 = some o) : ja_M (0, 0) y_Ju_octetAt b_Ju_octetAt 2 (some .int) [.ref a0, .ref a1] h [.int o.1] o.2 := jc_of (g := ja_gI) false _ e e_Ju_octetAt rfl (by decide +kernel) (fun q => nomatch q) (Nat.le_of_ble_eq_true rfl) (fun _ q => nomatch q) (Nat.le_of_ble_eq_true rfl)
noncomputable def r_St_eightAt_29 (h : ja_H) (z0 : Int32) : Option (Int32 × ja_H) := (some (z0, h))
theorem t_St_eightAt_29 {h : ja_H} {z0 : Int32} : ja_D ja_gI M_St_eightAt 29 [none, none] [.int z0] h (r_St_eightAt_29 h z0) := by
  unfold r_St_eightAt_29
  exact jd_ireturn i_St_eightAt_29 rfl
noncomputable def r_St_eightAt_28 (h : ja_H) : Option (Int32 × ja_H) := (r_St_eightAt_29 h (-1 : Int32))
theorem t_St_eightAt_28 {h : ja_H} : ja_D ja_gI M_St_eightAt 28 [none, none] [] h (r_St_eightAt_28 h) := by
  unfold r_St_eightAt_28
  refine jd_iconst (-1) i_St_eightAt_28 (by decide) ?_
  exact jd_less (t_St_eightAt_29) trivial
noncomputable def r_St_eightAt (h : ja_H) (a0 : Nat) (a1 : Int32) : Option (Int32 × ja_H) := (jz_I (8 : Int32) (if (a1 - a1 / (8 : Int32) * (8 : Int32)) = (0 : Int32) then (if a1 < (0 : Int32) then (r_St_eightAt_28 h) else (if (512 : Int32) ≤ a1 then (r_St_eightAt_28 h) else (jz_I (8 : Int32) (r_St_eightAt_29 h ((16 : Int32) + (a1 / (8 : Int32))))))) else (r_St_eightAt_28 h)))
theorem e_St_eightAt {h : ja_H} {a0 : Nat} {a1 : Int32} : ja_D ja_gI M_St_eightAt 0 [some (.ref a0), some (.int a1)] [] h (r_St_eightAt h a0 a1) := by
  unfold r_St_eightAt
  refine jd_iload_n i_St_eightAt_0 rfl ?_
  refine jd_bipush 8 i_St_eightAt_1 (by decide) ?_
  refine jd_irem i_St_eightAt_3 ?_
  refine jd_if_ne 28 i_St_eightAt_4 (by decide) ?_ ?_
  · exact jd_less (t_St_eightAt_28) trivial
  · refine jd_iload_n i_St_eightAt_7 rfl ?_
    refine jd_if_lt 28 i_St_eightAt_8 (by decide) ?_ ?_
    · exact jd_less (t_St_eightAt_28) trivial
    · refine jd_iload_n i_St_eightAt_11 rfl ?_
      refine jd_sipush 512 i_St_eightAt_12 (by decide) ?_
      refine jd_icmp_ge 28 i_St_eightAt_15 (by decide) ?_ ?_
      · exact jd_less (t_St_eightAt_28) trivial
      · refine jd_bipush 16 i_St_eightAt_18 (by decide) ?_
        refine jd_iload_n i_St_eightAt_20 rfl ?_
        refine jd_bipush 8 i_St_eightAt_21 (by decide) ?_
        refine jd_idiv i_St_eightAt_23 ?_
        refine jd_iadd i_St_eightAt_24 ?_
        refine jd_goto 29 i_St_eightAt_25 (by decide) ?_
        exact jd_less (t_St_eightAt_29) trivial
theorem c_St_eightAt {h : ja_H} {a0 : Nat} {a1 : Int32} {o : Int32 × ja_H} (e : r_St_eightAt h a0 a1 = some o) : ja_M (0, 0) y_St_eightAt b_St_eightAt 2 (some .int) [.ref a0, .int a1] h [.int o.1] o.2 := jc_of (g := ja_gI) false _ e e_St_eightAt rfl (by decide +kernel) (fun q => nomatch q) (Nat.le_of_ble_eq_true rfl) (fun _ q => nomatch q) (Nat.le_of_ble_eq_true rfl)
