noncomputable def r_St_copy (h : ja_H) (a0 : Nat) (a1 : Nat) : Option (ja_H) := (jf_R h a1 6 0 (fun a101 => (jf_R h a0 6 0 (fun a102 => (jy_I h a101 (0 : Int32) a102 (0 : Int32) (80 : Int32) (fun h103 => (jf_R h103 a1 6 1 (fun a104 => (jf_R h103 a0 6 1 (fun a105 => (jy_L h103 a104 (0 : Int32) a105 (0 : Int32) (80 : Int32) (fun h106 => (jf_R h106 a1 6 2 (fun a107 => (jf_R h106 a0 6 2 (fun a108 => (jy_L h106 a107 (0 : Int32) a108 (0 : Int32) (80 : Int32) (fun h109 => (jf_R h109 a1 6 3 (fun a110 => (jf_R h109 a0 6 3 (fun a111 => (jy_I h109 a110 (0 : Int32) a111 (0 : Int32) (64 : Int32) (fun h112 => (some h112)))))))))))))))))))))))))
theorem e_St_copy {h : ja_H} {a0 : Nat} {a1 : Nat} : ja_D ja_gV M_St_copy 0 [some (.ref a0), some (.ref a1)] [] h (r_St_copy h a0 a1) := by
  unfold r_St_copy
  refine jd_aload_n i_St_copy_0 rfl ?_
  refine jd_getR F_St_11 i_St_copy_1 (fun a101 => ?_)
  refine jd_iconst 0 i_St_copy_4 (by decide) ?_
  refine jd_aload_n i_St_copy_5 rfl ?_
  refine jd_getR F_St_11 i_St_copy_6 (fun a102 => ?_)
  refine jd_iconst 0 i_St_copy_9 (by decide) ?_
  refine jd_bipush 80 i_St_copy_10 (by decide) ?_
  refine jd_copyI Y_St_34 Y_n Y_s Y_i ⟨by decide, by decide⟩ (Nat.le_of_ble_eq_true rfl) i_St_copy_12 (fun h103 => ?_)
  refine jd_aload_n i_St_copy_15 rfl ?_
  refine jd_getR F_St_15 i_St_copy_16 (fun a104 => ?_)
  refine jd_iconst 0 i_St_copy_19 (by decide) ?_
  refine jd_aload_n i_St_copy_20 rfl ?_
  refine jd_getR F_St_15 i_St_copy_21 (fun a105 => ?_)
  refine jd_iconst 0 i_St_copy_24 (by decide) ?_
  refine jd_bipush 80 i_St_copy_25 (by decide) ?_
  refine jd_copyL Y_St_34 Y_n Y_s Y_i ⟨by decide, by decide⟩ (Nat.le_of_ble_eq_true rfl) i_St_copy_27 (fun h106 => ?_)
  refine jd_aload_n i_St_copy_30 rfl ?_
  refine jd_getR F_St_19 i_St_copy_31 (fun a107 => ?_)
  refine jd_iconst 0 i_St_copy_34 (by decide) ?_
  refine jd_aload_n i_St_copy_35 rfl ?_
  refine jd_getR F_St_19 i_St_copy_36 (fun a108 => ?_)
  refine jd_iconst 0 i_St_copy_39 (by decide) ?_
  refine jd_bipush 80 i_St_copy_40 (by decide) ?_
  refine jd_copyL Y_St_34 Y_n Y_s Y_i ⟨by decide, by decide⟩ (Nat.le_of_ble_eq_true rfl) i_St_copy_42 (fun h109 => ?_)
  refine jd_aload_n i_St_copy_45 rfl ?_
  refine jd_getR F_St_22 i_St_copy_46 (fun a110 => ?_)
  refine jd_iconst 0 i_St_copy_49 (by decide) ?_
  refine jd_aload_n i_St_copy_50 rfl ?_
  refine jd_getR F_St_22 i_St_copy_51 (fun a111 => ?_)
  refine jd_iconst 0 i_St_copy_54 (by decide) ?_
  refine jd_bipush 64 i_St_copy_55 (by decide) ?_
  refine jd_copyI Y_St_34 Y_n Y_s Y_i ⟨by decide, by decide⟩ (Nat.le_of_ble_eq_true rfl) i_St_copy_57 (fun h112 => ?_)
  exact jd_return i_St_copy_60 rfl
theorem c_St_copy {h : ja_H} {a0 : Nat} {a1 : Nat} {o : ja_H} (e : r_St_copy h a0 a1 = some o) : ja_M (1, 26) y_St_copy b_St_copy 2 (none) [.ref a0, .ref a1] h [] o := jc_of (g := ja_gV) false _ e e_St_copy rfl (by decide +kernel) (fun q => nomatch q) (Nat.le_of_ble_eq_true rfl) (fun _ q => nomatch q) (Nat.le_of_ble_eq_true rfl)
noncomputable def r_St_clear (h : ja_H) (a0 : Nat) (a1 : Int32) : Option (ja_H) := (jf_R h a0 6 0 (fun a101 => (js_I h a101 a1 (0 : Int32) (fun h102 => (jf_R h102 a0 6 1 (fun a103 => (js_L h102 a103 a1 (0 : Int64) (fun h104 => (jf_R h104 a0 6 2 (fun a105 => (js_L h104 a105 a1 (0 : Int64) (fun h106 => (some h106)))))))))))))
theorem e_St_clear {h : ja_H} {a0 : Nat} {a1 : Int32} : ja_D ja_gV M_St_clear 0 [some (.ref a0), some (.int a1)] [] h (r_St_clear h a0 a1) := by
  unfold r_St_clear
  refine jd_aload_n i_St_clear_0 rfl ?_
  refine jd_getR F_St_11 i_St_clear_1 (fun a101 => ?_)
  refine jd_iload_n i_St_clear_4 rfl ?_
  refine jd_iconst 0 i_St_clear_5 (by decide) ?_
  refine jd_iast i_St_clear_6 (fun h102 => ?_)
  refine jd_aload_n i_St_clear_7 rfl ?_
  refine jd_getR F_St_15 i_St_clear_8 (fun a103 => ?_)
  refine jd_iload_n i_St_clear_11 rfl ?_
  refine jd_lconst 0 i_St_clear_12 (by decide) ?_
  refine jd_last i_St_clear_13 (fun h104 => ?_)
  refine jd_aload_n i_St_clear_14 rfl ?_
  refine jd_getR F_St_19 i_St_clear_15 (fun a105 => ?_)
  refine jd_iload_n i_St_clear_18 rfl ?_
  refine jd_lconst 0 i_St_clear_19 (by decide) ?_
  refine jd_last i_St_clear_20 (fun h106 => ?_)
  exact jd_return i_St_clear_21 rfl
theorem c_St_clear {h : ja_H} {a0 : Nat} {a1 : Int32} {o : ja_H} (e : r_St_clear h a0 a1 = some o) : ja_M (0, 0) y_St_clear b_St_clear 2 (none) [.ref a0, .int a1] h [] o := jc_of (g := ja_gV) false _ e e_St_clear rfl (by decide +kernel) (fun q => nomatch q) (Nat.le_of_ble_eq_true rfl) (fun _ q => nomatch q) (Nat.le_of_ble_eq_true rfl)
noncomputable def r_St_points_25 (h : ja_H) (z0 : Int32) : Option (Int32 × ja_H) := (jb z0 (some (z0, h)))
theorem t_St_points_25 {h : ja_H} {z0 : Int32} : ja_D ja_gI M_St_points 25 [none, none] [.int z0] h (r_St_points_25 h z0) := by
  unfold r_St_points_25
  exact jd_zreturn i_St_points_25 rfl
noncomputable def r_St_points_20 (h : ja_H) : Option (Int32 × ja_H) := (r_St_points_25 h (1 : Int32))
theorem t_St_points_20 {h : ja_H} : ja_D ja_gI M_St_points 20 [none, none] [] h (r_St_points_20 h) := by
  unfold r_St_points_20
  refine jd_iconst 1 i_St_points_20 (by decide) ?_
  refine jd_goto 25 i_St_points_21 (by decide) ?_
  exact jd_less (t_St_points_25) trivial
noncomputable def r_St_points (h : ja_H) (a0 : Nat) (a1 : Int32) : Option (Int32 × ja_H) := (jf_R h a0 6 0 (fun a101 => (je_I h a101 0 a1 (fun v102 => (if v102 = (2 : Int32) then (r_St_points_20 h) else (jf_R h a0 6 0 (fun a103 => (je_I h a103 0 a1 (fun v104 => (if v104 = (3 : Int32) then (r_St_points_20 h) else (r_St_points_25 h (0 : Int32))))))))))))
theorem e_St_points {h : ja_H} {a0 : Nat} {a1 : Int32} : ja_D ja_gI M_St_points 0 [some (.ref a0), some (.int a1)] [] h (r_St_points h a0 a1) := by
  unfold r_St_points
  refine jd_aload_n i_St_points_0 rfl ?_
  refine jd_getR F_St_11 i_St_points_1 (fun a101 => ?_)
  refine jd_iload_n i_St_points_4 rfl ?_
  refine jd_iald i_St_points_5 (fun v102 => ?_)
  refine jd_iconst 2 i_St_points_6 (by decide) ?_
  refine jd_icmp_eq 20 i_St_points_7 (by decide) ?_ ?_
  · exact jd_less (t_St_points_20) trivial
  · refine jd_aload_n i_St_points_10 rfl ?_
    refine jd_getR F_St_11 i_St_points_11 (fun a103 => ?_)
    refine jd_iload_n i_St_points_14 rfl ?_
    refine jd_iald i_St_points_15 (fun v104 => ?_)
    refine jd_iconst 3 i_St_points_16 (by decide) ?_
    refine jd_icmp_ne 24 i_St_points_17 (by decide) ?_ ?_
    · refine jd_iconst 0 i_St_points_24 (by decide) ?_
      exact jd_less (t_St_points_25) trivial
    · exact jd_less (t_St_points_20) trivial
theorem c_St_points {h : ja_H} {a0 : Nat} {a1 : Int32} {o : Int32 × ja_H} (e : r_St_points h a0 a1 = some o) : ja_M (0, 0) y_St_points b_St_points 2 (some .boolean) [.ref a0, .int a1] h [.int o.1] o.2 := jc_of (g := ja_gI) false _ e e_St_points rfl (by decide +kernel) (fun q => nomatch q) (Nat.le_of_ble_eq_true rfl) (fun _ q => nomatch q) (Nat.le_of_ble_eq_true rfl)
noncomputable def r_Mt_max_J_11 (h : ja_H) (z0 : Int64) : Option (Int64 × ja_H) := (some (z0, h))
theorem t_Mt_max_J_11 {h : ja_H} {z0 : Int64} : ja_D ja_gL M_Mt_max_J 11 [none, none, none, none] [.long z0] h (r_Mt_max_J_11 h z0) := by
  unfold r_Mt_max_J_11
  exact jd_lreturn i_Mt_max_J_11 rfl
noncomputable def r_Mt_max_J (h : ja_H) (a0 : Int64) (a2 : Int64) : Option (Int64 × ja_H) := (if a0 < a2 then (r_Mt_max_J_11 h a2) else (r_Mt_max_J_11 h a0))
theorem e_Mt_max_J {h : ja_H} {a0 : Int64} {a2 : Int64} : ja_D ja_gL M_Mt_max_J 0 [some (.long a0), none, some (.long a2), none] [] h (r_Mt_max_J h a0 a2) := by
  unfold r_Mt_max_J
  refine jd_lload_n i_Mt_max_J_0 rfl ?_
  refine jd_lload_n i_Mt_max_J_1 rfl ?_
  refine jd_lcmp_lt 10 i_Mt_max_J_2 i_Mt_max_J_3 (by decide) ?_ ?_
  · refine jd_lload_n i_Mt_max_J_10 rfl ?_
    exact jd_less (t_Mt_max_J_11) trivial
  · refine jd_lload_n i_Mt_max_J_6 rfl ?_
    refine jd_goto 11 i_Mt_max_J_7 (by decide) ?_
    exact jd_less (t_Mt_max_J_11) trivial
theorem c_Mt_max_J {h : ja_H} {a0 : Int64} {a2 : Int64} {o : Int64 × ja_H} (e : r_Mt_max_J h a0 a2 = some o) : ja_M (0, 0) y_Mt_max_J b_Mt_max_J 4 (some .long) [.long a0, .long a2] h [.long o.1] o.2 := jc_of (g := ja_gL) false _ e e_Mt_max_J rfl (by decide +kernel) (fun q => nomatch q) (Nat.le_of_ble_eq_true rfl) (fun _ q => nomatch q) (Nat.le_of_ble_eq_true rfl)
noncomputable def r_Mt_min_J_11 (h : ja_H) (z0 : Int64) : Option (Int64 × ja_H) := (some (z0, h))
theorem t_Mt_min_J_11 {h : ja_H} {z0 : Int64} : ja_D ja_gL M_Mt_min_J 11 [none, none, none, none] [.long z0] h (r_Mt_min_J_11 h z0) := by
  unfold r_Mt_min_J_11
  exact jd_lreturn i_Mt_min_J_11 rfl
noncomputable def r_Mt_min_J (h : ja_H) (a0 : Int64) (a2 : Int64) : Option (Int64 × ja_H) := (if a2 < a0 then (r_Mt_min_J_11 h a2) else (r_Mt_min_J_11 h a0))
theorem e_Mt_min_J {h : ja_H} {a0 : Int64} {a2 : Int64} : ja_D ja_gL M_Mt_min_J 0 [some (.long a0), none, some (.long a2), none] [] h (r_Mt_min_J h a0 a2) := by
  unfold r_Mt_min_J
  refine jd_lload_n i_Mt_min_J_0 rfl ?_
  refine jd_lload_n i_Mt_min_J_1 rfl ?_
  refine jd_lcmp_gt 10 i_Mt_min_J_2 i_Mt_min_J_3 (by decide) ?_ ?_
  · refine jd_lload_n i_Mt_min_J_10 rfl ?_
    exact jd_less (t_Mt_min_J_11) trivial
  · refine jd_lload_n i_Mt_min_J_6 rfl ?_
    refine jd_goto 11 i_Mt_min_J_7 (by decide) ?_
    exact jd_less (t_Mt_min_J_11) trivial
theorem c_Mt_min_J {h : ja_H} {a0 : Int64} {a2 : Int64} {o : Int64 × ja_H} (e : r_Mt_min_J h a0 a2 = some o) : ja_M (0, 0) y_Mt_min_J b_Mt_min_J 4 (some .long) [.long a0, .long a2] h [.long o.1] o.2 := jc_of (g := ja_gL) false _ e e_Mt_min_J rfl (by decide +kernel) (fun q => nomatch q) (Nat.le_of_ble_eq_true rfl) (fun _ q => nomatch q) (Nat.le_of_ble_eq_true rfl)
noncomputable def r_St_joinCell_126 (h : ja_H) (y0 : Nat) (y1 : Int32) : Option (ja_H) := (jk h y0 6 (jc_V (r_St_clear h y0 y1) (fun h1 => (some h1))))
theorem t_St_joinCell_126 {h : ja_H} {y0 : Nat} {y1 : Int32} : ja_D ja_gV M_St_joinCell 126 [some (.ref y0), some (.int y1), none, none] [] h (r_St_joinCell_126 h y0 y1) := by
  unfold r_St_joinCell_126
  refine jd_aload_n i_St_joinCell_126 rfl ?_
  refine jd_iload_n i_St_joinCell_127 rfl ?_
  refine jd_callVV G_St_57 in_St_clear se_St_clear rfl (fun _ e => c_St_clear e) rfl ⟨by decide, by decide⟩ rfl (Nat.le_of_ble_eq_true rfl) i_St_joinCell_128 (fun h1 => ?_)
  exact jd_return i_St_joinCell_131 rfl
noncomputable def r_St_joinCell_116 (h : ja_H) (y0 : Nat) (y1 : Int32) : Option (ja_H) := (jf_R h y0 6 3 (fun a1 => (js_I h a1 (y1 - (16 : Int32)) (0 : Int32) (fun h2 => (r_St_joinCell_126 h2 y0 y1)))))
theorem t_St_joinCell_116 {h : ja_H} {y0 : Nat} {y1 : Int32} : ja_D ja_gV M_St_joinCell 116 [some (.ref y0), some (.int y1), none, none] [] h (r_St_joinCell_116 h y0 y1) := by
  unfold r_St_joinCell_116
  refine jd_aload_n i_St_joinCell_116 rfl ?_
  refine jd_getR F_St_22 i_St_joinCell_117 (fun a1 => ?_)
  refine jd_iload_n i_St_joinCell_120 rfl ?_
  refine jd_bipush 16 i_St_joinCell_121 (by decide) ?_
  refine jd_isub i_St_joinCell_123 ?_
  refine jd_iconst 0 i_St_joinCell_124 (by decide) ?_
  refine jd_iast i_St_joinCell_125 (fun h2 => ?_)
  exact jd_less (t_St_joinCell_126) ⟨rfl, rfl, trivial⟩
noncomputable def r_St_joinCell_94 (h : ja_H) (y0 : Nat) (y1 : Int32) (y2 : Nat) : Option (ja_H) := (if y1 < (16 : Int32) then (r_St_joinCell_126 h y0 y1) else (jk h y0 6 (jc_I (r_St_points h y0 y1) (fun v2 h1 => (if v2 = (0 : Int32) then (jk h1 y2 6 (jc_I (r_St_points h1 y2 y1) (fun v4 h3 => (if v4 = (0 : Int32) then (r_St_joinCell_126 h3 y0 y1) else (r_St_joinCell_116 h3 y0 y1))))) else (r_St_joinCell_116 h1 y0 y1))))))
theorem t_St_joinCell_94 {h : ja_H} {y0 : Nat} {y1 : Int32} {y2 : Nat} : ja_D ja_gV M_St_joinCell 94 [some (.ref y0), some (.int y1), some (.ref y2), none] [] h (r_St_joinCell_94 h y0 y1 y2) := by
  unfold r_St_joinCell_94
  refine jd_iload_n i_St_joinCell_94 rfl ?_
  refine jd_bipush 16 i_St_joinCell_95 (by decide) ?_
  refine jd_icmp_lt 126 i_St_joinCell_97 (by decide) ?_ ?_
  · exact jd_less (t_St_joinCell_126) ⟨rfl, rfl, trivial⟩
  · refine jd_aload_n i_St_joinCell_100 rfl ?_
    refine jd_iload_n i_St_joinCell_101 rfl ?_
    refine jd_callVI G_St_53 in_St_points se_St_points rfl (fun _ e => c_St_points e) rfl ⟨by decide, by decide⟩ rfl (Nat.le_of_ble_eq_true rfl) i_St_joinCell_102 (fun v2 h1 => ?_)
    refine jd_if_ne 116 i_St_joinCell_105 (by decide) ?_ ?_
    · exact jd_less (t_St_joinCell_116) ⟨rfl, rfl, trivial⟩
    · refine jd_aload_n i_St_joinCell_108 rfl ?_
      refine jd_iload_n i_St_joinCell_109 rfl ?_
      refine jd_callVI G_St_53 in_St_points se_St_points rfl (fun _ e => c_St_points e) rfl ⟨by decide, by decide⟩ rfl (Nat.le_of_ble_eq_true rfl) i_St_joinCell_110 (fun v4 h3 => ?_)
      refine jd_if_eq 126 i_St_joinCell_113 (by decide) ?_ ?_
      · exact jd_less (t_St_joinCell_126) ⟨rfl, rfl, trivial⟩
      · exact jd_less (t_St_joinCell_116) ⟨rfl, rfl, trivial⟩
noncomputable def r_St_joinCell_51 (h : ja_H) (y0 : Nat) (y1 : Int32) (y2 : Nat) : Option (ja_H) := (jf_R h y0 6 1 (fun a1 => (jf_R h y0 6 1 (fun a2 => (je_L h a2 y1 (fun v3 => (jf_R h y2 6 1 (fun a4 => (je_L h a4 y1 (fun v5 => (jc_L (r_Mt_min_J h v3 v5) (fun v7 h6 => (js_L h6 a1 y1 v7 (fun h8 => (jf_R h8 y0 6 2 (fun a9 => (jf_R h8 y0 6 2 (fun a10 => (je_L h8 a10 y1 (fun v11 => (jf_R h8 y2 6 2 (fun a12 => (je_L h8 a12 y1 (fun v13 => (jc_L (r_Mt_max_J h8 v11 v13) (fun v15 h14 => (js_L h14 a9 y1 v15 (fun h16 => (some h16)))))))))))))))))))))))))))))
theorem t_St_joinCell_51 {h : ja_H} {y0 : Nat} {y1 : Int32} {y2 : Nat} : ja_D ja_gV M_St_joinCell 51 [some (.ref y0), some (.int y1), some (.ref y2), none] [] h (r_St_joinCell_51 h y0 y1 y2) := by
  unfold r_St_joinCell_51
  refine jd_aload_n i_St_joinCell_51 rfl ?_
  refine jd_getR F_St_15 i_St_joinCell_52 (fun a1 => ?_)
  refine jd_iload_n i_St_joinCell_55 rfl ?_
  refine jd_aload_n i_St_joinCell_56 rfl ?_
  refine jd_getR F_St_15 i_St_joinCell_57 (fun a2 => ?_)
  refine jd_iload_n i_St_joinCell_60 rfl ?_
  refine jd_lald i_St_joinCell_61 (fun v3 => ?_)
  refine jd_aload_n i_St_joinCell_62 rfl ?_
  refine jd_getR F_St_15 i_St_joinCell_63 (fun a4 => ?_)
  refine jd_iload_n i_St_joinCell_66 rfl ?_
  refine jd_lald i_St_joinCell_67 (fun v5 => ?_)
  refine jd_callSL G_St_44 sc_Mt_min_J (fun _ e => c_Mt_min_J e) rfl ⟨by decide, by decide⟩ rfl (Nat.le_of_ble_eq_true rfl) i_St_joinCell_68 (fun v7 h6 => ?_)
  refine jd_last i_St_joinCell_71 (fun h8 => ?_)
  refine jd_aload_n i_St_joinCell_72 rfl ?_
  refine jd_getR F_St_19 i_St_joinCell_73 (fun a9 => ?_)
  refine jd_iload_n i_St_joinCell_76 rfl ?_
  refine jd_aload_n i_St_joinCell_77 rfl ?_
  refine jd_getR F_St_19 i_St_joinCell_78 (fun a10 => ?_)
  refine jd_iload_n i_St_joinCell_81 rfl ?_
  refine jd_lald i_St_joinCell_82 (fun v11 => ?_)
  refine jd_aload_n i_St_joinCell_83 rfl ?_
  refine jd_getR F_St_19 i_St_joinCell_84 (fun a12 => ?_)
  refine jd_iload_n i_St_joinCell_87 rfl ?_
  refine jd_lald i_St_joinCell_88 (fun v13 => ?_)
  refine jd_callSL G_St_50 sc_Mt_max_J (fun _ e => c_Mt_max_J e) rfl ⟨by decide, by decide⟩ rfl (Nat.le_of_ble_eq_true rfl) i_St_joinCell_89 (fun v15 h14 => ?_)
  refine jd_last i_St_joinCell_92 (fun h16 => ?_)
  exact jd_return i_St_joinCell_93 rfl
noncomputable def r_St_joinCell_20 (h : ja_H) (y0 : Nat) (y1 : Int32) (y2 : Nat) (z0 : Int32) : Option (ja_H) := (jl (z0 : Int32) (fun (x1 : Int32) => (if x1 = (0 : Int32) then (r_St_joinCell_94 h y0 y1 y2) else (jf_R h y0 6 0 (fun a2 => (je_I h a2 0 y1 (fun v3 => (if v3 = (3 : Int32) then (jf_R h y0 6 1 (fun a4 => (je_L h a4 y1 (fun v5 => (jf_R h y2 6 1 (fun a6 => (je_L h a6 y1 (fun v7 => (if v5 = v7 then (r_St_joinCell_51 h y0 y1 y2) else (r_St_joinCell_94 h y0 y1 y2)))))))))) else (r_St_joinCell_51 h y0 y1 y2)))))))))
theorem t_St_joinCell_20 {h : ja_H} {y0 : Nat} {y1 : Int32} {y2 : Nat} {z0 : Int32} : ja_D ja_gV M_St_joinCell 20 [some (.ref y0), some (.int y1), some (.ref y2), none] [.int z0] h (r_St_joinCell_20 h y0 y1 y2 z0) := by
  unfold r_St_joinCell_20
  refine jd_istore_n (fun x1 => [some (.ref y0), some (.int y1), some (.ref y2), some (.int x1)]) i_St_joinCell_20 (by decide) rfl (fun _ => rfl) (fun x1 => ?_)
  refine jd_iload_n i_St_joinCell_21 rfl ?_
  refine jd_if_eq 94 i_St_joinCell_22 (by decide) ?_ ?_
  · exact jd_less (t_St_joinCell_94) ⟨rfl, rfl, rfl, trivial⟩
  · refine jd_aload_n i_St_joinCell_25 rfl ?_
    refine jd_getR F_St_11 i_St_joinCell_26 (fun a2 => ?_)
    refine jd_iload_n i_St_joinCell_29 rfl ?_
    refine jd_iald i_St_joinCell_30 (fun v3 => ?_)
    refine jd_iconst 3 i_St_joinCell_31 (by decide) ?_
    refine jd_icmp_ne 51 i_St_joinCell_32 (by decide) ?_ ?_
    · exact jd_less (t_St_joinCell_51) ⟨rfl, rfl, rfl, trivial⟩
    · refine jd_aload_n i_St_joinCell_35 rfl ?_
      refine jd_getR F_St_15 i_St_joinCell_36 (fun a4 => ?_)
      refine jd_iload_n i_St_joinCell_39 rfl ?_
      refine jd_lald i_St_joinCell_40 (fun v5 => ?_)
      refine jd_aload_n i_St_joinCell_41 rfl ?_
      refine jd_getR F_St_15 i_St_joinCell_42 (fun a6 => ?_)
      refine jd_iload_n i_St_joinCell_45 rfl ?_
      refine jd_lald i_St_joinCell_46 (fun v7 => ?_)
      refine jd_lcmp_ne 94 i_St_joinCell_47 i_St_joinCell_48 (by decide) ?_ ?_
      · exact jd_less (t_St_joinCell_94) ⟨rfl, rfl, rfl, trivial⟩
      · exact jd_less (t_St_joinCell_51) ⟨rfl, rfl, rfl, trivial⟩
noncomputable def r_St_joinCell (h : ja_H) (a0 : Nat) (a1 : Int32) (a2 : Nat) : Option (ja_H) := (jf_R h a0 6 0 (fun a101 => (je_I h a101 0 a1 (fun v102 => (jf_R h a2 6 0 (fun a103 => (je_I h a103 0 a1 (fun v104 => (if v102 = v104 then (r_St_joinCell_20 h a0 a1 a2 (1 : Int32)) else (r_St_joinCell_20 h a0 a1 a2 (0 : Int32)))))))))))
theorem e_St_joinCell {h : ja_H} {a0 : Nat} {a1 : Int32} {a2 : Nat} : ja_D ja_gV M_St_joinCell 0 [some (.ref a0), some (.int a1), some (.ref a2), none] [] h (r_St_joinCell h a0 a1 a2) := by
  unfold r_St_joinCell
  refine jd_aload_n i_St_joinCell_0 rfl ?_
  refine jd_getR F_St_11 i_St_joinCell_1 (fun a101 => ?_)
  refine jd_iload_n i_St_joinCell_4 rfl ?_
  refine jd_iald i_St_joinCell_5 (fun v102 => ?_)
  refine jd_aload_n i_St_joinCell_6 rfl ?_
  refine jd_getR F_St_11 i_St_joinCell_7 (fun a103 => ?_)
  refine jd_iload_n i_St_joinCell_10 rfl ?_
  refine jd_iald i_St_joinCell_11 (fun v104 => ?_)
  refine jd_icmp_ne 19 i_St_joinCell_12 (by decide) ?_ ?_
  · refine jd_iconst 0 i_St_joinCell_19 (by decide) ?_
    exact jd_less (t_St_joinCell_20) ⟨rfl, rfl, rfl, trivial⟩
  · refine jd_iconst 1 i_St_joinCell_15 (by decide) ?_
    refine jd_goto 20 i_St_joinCell_16 (by decide) ?_
    exact jd_less (t_St_joinCell_20) ⟨rfl, rfl, rfl, trivial⟩
theorem c_St_joinCell {h : ja_H} {a0 : Nat} {a1 : Int32} {a2 : Nat} {o : ja_H} (e : r_St_joinCell h a0 a1 a2 = some o) : ja_M (1, 23) y_St_joinCell b_St_joinCell 4 (none) [.ref a0, .int a1, .ref a2] h [] o := jc_of (g := ja_gV) false _ e e_St_joinCell rfl (by decide +kernel) (fun q => nomatch q) (Nat.le_of_ble_eq_true rfl) (fun _ q => nomatch q) (Nat.le_of_ble_eq_true rfl)
noncomputable def q_St_join_31 (C31 : ja_H → Nat → Nat → Int32 → Option (ja_H)) (h : ja_H) (y0 : Nat) (y1 : Nat) (y2 : Int32) : Option (ja_H) := (if (80 : Int32) ≤ y2 then (some h) else (jk h y0 6 (jc_V (r_St_joinCell h y0 y2 y1) (fun h1 => (jl (y2 + 1 : Int32) (fun (x2 : Int32) => (C31 h1 y0 y1 x2)))))))
theorem t_St_join_31 {C31 : ja_H → Nat → Nat → Int32 → Option (ja_H)} (k31 : ∀ (h : ja_H) (y0 : Nat) (y1 : Nat) (y2 : Int32), ja_D ja_gV M_St_join 31 [some (.ref y0), some (.ref y1), some (.int y2)] [] h (C31 h y0 y1 y2)) {h : ja_H} {y0 : Nat} {y1 : Nat} {y2 : Int32} : ja_D ja_gV M_St_join 31 [some (.ref y0), some (.ref y1), some (.int y2)] [] h (q_St_join_31 C31 h y0 y1 y2) := by
  unfold q_St_join_31
  refine jd_iload_n i_St_join_31 rfl ?_
  refine jd_bipush 80 i_St_join_32 (by decide) ?_
  refine jd_icmp_ge 49 i_St_join_34 (by decide) ?_ ?_
  · exact jd_return i_St_join_49 rfl
  · refine jd_aload_n i_St_join_37 rfl ?_
    refine jd_iload_n i_St_join_38 rfl ?_
    refine jd_aload_n i_St_join_39 rfl ?_
    refine jd_callVV G_St_40 in_St_joinCell se_St_joinCell rfl (fun _ e => c_St_joinCell e) rfl ⟨by decide, by decide⟩ rfl (Nat.le_of_ble_eq_true rfl) i_St_join_40 (fun h1 => ?_)
    refine jd_iinc (fun x2 => [some (.ref y0), some (.ref y1), some (.int x2)]) i_St_join_43 rfl rfl (by decide) rfl (fun _ => rfl) (fun x2 => ?_)
    refine jd_goto 31 i_St_join_46 (by decide) ?_
    exact jd_less (k31 _ _ _ _) ⟨rfl, rfl, rfl, trivial⟩
noncomputable def r_St_join_31 : Nat → ja_H → Nat → Nat → Int32 → Option (ja_H) := ja_lo (q_St_join_31) (fun _ _ _ _ => none)
theorem s_St_join_31 : ∀ (n : Nat) (h : ja_H) (y0 : Nat) (y1 : Nat) (y2 : Int32), ja_D ja_gV M_St_join 31 [some (.ref y0), some (.ref y1), some (.int y2)] [] h (r_St_join_31 n h y0 y1 y2) := by
  intro n
  induction n with
  | zero => intro h y0 y1 y2 o e; cases e
  | succ n ih => intro h y0 y1 y2; exact t_St_join_31 ih
noncomputable def q_St_join_2 (C2 : ja_H → Nat → Nat → Int32 → Option (ja_H)) (h : ja_H) (y0 : Nat) (y1 : Nat) (y2 : Int32) : Option (ja_H) := (if (64 : Int32) ≤ y2 then (jl ((0 : Int32) : Int32) (fun (x1 : Int32) => (r_St_join_31 ja_fu h y0 y1 x1))) else (jf_R h y0 6 3 (fun a2 => (je_I h a2 0 y2 (fun v3 => (jf_R h y1 6 3 (fun a4 => (je_I h a4 0 y2 (fun v5 => (js_I h a2 y2 (v3 &&& v5) (fun h6 => (jl (y2 + 1 : Int32) (fun (x7 : Int32) => (C2 h6 y0 y1 x7))))))))))))))
theorem t_St_join_2 {C2 : ja_H → Nat → Nat → Int32 → Option (ja_H)} (k2 : ∀ (h : ja_H) (y0 : Nat) (y1 : Nat) (y2 : Int32), ja_D ja_gV M_St_join 2 [some (.ref y0), some (.ref y1), some (.int y2)] [] h (C2 h y0 y1 y2)) {h : ja_H} {y0 : Nat} {y1 : Nat} {y2 : Int32} : ja_D ja_gV M_St_join 2 [some (.ref y0), some (.ref y1), some (.int y2)] [] h (q_St_join_2 C2 h y0 y1 y2) := by
  unfold q_St_join_2
  refine jd_iload_n i_St_join_2 rfl ?_
  refine jd_bipush 64 i_St_join_3 (by decide) ?_
  refine jd_icmp_ge 29 i_St_join_5 (by decide) ?_ ?_
  · refine jd_iconst 0 i_St_join_29 (by decide) ?_
    refine jd_istore_n (fun x1 => [some (.ref y0), some (.ref y1), some (.int x1)]) i_St_join_30 (by decide) rfl (fun _ => rfl) (fun x1 => ?_)
    exact jd_less (s_St_join_31 ja_fu _ _ _ _) ⟨rfl, rfl, rfl, trivial⟩
  · refine jd_aload_n i_St_join_8 rfl ?_
    refine jd_getR F_St_22 i_St_join_9 (fun a2 => ?_)
    refine jd_iload_n i_St_join_12 rfl ?_
    refine jd_dup2 i_St_join_13 ?_
    refine jd_iald i_St_join_14 (fun v3 => ?_)
    refine jd_aload_n i_St_join_15 rfl ?_
    refine jd_getR F_St_22 i_St_join_16 (fun a4 => ?_)
    refine jd_iload_n i_St_join_19 rfl ?_
    refine jd_iald i_St_join_20 (fun v5 => ?_)
    refine jd_iand i_St_join_21 ?_
    refine jd_iast i_St_join_22 (fun h6 => ?_)
    refine jd_iinc (fun x7 => [some (.ref y0), some (.ref y1), some (.int x7)]) i_St_join_23 rfl rfl (by decide) rfl (fun _ => rfl) (fun x7 => ?_)
    refine jd_goto 2 i_St_join_26 (by decide) ?_
    exact jd_less (k2 _ _ _ _) ⟨rfl, rfl, rfl, trivial⟩
noncomputable def r_St_join_2 : Nat → ja_H → Nat → Nat → Int32 → Option (ja_H) := ja_lo (q_St_join_2) (fun _ _ _ _ => none)
theorem s_St_join_2 : ∀ (n : Nat) (h : ja_H) (y0 : Nat) (y1 : Nat) (y2 : Int32), ja_D ja_gV M_St_join 2 [some (.ref y0), some (.ref y1), some (.int y2)] [] h (r_St_join_2 n h y0 y1 y2) := by
  intro n
  induction n with
  | zero => intro h y0 y1 y2 o e; cases e
  | succ n ih => intro h y0 y1 y2; exact t_St_join_2 ih
noncomputable def r_St_join (h : ja_H) (a0 : Nat) (a1 : Nat) : Option (ja_H) := (jl ((0 : Int32) : Int32) (fun (x101 : Int32) => (r_St_join_2 ja_fu h a0 a1 x101)))
theorem e_St_join {h : ja_H} {a0 : Nat} {a1 : Nat} : ja_D ja_gV M_St_join 0 [some (.ref a0), some (.ref a1), none] [] h (r_St_join h a0 a1) := by
  unfold r_St_join
  refine jd_iconst 0 i_St_join_0 (by decide) ?_
  refine jd_istore_n (fun x101 => [some (.ref a0), some (.ref a1), some (.int x101)]) i_St_join_1 (by decide) rfl (fun _ => rfl) (fun x101 => ?_)
  exact jd_less (s_St_join_2 ja_fu _ _ _ _) ⟨rfl, rfl, rfl, trivial⟩
theorem c_St_join {h : ja_H} {a0 : Nat} {a1 : Nat} {o : ja_H} (e : r_St_join h a0 a1 = some o) : ja_M (2, 46) y_St_join b_St_join 3 (none) [.ref a0, .ref a1] h [] o := jc_of (g := ja_gV) false _ e e_St_join rfl (by decide +kernel) (fun q => nomatch q) (Nat.le_of_ble_eq_true rfl) (fun _ q => nomatch q) (Nat.le_of_ble_eq_true rfl)
noncomputable def r_Ju_flowTo_85 (h : ja_H) : Option (ja_H) := (some h)
theorem t_Ju_flowTo_85 {h : ja_H} : ja_D ja_gV M_Ju_flowTo 85 [none, none] [] h (r_Ju_flowTo_85 h) := by
  unfold r_Ju_flowTo_85
  exact jd_return i_Ju_flowTo_85 rfl
noncomputable def r_Ju_flowTo_34 (h : ja_H) (y0 : Nat) (y1 : Int32) : Option (ja_H) := (jf_R h y0 5 0 (fun a1 => (je_R h a1 y1 (fun a2 => (jf_I h a2 6 4 (fun v3 => (if v3 = (0 : Int32) then (jf_R h y0 5 0 (fun a4 => (je_R h a4 y1 (fun a5 => (jf_R h y0 5 1 (fun a6 => (jk h a5 6 (jc_V (r_St_copy h a5 a6) (fun h7 => (jf_R h7 y0 5 0 (fun a8 => (je_R h7 a8 y1 (fun a9 => (jp_Z h7 a9 6 4 (1 : Int32) (fun h10 => (r_Ju_flowTo_85 h10)))))))))))))))) else (jf_R h y0 5 0 (fun a11 => (je_R h a11 y1 (fun a12 => (jf_R h y0 5 1 (fun a13 => (jk h a12 6 (jc_V (r_St_join h a12 a13) (fun h14 => (r_Ju_flowTo_85 h14)))))))))))))))))
theorem t_Ju_flowTo_34 {h : ja_H} {y0 : Nat} {y1 : Int32} : ja_D ja_gV M_Ju_flowTo 34 [some (.ref y0), some (.int y1)] [] h (r_Ju_flowTo_34 h y0 y1) := by
  unfold r_Ju_flowTo_34
  refine jd_aload_n i_Ju_flowTo_34 rfl ?_
  refine jd_getR F_Ju_11 i_Ju_flowTo_35 (fun a1 => ?_)
  refine jd_iload_n i_Ju_flowTo_38 rfl ?_
  refine jd_aald i_Ju_flowTo_39 (fun a2 => ?_)
  refine jd_getI F_Ju_46 i_Ju_flowTo_40 (fun v3 => ?_)
  refine jd_if_eq 62 i_Ju_flowTo_43 (by decide) ?_ ?_
  · refine jd_aload_n i_Ju_flowTo_62 rfl ?_
    refine jd_getR F_Ju_11 i_Ju_flowTo_63 (fun a4 => ?_)
    refine jd_iload_n i_Ju_flowTo_66 rfl ?_
    refine jd_aald i_Ju_flowTo_67 (fun a5 => ?_)
    refine jd_aload_n i_Ju_flowTo_68 rfl ?_
    refine jd_getR F_Ju_18 i_Ju_flowTo_69 (fun a6 => ?_)
    refine jd_callVV G_Ju_77 in_St_copy se_St_copy rfl (fun _ e => c_St_copy e) rfl ⟨by decide, by decide⟩ rfl (Nat.le_of_ble_eq_true rfl) i_Ju_flowTo_72 (fun h7 => ?_)
    refine jd_aload_n i_Ju_flowTo_75 rfl ?_
    refine jd_getR F_Ju_11 i_Ju_flowTo_76 (fun a8 => ?_)
    refine jd_iload_n i_Ju_flowTo_79 rfl ?_
    refine jd_aald i_Ju_flowTo_80 (fun a9 => ?_)
    refine jd_iconst 1 i_Ju_flowTo_81 (by decide) ?_
    refine jd_putZ F_Ju_46 P_St_comeTo i_Ju_flowTo_82 (fun h10 => ?_)
    exact jd_less (t_Ju_flowTo_85) trivial
  · refine jd_aload_n i_Ju_flowTo_46 rfl ?_
    refine jd_getR F_Ju_11 i_Ju_flowTo_47 (fun a11 => ?_)
    refine jd_iload_n i_Ju_flowTo_50 rfl ?_
    refine jd_aald i_Ju_flowTo_51 (fun a12 => ?_)
    refine jd_aload_n i_Ju_flowTo_52 rfl ?_
    refine jd_getR F_Ju_18 i_Ju_flowTo_53 (fun a13 => ?_)
    refine jd_callVV G_Ju_105 in_St_join se_St_join rfl (fun _ e => c_St_join e) rfl ⟨by decide, by decide⟩ rfl (Nat.le_of_ble_eq_true rfl) i_Ju_flowTo_56 (fun h14 => ?_)
    refine jd_goto 85 i_Ju_flowTo_59 (by decide) ?_
    exact jd_less (t_Ju_flowTo_85) trivial
noncomputable def r_Ju_flowTo_11 (h : ja_H) : Option (ja_H) := (some h)
theorem t_Ju_flowTo_11 {h : ja_H} : ja_D ja_gV M_Ju_flowTo 11 [none, none] [] h (r_Ju_flowTo_11 h) := by
  unfold r_Ju_flowTo_11
  exact jd_return i_Ju_flowTo_11 rfl
noncomputable def r_Ju_flowTo (h : ja_H) (a0 : Nat) (a1 : Int32) : Option (ja_H) := (if a1 < (0 : Int32) then (r_Ju_flowTo_11 h) else (if a1 < (1024 : Int32) then (jf_R h a0 5 0 (fun a101 => (je_N h a101 a1 (jf_R h a0 5 0 (fun a102 => (jw_O h 6 (fun a103 h104 => (jc_V (r_St_init h104 a103) (fun h105 => (js_R h105 a102 6 a1 a103 (fun h106 => (r_Ju_flowTo_34 h106 a0 a1))))))))) (r_Ju_flowTo_34 h a0 a1)))) else (r_Ju_flowTo_11 h)))
theorem e_Ju_flowTo {h : ja_H} {a0 : Nat} {a1 : Int32} : ja_D ja_gV M_Ju_flowTo 0 [some (.ref a0), some (.int a1)] [] h (r_Ju_flowTo h a0 a1) := by
  unfold r_Ju_flowTo
  refine jd_iload_n i_Ju_flowTo_0 rfl ?_
  refine jd_if_lt 11 i_Ju_flowTo_1 (by decide) ?_ ?_
  · exact jd_less (t_Ju_flowTo_11) trivial
  · refine jd_iload_n i_Ju_flowTo_4 rfl ?_
    refine jd_sipush 1024 i_Ju_flowTo_5 (by decide) ?_
    refine jd_icmp_lt 12 i_Ju_flowTo_8 (by decide) ?_ ?_
    · refine jd_aload_n i_Ju_flowTo_12 rfl ?_
      refine jd_getR F_Ju_11 i_Ju_flowTo_13 (fun a101 => ?_)
      refine jd_iload_n i_Ju_flowTo_16 rfl ?_
      refine jd_aaldNonnull 34 i_Ju_flowTo_17 i_Ju_flowTo_18 (by decide) ?_ ?_
      · exact jd_less (t_Ju_flowTo_34) ⟨rfl, rfl, trivial⟩
      · refine jd_aload_n i_Ju_flowTo_21 rfl ?_
        refine jd_getR F_Ju_11 i_Ju_flowTo_22 (fun a102 => ?_)
        refine jd_iload_n i_Ju_flowTo_25 rfl ?_
        refine jd_new N_Ju_9 i_Ju_flowTo_26 (fun a103 h104 => ?_)
        refine jd_dupR i_Ju_flowTo_29 ?_
        refine jd_callIV G_Ju_17 in_St_init rfl rfl (fun _ e => c_St_init e) rfl ⟨by decide, by decide⟩ rfl (Nat.le_of_ble_eq_true rfl) i_Ju_flowTo_30 (fun h105 => ?_)
        refine jd_aast rfl i_Ju_flowTo_33 (fun h106 => ?_)
        exact jd_less (t_Ju_flowTo_34) ⟨rfl, rfl, trivial⟩
    · exact jd_less (t_Ju_flowTo_11) trivial
theorem c_Ju_flowTo {h : ja_H} {a0 : Nat} {a1 : Int32} {o : ja_H} (e : r_Ju_flowTo h a0 a1 = some o) : ja_M (3, 68) y_Ju_flowTo b_Ju_flowTo 2 (none) [.ref a0, .int a1] h [] o := jc_of (g := ja_gV) false _ e e_Ju_flowTo rfl (by decide +kernel) (fun q => nomatch q) (Nat.le_of_ble_eq_true rfl) (fun _ q => nomatch q) (Nat.le_of_ble_eq_true rfl)
noncomputable def q_As_fill_I_5 (C5 : ja_H → Nat → Int32 → Int32 → Int32 → Option (ja_H)) (h : ja_H) (y0 : Nat) (y1 : Int32) (y2 : Int32) (y3 : Int32) : Option (ja_H) := (if y3 ≤ y2 then (some h) else (js_I h y0 y2 y1 (fun h1 => (jl (y2 + 1 : Int32) (fun (x2 : Int32) => (C5 h1 y0 y1 x2 y3))))))
theorem t_As_fill_I_5 {C5 : ja_H → Nat → Int32 → Int32 → Int32 → Option (ja_H)} (k5 : ∀ (h : ja_H) (y0 : Nat) (y1 : Int32) (y2 : Int32) (y3 : Int32), ja_D ja_gV M_As_fill_I 5 [some (.ref y0), some (.int y1), some (.int y2), some (.int y3)] [] h (C5 h y0 y1 y2 y3)) {h : ja_H} {y0 : Nat} {y1 : Int32} {y2 : Int32} {y3 : Int32} : ja_D ja_gV M_As_fill_I 5 [some (.ref y0), some (.int y1), some (.int y2), some (.int y3)] [] h (q_As_fill_I_5 C5 h y0 y1 y2 y3) := by
  unfold q_As_fill_I_5
  refine jd_iload_n i_As_fill_I_5 rfl ?_
  refine jd_iload_n i_As_fill_I_6 rfl ?_
  refine jd_icmp_ge 20 i_As_fill_I_7 (by decide) ?_ ?_
  · exact jd_return i_As_fill_I_20 rfl
  · refine jd_aload_n i_As_fill_I_10 rfl ?_
    refine jd_iload_n i_As_fill_I_11 rfl ?_
    refine jd_iload_n i_As_fill_I_12 rfl ?_
    refine jd_iast i_As_fill_I_13 (fun h1 => ?_)
    refine jd_iinc (fun x2 => [some (.ref y0), some (.int y1), some (.int x2), some (.int y3)]) i_As_fill_I_14 rfl rfl (by decide) rfl (fun _ => rfl) (fun x2 => ?_)
    refine jd_goto 5 i_As_fill_I_17 (by decide) ?_
    exact jd_less (k5 _ _ _ _ _) ⟨rfl, rfl, rfl, rfl, trivial⟩
noncomputable def r_As_fill_I_5 : Nat → ja_H → Nat → Int32 → Int32 → Int32 → Option (ja_H) := ja_lo (q_As_fill_I_5) (fun _ _ _ _ _ => none)
theorem s_As_fill_I_5 : ∀ (n : Nat) (h : ja_H) (y0 : Nat) (y1 : Int32) (y2 : Int32) (y3 : Int32), ja_D ja_gV M_As_fill_I 5 [some (.ref y0), some (.int y1), some (.int y2), some (.int y3)] [] h (r_As_fill_I_5 n h y0 y1 y2 y3) := by
  intro n
  induction n with
  | zero => intro h y0 y1 y2 y3 o e; cases e
  | succ n ih => intro h y0 y1 y2 y3; exact t_As_fill_I_5 ih
noncomputable def r_As_fill_I (h : ja_H) (a0 : Nat) (a1 : Int32) : Option (ja_H) := (jl ((0 : Int32) : Int32) (fun (x101 : Int32) => (jg_n h a0 0 (fun v102 => (jl (v102 : Int32) (fun (x103 : Int32) => (r_As_fill_I_5 ja_fu h a0 a1 x101 x103)))))))
theorem e_As_fill_I {h : ja_H} {a0 : Nat} {a1 : Int32} : ja_D ja_gV M_As_fill_I 0 [some (.ref a0), some (.int a1), none, none] [] h (r_As_fill_I h a0 a1) := by
  unfold r_As_fill_I
  refine jd_iconst 0 i_As_fill_I_0 (by decide) ?_
  refine jd_istore_n (fun x101 => [some (.ref a0), some (.int a1), some (.int x101), none]) i_As_fill_I_1 (by decide) rfl (fun _ => rfl) (fun x101 => ?_)
  refine jd_aload_n i_As_fill_I_2 rfl ?_
  refine jd_alen (by decide) i_As_fill_I_3 (fun v102 => ?_)
  refine jd_istore_n (fun x103 => [some (.ref a0), some (.int a1), some (.int x101), some (.int x103)]) i_As_fill_I_4 (by decide) rfl (fun _ => rfl) (fun x103 => ?_)
  exact jd_less (s_As_fill_I_5 ja_fu _ _ _ _ _) ⟨rfl, rfl, rfl, rfl, trivial⟩
theorem c_As_fill_I {h : ja_H} {a0 : Nat} {a1 : Int32} {o : ja_H} (e : r_As_fill_I h a0 a1 = some o) : ja_M (0, 0) y_As_fill_I b_As_fill_I 4 (none) [.ref a0, .int a1] h [] o := jc_of (g := ja_gV) false _ e e_As_fill_I rfl (by decide +kernel) (fun q => nomatch q) (Nat.le_of_ble_eq_true rfl) (fun _ q => nomatch q) (Nat.le_of_ble_eq_true rfl)
noncomputable def q_As_fill_J_6 (C6 : ja_H → Nat → Int64 → Int32 → Int32 → Option (ja_H)) (h : ja_H) (y0 : Nat) (y1 : Int64) (y3 : Int32) (y4 : Int32) : Option (ja_H) := (if y4 ≤ y3 then (some h) else (js_L h y0 y3 y1 (fun h1 => (jl (y3 + 1 : Int32) (fun (x2 : Int32) => (C6 h1 y0 y1 x2 y4))))))
theorem t_As_fill_J_6 {C6 : ja_H → Nat → Int64 → Int32 → Int32 → Option (ja_H)} (k6 : ∀ (h : ja_H) (y0 : Nat) (y1 : Int64) (y3 : Int32) (y4 : Int32), ja_D ja_gV M_As_fill_J 6 [some (.ref y0), some (.long y1), none, some (.int y3), some (.int y4)] [] h (C6 h y0 y1 y3 y4)) {h : ja_H} {y0 : Nat} {y1 : Int64} {y3 : Int32} {y4 : Int32} : ja_D ja_gV M_As_fill_J 6 [some (.ref y0), some (.long y1), none, some (.int y3), some (.int y4)] [] h (q_As_fill_J_6 C6 h y0 y1 y3 y4) := by
  unfold q_As_fill_J_6
  refine jd_iload_n i_As_fill_J_6 rfl ?_
  refine jd_iload i_As_fill_J_7 rfl ?_
  refine jd_icmp_ge 22 i_As_fill_J_9 (by decide) ?_ ?_
  · exact jd_return i_As_fill_J_22 rfl
  · refine jd_aload_n i_As_fill_J_12 rfl ?_
    refine jd_iload_n i_As_fill_J_13 rfl ?_
    refine jd_lload_n i_As_fill_J_14 rfl ?_
    refine jd_last i_As_fill_J_15 (fun h1 => ?_)
    refine jd_iinc (fun x2 => [some (.ref y0), some (.long y1), none, some (.int x2), some (.int y4)]) i_As_fill_J_16 rfl rfl (by decide) rfl (fun _ => rfl) (fun x2 => ?_)
    refine jd_goto 6 i_As_fill_J_19 (by decide) ?_
    exact jd_less (k6 _ _ _ _ _) ⟨rfl, rfl, rfl, rfl, trivial⟩
noncomputable def r_As_fill_J_6 : Nat → ja_H → Nat → Int64 → Int32 → Int32 → Option (ja_H) := ja_lo (q_As_fill_J_6) (fun _ _ _ _ _ => none)
theorem s_As_fill_J_6 : ∀ (n : Nat) (h : ja_H) (y0 : Nat) (y1 : Int64) (y3 : Int32) (y4 : Int32), ja_D ja_gV M_As_fill_J 6 [some (.ref y0), some (.long y1), none, some (.int y3), some (.int y4)] [] h (r_As_fill_J_6 n h y0 y1 y3 y4) := by
  intro n
  induction n with
  | zero => intro h y0 y1 y3 y4 o e; cases e
  | succ n ih => intro h y0 y1 y3 y4; exact t_As_fill_J_6 ih
noncomputable def r_As_fill_J (h : ja_H) (a0 : Nat) (a1 : Int64) : Option (ja_H) := (jl ((0 : Int32) : Int32) (fun (x101 : Int32) => (jg_n h a0 1 (fun v102 => (jl (v102 : Int32) (fun (x103 : Int32) => (r_As_fill_J_6 ja_fu h a0 a1 x101 x103)))))))
theorem e_As_fill_J {h : ja_H} {a0 : Nat} {a1 : Int64} : ja_D ja_gV M_As_fill_J 0 [some (.ref a0), some (.long a1), none, none, none] [] h (r_As_fill_J h a0 a1) := by
  unfold r_As_fill_J
  refine jd_iconst 0 i_As_fill_J_0 (by decide) ?_
  refine jd_istore_n (fun x101 => [some (.ref a0), some (.long a1), none, some (.int x101), none]) i_As_fill_J_1 (by decide) rfl (fun _ => rfl) (fun x101 => ?_)
  refine jd_aload_n i_As_fill_J_2 rfl ?_
  refine jd_alen (by decide) i_As_fill_J_3 (fun v102 => ?_)
  refine jd_istore (fun x103 => [some (.ref a0), some (.long a1), none, some (.int x101), some (.int x103)]) i_As_fill_J_4 (by decide) rfl (fun _ => rfl) (fun x103 => ?_)
  exact jd_less (s_As_fill_J_6 ja_fu _ _ _ _ _) ⟨rfl, rfl, rfl, rfl, trivial⟩
theorem c_As_fill_J {h : ja_H} {a0 : Nat} {a1 : Int64} {o : ja_H} (e : r_As_fill_J h a0 a1 = some o) : ja_M (0, 0) y_As_fill_J b_As_fill_J 5 (none) [.ref a0, .long a1] h [] o := jc_of (g := ja_gV) false _ e e_As_fill_J rfl (by decide +kernel) (fun q => nomatch q) (Nat.le_of_ble_eq_true rfl) (fun _ q => nomatch q) (Nat.le_of_ble_eq_true rfl)
noncomputable def r_St_begin (h : ja_H) (a0 : Nat) : Option (ja_H) := (jf_R h a0 6 0 (fun a101 => (jc_V (r_As_fill_I h a101 (0 : Int32)) (fun h102 => (jf_R h102 a0 6 1 (fun a103 => (jc_V (r_As_fill_J h102 a103 (0 : Int64)) (fun h104 => (jf_R h104 a0 6 2 (fun a105 => (jc_V (r_As_fill_J h104 a105 (0 : Int64)) (fun h106 => (jf_R h106 a0 6 3 (fun a107 => (jc_V (r_As_fill_I h106 a107 (0 : Int32)) (fun h108 => (jf_R h108 a0 6 0 (fun a109 => (js_I h108 a109 (1 : Int32) (2 : Int32) (fun h110 => (jf_R h110 a0 6 0 (fun a111 => (js_I h110 a111 (10 : Int32) (3 : Int32) (fun h112 => (some h112)))))))))))))))))))))))))
theorem e_St_begin {h : ja_H} {a0 : Nat} : ja_D ja_gV M_St_begin 0 [some (.ref a0)] [] h (r_St_begin h a0) := by
  unfold r_St_begin
  refine jd_aload_n i_St_begin_0 rfl ?_
  refine jd_getR F_St_11 i_St_begin_1 (fun a101 => ?_)
  refine jd_iconst 0 i_St_begin_4 (by decide) ?_
  refine jd_callSV G_St_25 sc_As_fill_I (fun _ e => c_As_fill_I e) rfl ⟨by decide, by decide⟩ rfl (Nat.le_of_ble_eq_true rfl) i_St_begin_5 (fun h102 => ?_)
  refine jd_aload_n i_St_begin_8 rfl ?_
  refine jd_getR F_St_15 i_St_begin_9 (fun a103 => ?_)
  refine jd_lconst 0 i_St_begin_12 (by decide) ?_
  refine jd_callSV G_St_31 sc_As_fill_J (fun _ e => c_As_fill_J e) rfl ⟨by decide, by decide⟩ rfl (Nat.le_of_ble_eq_true rfl) i_St_begin_13 (fun h104 => ?_)
  refine jd_aload_n i_St_begin_16 rfl ?_
  refine jd_getR F_St_19 i_St_begin_17 (fun a105 => ?_)
  refine jd_lconst 0 i_St_begin_20 (by decide) ?_
  refine jd_callSV G_St_31 sc_As_fill_J (fun _ e => c_As_fill_J e) rfl ⟨by decide, by decide⟩ rfl (Nat.le_of_ble_eq_true rfl) i_St_begin_21 (fun h106 => ?_)
  refine jd_aload_n i_St_begin_24 rfl ?_
  refine jd_getR F_St_22 i_St_begin_25 (fun a107 => ?_)
  refine jd_iconst 0 i_St_begin_28 (by decide) ?_
  refine jd_callSV G_St_25 sc_As_fill_I (fun _ e => c_As_fill_I e) rfl ⟨by decide, by decide⟩ rfl (Nat.le_of_ble_eq_true rfl) i_St_begin_29 (fun h108 => ?_)
  refine jd_aload_n i_St_begin_32 rfl ?_
  refine jd_getR F_St_11 i_St_begin_33 (fun a109 => ?_)
  refine jd_iconst 1 i_St_begin_36 (by decide) ?_
  refine jd_iconst 2 i_St_begin_37 (by decide) ?_
  refine jd_iast i_St_begin_38 (fun h110 => ?_)
  refine jd_aload_n i_St_begin_39 rfl ?_
  refine jd_getR F_St_11 i_St_begin_40 (fun a111 => ?_)
  refine jd_bipush 10 i_St_begin_43 (by decide) ?_
  refine jd_iconst 3 i_St_begin_45 (by decide) ?_
  refine jd_iast i_St_begin_46 (fun h112 => ?_)
  exact jd_return i_St_begin_47 rfl
theorem c_St_begin {h : ja_H} {a0 : Nat} {o : ja_H} (e : r_St_begin h a0 = some o) : ja_M (1, 24) y_St_begin b_St_begin 1 (none) [.ref a0] h [] o := jc_of (g := ja_gV) false _ e e_St_begin rfl (by decide +kernel) (fun q => nomatch q) (Nat.le_of_ble_eq_true rfl) (fun _ q => nomatch q) (Nat.le_of_ble_eq_true rfl)
noncomputable def r_Ju_begin_48 (C22 : ja_H → Nat → Int32 → Option (ja_H)) (h : ja_H) (y0 : Nat) (y3 : Int32) : Option (ja_H) := (jl (y3 + 1 : Int32) (fun (x1 : Int32) => (C22 h y0 x1)))
theorem t_Ju_begin_48 {C22 : ja_H → Nat → Int32 → Option (ja_H)} (k22 : ∀ (h : ja_H) (y0 : Nat) (y3 : Int32), ja_D ja_gV M_Ju_begin 22 [some (.ref y0), none, none, some (.int y3)] [] h (C22 h y0 y3)) {h : ja_H} {y0 : Nat} {y3 : Int32} : ja_D ja_gV M_Ju_begin 48 [some (.ref y0), none, none, some (.int y3)] [] h (r_Ju_begin_48 C22 h y0 y3) := by
  unfold r_Ju_begin_48
  refine jd_iinc (fun x1 => [some (.ref y0), none, none, some (.int x1)]) i_Ju_begin_48 rfl rfl (by decide) rfl (fun _ => rfl) (fun x1 => ?_)
  refine jd_goto 22 i_Ju_begin_51 (by decide) ?_
  exact jd_less (k22 _ _ _) ⟨rfl, rfl, trivial⟩
noncomputable def q_Ju_begin_22 (C22 : ja_H → Nat → Int32 → Option (ja_H)) (h : ja_H) (y0 : Nat) (y3 : Int32) : Option (ja_H) := (if (1024 : Int32) ≤ y3 then (jf_R h y0 5 1 (fun a1 => (jk h a1 6 (jc_V (r_St_begin h a1) (fun h2 => (jk h2 y0 5 (jc_V (r_Ju_flowTo h2 y0 (0 : Int32)) (fun h3 => (some h3))))))))) else (jf_R h y0 5 0 (fun a4 => (je_N h a4 y3 (r_Ju_begin_48 C22 h y0 y3) (jf_R h y0 5 0 (fun a5 => (je_R h a5 y3 (fun a6 => (jp_Z h a6 6 4 (0 : Int32) (fun h7 => (r_Ju_begin_48 C22 h7 y0 y3)))))))))))
theorem t_Ju_begin_22 {C22 : ja_H → Nat → Int32 → Option (ja_H)} (k22 : ∀ (h : ja_H) (y0 : Nat) (y3 : Int32), ja_D ja_gV M_Ju_begin 22 [some (.ref y0), none, none, some (.int y3)] [] h (C22 h y0 y3)) {h : ja_H} {y0 : Nat} {y3 : Int32} : ja_D ja_gV M_Ju_begin 22 [some (.ref y0), none, none, some (.int y3)] [] h (q_Ju_begin_22 C22 h y0 y3) := by
  unfold q_Ju_begin_22
  refine jd_iload_n i_Ju_begin_22 rfl ?_
  refine jd_sipush 1024 i_Ju_begin_23 (by decide) ?_
  refine jd_icmp_ge 54 i_Ju_begin_26 (by decide) ?_ ?_
  · refine jd_aload_n i_Ju_begin_54 rfl ?_
    refine jd_getR F_Ju_18 i_Ju_begin_55 (fun a1 => ?_)
    refine jd_callVV G_Ju_99 in_St_begin se_St_begin rfl (fun _ e => c_St_begin e) rfl ⟨by decide, by decide⟩ rfl (Nat.le_of_ble_eq_true rfl) i_Ju_begin_58 (fun h2 => ?_)
    refine jd_aload_n i_Ju_begin_61 rfl ?_
    refine jd_iconst 0 i_Ju_begin_62 (by decide) ?_
    refine jd_callVV G_Ju_101 in_Ju_flowTo se_Ju_flowTo rfl (fun _ e => c_Ju_flowTo e) rfl ⟨by decide, by decide⟩ rfl (Nat.le_of_ble_eq_true rfl) i_Ju_begin_63 (fun h3 => ?_)
    exact jd_return i_Ju_begin_66 rfl
  · refine jd_aload_n i_Ju_begin_29 rfl ?_
    refine jd_getR F_Ju_11 i_Ju_begin_30 (fun a4 => ?_)
    refine jd_iload_n i_Ju_begin_33 rfl ?_
    refine jd_aaldNull 48 i_Ju_begin_34 i_Ju_begin_35 (by decide) ?_ ?_
    · exact jd_less (t_Ju_begin_48 k22) ⟨rfl, rfl, trivial⟩
    · refine jd_aload_n i_Ju_begin_38 rfl ?_
      refine jd_getR F_Ju_11 i_Ju_begin_39 (fun a5 => ?_)
      refine jd_iload_n i_Ju_begin_42 rfl ?_
      refine jd_aald i_Ju_begin_43 (fun a6 => ?_)
      refine jd_iconst 0 i_Ju_begin_44 (by decide) ?_
      refine jd_putZ F_Ju_46 P_St_comeTo i_Ju_begin_45 (fun h7 => ?_)
      exact jd_less (t_Ju_begin_48 k22) ⟨rfl, rfl, trivial⟩
noncomputable def r_Ju_begin_22 : Nat → ja_H → Nat → Int32 → Option (ja_H) := ja_lo (q_Ju_begin_22) (fun _ _ _ => none)
theorem s_Ju_begin_22 : ∀ (n : Nat) (h : ja_H) (y0 : Nat) (y3 : Int32), ja_D ja_gV M_Ju_begin 22 [some (.ref y0), none, none, some (.int y3)] [] h (r_Ju_begin_22 n h y0 y3) := by
  intro n
  induction n with
  | zero => intro h y0 y3 o e; cases e
  | succ n ih => intro h y0 y3; exact t_Ju_begin_22 ih
noncomputable def r_Ju_begin (h : ja_H) (a0 : Nat) (a1 : Int32) (a2 : Int32) : Option (ja_H) := (jp_I h a0 5 6 a1 (fun h101 => (jp_I h101 a0 5 7 a2 (fun h102 => (jp_I h102 a0 5 8 (0 : Int32) (fun h103 => (jp_I h103 a0 5 9 (-1 : Int32) (fun h104 => (jl ((0 : Int32) : Int32) (fun (x105 : Int32) => (r_Ju_begin_22 ja_fu h104 a0 x105)))))))))))
theorem e_Ju_begin {h : ja_H} {a0 : Nat} {a1 : Int32} {a2 : Int32} : ja_D ja_gV M_Ju_begin 0 [some (.ref a0), some (.int a1), some (.int a2), none] [] h (r_Ju_begin h a0 a1 a2) := by
  unfold r_Ju_begin
  refine jd_aload_n i_Ju_begin_0 rfl ?_
  refine jd_iload_n i_Ju_begin_1 rfl ?_
  refine jd_putI F_Ju_42 P_Ju_length i_Ju_begin_2 (fun h101 => ?_)
  refine jd_aload_n i_Ju_begin_5 rfl ?_
  refine jd_iload_n i_Ju_begin_6 rfl ?_
  refine jd_putI F_Ju_96 P_Ju_contextLength i_Ju_begin_7 (fun h102 => ?_)
  refine jd_aload_n i_Ju_begin_10 rfl ?_
  refine jd_iconst 0 i_Ju_begin_11 (by decide) ?_
  refine jd_putI F_Ju_75 P_Ju_comeTo i_Ju_begin_12 (fun h103 => ?_)
  refine jd_aload_n i_Ju_begin_15 rfl ?_
  refine jd_iconst (-1) i_Ju_begin_16 (by decide) ?_
  refine jd_putI F_Ju_93 P_Ju_faultAt i_Ju_begin_17 (fun h104 => ?_)
  refine jd_iconst 0 i_Ju_begin_20 (by decide) ?_
  refine jd_istore_n (fun x105 => [some (.ref a0), some (.int a1), some (.int a2), some (.int x105)]) i_Ju_begin_21 (by decide) rfl (fun _ => rfl) (fun x105 => ?_)
  exact jd_less (s_Ju_begin_22 ja_fu _ _ _) ⟨rfl, rfl, trivial⟩
theorem c_Ju_begin {h : ja_H} {a0 : Nat} {a1 : Int32} {a2 : Int32} {o : ja_H} (e : r_Ju_begin h a0 a1 a2 = some o) : ja_M (4, 89) y_Ju_begin b_Ju_begin 4 (none) [.ref a0, .int a1, .int a2] h [] o := jc_of (g := ja_gV) false _ e e_Ju_begin rfl (by decide +kernel) (fun q => nomatch q) (Nat.le_of_ble_eq_true rfl) (fun _ q => nomatch q) (Nat.le_of_ble_eq_true rfl)
noncomputable def r_Va_become (h : ja_H) (a0 : Nat) (a1 : Int32) (a2 : Int64) (a4 : Int64) : Option (ja_H) := (jp_I h a0 7 0 a1 (fun h101 => (jp_L h101 a0 7 1 a2 (fun h102 => (jp_L h102 a0 7 2 a4 (fun h103 => (some h103)))))))
theorem e_Va_become {h : ja_H} {a0 : Nat} {a1 : Int32} {a2 : Int64} {a4 : Int64} : ja_D ja_gV M_Va_become 0 [some (.ref a0), some (.int a1), some (.long a2), none, some (.long a4), none] [] h (r_Va_become h a0 a1 a2 a4) := by
  unfold r_Va_become
  refine jd_aload_n i_Va_become_0 rfl ?_
  refine jd_iload_n i_Va_become_1 rfl ?_
  refine jd_putI F_Va_9 P_Va_kind i_Va_become_2 (fun h101 => ?_)
  refine jd_aload_n i_Va_become_5 rfl ?_
  refine jd_lload_n i_Va_become_6 rfl ?_
  refine jd_putL F_Va_15 P_Va_low i_Va_become_7 (fun h102 => ?_)
  refine jd_aload_n i_Va_become_10 rfl ?_
  refine jd_lload i_Va_become_11 rfl ?_
  refine jd_putL F_Va_19 P_Va_high i_Va_become_13 (fun h103 => ?_)
  exact jd_return i_Va_become_16 rfl
theorem c_Va_become {h : ja_H} {a0 : Nat} {a1 : Int32} {a2 : Int64} {a4 : Int64} {o : ja_H} (e : r_Va_become h a0 a1 a2 a4 = some o) : ja_M (0, 0) y_Va_become b_Va_become 6 (none) [.ref a0, .int a1, .long a2, .long a4] h [] o := jc_of (g := ja_gV) false _ e e_Va_become rfl (by decide +kernel) (fun q => nomatch q) (Nat.le_of_ble_eq_true rfl) (fun _ q => nomatch q) (Nat.le_of_ble_eq_true rfl)
noncomputable def r_Va_isOne_17 (h : ja_H) (z0 : Int32) : Option (Int32 × ja_H) := (jb z0 (some (z0, h)))
theorem t_Va_isOne_17 {h : ja_H} {z0 : Int32} : ja_D ja_gI M_Va_isOne 17 [none] [.int z0] h (r_Va_isOne_17 h z0) := by
  unfold r_Va_isOne_17
  exact jd_zreturn i_Va_isOne_17 rfl
noncomputable def r_Va_isOne (h : ja_H) (a0 : Nat) : Option (Int32 × ja_H) := (jf_L h a0 7 1 (fun v101 => (jf_L h a0 7 2 (fun v102 => (if v101 = v102 then (r_Va_isOne_17 h (1 : Int32)) else (r_Va_isOne_17 h (0 : Int32)))))))
theorem e_Va_isOne {h : ja_H} {a0 : Nat} : ja_D ja_gI M_Va_isOne 0 [some (.ref a0)] [] h (r_Va_isOne h a0) := by
  unfold r_Va_isOne
  refine jd_aload_n i_Va_isOne_0 rfl ?_
  refine jd_getL F_Va_15 i_Va_isOne_1 (fun v101 => ?_)
  refine jd_aload_n i_Va_isOne_4 rfl ?_
  refine jd_getL F_Va_19 i_Va_isOne_5 (fun v102 => ?_)
  refine jd_lcmp_ne 16 i_Va_isOne_8 i_Va_isOne_9 (by decide) ?_ ?_
  · refine jd_iconst 0 i_Va_isOne_16 (by decide) ?_
    exact jd_less (t_Va_isOne_17) trivial
  · refine jd_iconst 1 i_Va_isOne_12 (by decide) ?_
    refine jd_goto 17 i_Va_isOne_13 (by decide) ?_
    exact jd_less (t_Va_isOne_17) trivial
theorem c_Va_isOne {h : ja_H} {a0 : Nat} {o : Int32 × ja_H} (e : r_Va_isOne h a0 = some o) : ja_M (0, 0) y_Va_isOne b_Va_isOne 1 (some .boolean) [.ref a0] h [.int o.1] o.2 := jc_of (g := ja_gI) false _ e e_Va_isOne rfl (by decide +kernel) (fun q => nomatch q) (Nat.le_of_ble_eq_true rfl) (fun _ q => nomatch q) (Nat.le_of_ble_eq_true rfl)
noncomputable def r_Va_isWithin_23 (h : ja_H) (z0 : Int32) : Option (Int32 × ja_H) := (jb z0 (some (z0, h)))
theorem t_Va_isWithin_23 {h : ja_H} {z0 : Int32} : ja_D ja_gI M_Va_isWithin 23 [none, none, none, none, none] [.int z0] h (r_Va_isWithin_23 h z0) := by
  unfold r_Va_isWithin_23
  exact jd_zreturn i_Va_isWithin_23 rfl
noncomputable def r_Va_isWithin_22 (h : ja_H) : Option (Int32 × ja_H) := (r_Va_isWithin_23 h (0 : Int32))
theorem t_Va_isWithin_22 {h : ja_H} : ja_D ja_gI M_Va_isWithin 22 [none, none, none, none, none] [] h (r_Va_isWithin_22 h) := by
  unfold r_Va_isWithin_22
  refine jd_iconst 0 i_Va_isWithin_22 (by decide) ?_
  exact jd_less (t_Va_isWithin_23) trivial
noncomputable def r_Va_isWithin (h : ja_H) (a0 : Nat) (a1 : Int64) (a3 : Int64) : Option (Int32 × ja_H) := (jf_L h a0 7 1 (fun v101 => (if v101 < a1 then (r_Va_isWithin_22 h) else (jf_L h a0 7 2 (fun v102 => (if a3 < v102 then (r_Va_isWithin_22 h) else (r_Va_isWithin_23 h (1 : Int32))))))))
theorem e_Va_isWithin {h : ja_H} {a0 : Nat} {a1 : Int64} {a3 : Int64} : ja_D ja_gI M_Va_isWithin 0 [some (.ref a0), some (.long a1), none, some (.long a3), none] [] h (r_Va_isWithin h a0 a1 a3) := by
  unfold r_Va_isWithin
  refine jd_aload_n i_Va_isWithin_0 rfl ?_
  refine jd_getL F_Va_15 i_Va_isWithin_1 (fun v101 => ?_)
  refine jd_lload_n i_Va_isWithin_4 rfl ?_
  refine jd_lcmp_lt 22 i_Va_isWithin_5 i_Va_isWithin_6 (by decide) ?_ ?_
  · exact jd_less (t_Va_isWithin_22) trivial
  · refine jd_aload_n i_Va_isWithin_9 rfl ?_
    refine jd_getL F_Va_19 i_Va_isWithin_10 (fun v102 => ?_)
    refine jd_lload_n i_Va_isWithin_13 rfl ?_
    refine jd_lcmp_gt 22 i_Va_isWithin_14 i_Va_isWithin_15 (by decide) ?_ ?_
    · exact jd_less (t_Va_isWithin_22) trivial
    · refine jd_iconst 1 i_Va_isWithin_18 (by decide) ?_
      refine jd_goto 23 i_Va_isWithin_19 (by decide) ?_
      exact jd_less (t_Va_isWithin_23) trivial
theorem c_Va_isWithin {h : ja_H} {a0 : Nat} {a1 : Int64} {a3 : Int64} {o : Int32 × ja_H} (e : r_Va_isWithin h a0 a1 a3 = some o) : ja_M (0, 0) y_Va_isWithin b_Va_isWithin 5 (some .boolean) [.ref a0, .long a1, .long a3] h [.int o.1] o.2 := jc_of (g := ja_gI) false _ e e_Va_isWithin rfl (by decide +kernel) (fun q => nomatch q) (Nat.le_of_ble_eq_true rfl) (fun _ q => nomatch q) (Nat.le_of_ble_eq_true rfl)
noncomputable def r_Nu_takeLowest32_51 (h : ja_H) : Option (ja_H) := (some h)
theorem t_Nu_takeLowest32_51 {h : ja_H} : ja_D ja_gV M_Nu_takeLowest32 51 [none] [] h (r_Nu_takeLowest32_51 h) := by
  unfold r_Nu_takeLowest32_51
  exact jd_return i_Nu_takeLowest32_51 rfl
noncomputable def r_Nu_takeLowest32 (h : ja_H) (a0 : Nat) : Option (ja_H) := (jk h a0 7 (jc_I (r_Va_isOne h a0) (fun v102 h101 => (if v102 = (0 : Int32) then (jk h101 a0 7 (jc_I (r_Va_isWithin h101 a0 (0 : Int64) (4294967295 : Int64)) (fun v104 h103 => (if v104 = (0 : Int32) then (jk h103 a0 7 (jc_V (r_Va_become h103 a0 (1 : Int32) (0 : Int64) (4294967295 : Int64)) (fun h105 => (r_Nu_takeLowest32_51 h105)))) else (r_Nu_takeLowest32_51 h103))))) else (jf_L h101 a0 7 1 (fun v106 => (jf_L h101 a0 7 1 (fun v107 => (jk h101 a0 7 (jc_V (r_Va_become h101 a0 (1 : Int32) (v106 &&& (4294967295 : Int64)) (v107 &&& (4294967295 : Int64))) (fun h108 => (r_Nu_takeLowest32_51 h108))))))))))))
theorem e_Nu_takeLowest32 {h : ja_H} {a0 : Nat} : ja_D ja_gV M_Nu_takeLowest32 0 [some (.ref a0)] [] h (r_Nu_takeLowest32 h a0) := by
  unfold r_Nu_takeLowest32
  refine jd_aload_n i_Nu_takeLowest32_0 rfl ?_
  refine jd_callVI G_Nu_21 in_Va_isOne se_Va_isOne rfl (fun _ e => c_Va_isOne e) rfl ⟨by decide, by decide⟩ rfl (Nat.le_of_ble_eq_true rfl) i_Nu_takeLowest32_1 (fun v102 h101 => ?_)
  refine jd_if_eq 31 i_Nu_takeLowest32_4 (by decide) ?_ ?_
  · refine jd_aload_n i_Nu_takeLowest32_31 rfl ?_
    refine jd_lconst 0 i_Nu_takeLowest32_32 (by decide) ?_
    refine jd_ldc2 i_Nu_takeLowest32_33 K_Nu_48 ?_
    refine jd_callVI G_Nu_50 in_Va_isWithin se_Va_isWithin rfl (fun _ e => c_Va_isWithin e) rfl ⟨by decide, by decide⟩ rfl (Nat.le_of_ble_eq_true rfl) i_Nu_takeLowest32_36 (fun v104 h103 => ?_)
    refine jd_if_ne 51 i_Nu_takeLowest32_39 (by decide) ?_ ?_
    · exact jd_less (t_Nu_takeLowest32_51) trivial
    · refine jd_aload_n i_Nu_takeLowest32_42 rfl ?_
      refine jd_iconst 1 i_Nu_takeLowest32_43 (by decide) ?_
      refine jd_lconst 0 i_Nu_takeLowest32_44 (by decide) ?_
      refine jd_ldc2 i_Nu_takeLowest32_45 K_Nu_48 ?_
      refine jd_callVV G_Nu_40 in_Va_become se_Va_become rfl (fun _ e => c_Va_become e) rfl ⟨by decide, by decide⟩ rfl (Nat.le_of_ble_eq_true rfl) i_Nu_takeLowest32_48 (fun h105 => ?_)
      exact jd_less (t_Nu_takeLowest32_51) trivial
  · refine jd_aload_n i_Nu_takeLowest32_7 rfl ?_
    refine jd_iconst 1 i_Nu_takeLowest32_8 (by decide) ?_
    refine jd_aload_n i_Nu_takeLowest32_9 rfl ?_
    refine jd_getL F_Nu_30 i_Nu_takeLowest32_10 (fun v106 => ?_)
    refine jd_ldc2 i_Nu_takeLowest32_13 K_Nu_48 ?_
    refine jd_land i_Nu_takeLowest32_16 ?_
    refine jd_aload_n i_Nu_takeLowest32_17 rfl ?_
    refine jd_getL F_Nu_30 i_Nu_takeLowest32_18 (fun v107 => ?_)
    refine jd_ldc2 i_Nu_takeLowest32_21 K_Nu_48 ?_
    refine jd_land i_Nu_takeLowest32_24 ?_
    refine jd_callVV G_Nu_40 in_Va_become se_Va_become rfl (fun _ e => c_Va_become e) rfl ⟨by decide, by decide⟩ rfl (Nat.le_of_ble_eq_true rfl) i_Nu_takeLowest32_25 (fun h108 => ?_)
    refine jd_goto 51 i_Nu_takeLowest32_28 (by decide) ?_
    exact jd_less (t_Nu_takeLowest32_51) trivial
theorem c_Nu_takeLowest32 {h : ja_H} {a0 : Nat} {o : ja_H} (e : r_Nu_takeLowest32 h a0 = some o) : ja_M (1, 25) y_Nu_takeLowest32 b_Nu_takeLowest32 1 (none) [.ref a0] h [] o := jc_of (g := ja_gV) false _ e e_Nu_takeLowest32 rfl (by decide +kernel) (fun q => nomatch q) (Nat.le_of_ble_eq_true rfl) (fun _ q => nomatch q) (Nat.le_of_ble_eq_true rfl)
noncomputable def r_Va_isPointer_21 (h : ja_H) (z0 : Int32) : Option (Int32 × ja_H) := (jb z0 (some (z0, h)))
theorem t_Va_isPointer_21 {h : ja_H} {z0 : Int32} : ja_D ja_gI M_Va_isPointer 21 [none] [.int z0] h (r_Va_isPointer_21 h z0) := by
  unfold r_Va_isPointer_21
  exact jd_zreturn i_Va_isPointer_21 rfl
noncomputable def r_Va_isPointer_16 (h : ja_H) : Option (Int32 × ja_H) := (r_Va_isPointer_21 h (1 : Int32))
theorem t_Va_isPointer_16 {h : ja_H} : ja_D ja_gI M_Va_isPointer 16 [none] [] h (r_Va_isPointer_16 h) := by
  unfold r_Va_isPointer_16
  refine jd_iconst 1 i_Va_isPointer_16 (by decide) ?_
  refine jd_goto 21 i_Va_isPointer_17 (by decide) ?_
  exact jd_less (t_Va_isPointer_21) trivial
noncomputable def r_Va_isPointer (h : ja_H) (a0 : Nat) : Option (Int32 × ja_H) := (jf_I h a0 7 0 (fun v101 => (if v101 = (2 : Int32) then (r_Va_isPointer_16 h) else (jf_I h a0 7 0 (fun v102 => (if v102 = (3 : Int32) then (r_Va_isPointer_16 h) else (r_Va_isPointer_21 h (0 : Int32))))))))
theorem e_Va_isPointer {h : ja_H} {a0 : Nat} : ja_D ja_gI M_Va_isPointer 0 [some (.ref a0)] [] h (r_Va_isPointer h a0) := by
  unfold r_Va_isPointer
  refine jd_aload_n i_Va_isPointer_0 rfl ?_
  refine jd_getI F_Va_9 i_Va_isPointer_1 (fun v101 => ?_)
  refine jd_iconst 2 i_Va_isPointer_4 (by decide) ?_
  refine jd_icmp_eq 16 i_Va_isPointer_5 (by decide) ?_ ?_
  · exact jd_less (t_Va_isPointer_16) trivial
  · refine jd_aload_n i_Va_isPointer_8 rfl ?_
    refine jd_getI F_Va_9 i_Va_isPointer_9 (fun v102 => ?_)
    refine jd_iconst 3 i_Va_isPointer_12 (by decide) ?_
    refine jd_icmp_ne 20 i_Va_isPointer_13 (by decide) ?_ ?_
    · refine jd_iconst 0 i_Va_isPointer_20 (by decide) ?_
      exact jd_less (t_Va_isPointer_21) trivial
    · exact jd_less (t_Va_isPointer_16) trivial
theorem c_Va_isPointer {h : ja_H} {a0 : Nat} {o : Int32 × ja_H} (e : r_Va_isPointer h a0 = some o) : ja_M (0, 0) y_Va_isPointer b_Va_isPointer 1 (some .boolean) [.ref a0] h [.int o.1] o.2 := jc_of (g := ja_gI) false _ e e_Va_isPointer rfl (by decide +kernel) (fun q => nomatch q) (Nat.le_of_ble_eq_true rfl) (fun _ q => nomatch q) (Nat.le_of_ble_eq_true rfl)
noncomputable def r_Wo_isOf32_25 (h : ja_H) (z0 : Int32) : Option (Int32 × ja_H) := (jb z0 (some (z0, h)))
theorem t_Wo_isOf32_25 {h : ja_H} {z0 : Int32} : ja_D ja_gI M_Wo_isOf32 25 [none] [.int z0] h (r_Wo_isOf32_25 h z0) := by
  unfold r_Wo_isOf32_25
  exact jd_zreturn i_Wo_isOf32_25 rfl
noncomputable def r_Wo_isOf32_24 (h : ja_H) : Option (Int32 × ja_H) := (r_Wo_isOf32_25 h (0 : Int32))
theorem t_Wo_isOf32_24 {h : ja_H} : ja_D ja_gI M_Wo_isOf32 24 [none] [] h (r_Wo_isOf32_24 h) := by
  unfold r_Wo_isOf32_24
  refine jd_iconst 0 i_Wo_isOf32_24 (by decide) ?_
  exact jd_less (t_Wo_isOf32_25) trivial
noncomputable def r_Wo_isOf32 (h : ja_H) (a0 : Nat) : Option (Int32 × ja_H) := (jf_I h a0 4 0 (fun v101 => (if (v101 &&& (7 : Int32)) = (4 : Int32) then (jf_I h a0 4 6 (fun v102 => (if v102 = (13 : Int32) then (r_Wo_isOf32_24 h) else (r_Wo_isOf32_25 h (1 : Int32))))) else (r_Wo_isOf32_24 h))))
theorem e_Wo_isOf32 {h : ja_H} {a0 : Nat} : ja_D ja_gI M_Wo_isOf32 0 [some (.ref a0)] [] h (r_Wo_isOf32 h a0) := by
  unfold r_Wo_isOf32
  refine jd_aload_n i_Wo_isOf32_0 rfl ?_
  refine jd_getI F_Wo_9 i_Wo_isOf32_1 (fun v101 => ?_)
  refine jd_bipush 7 i_Wo_isOf32_4 (by decide) ?_
  refine jd_iand i_Wo_isOf32_6 ?_
  refine jd_iconst 4 i_Wo_isOf32_7 (by decide) ?_
  refine jd_icmp_ne 24 i_Wo_isOf32_8 (by decide) ?_ ?_
  · exact jd_less (t_Wo_isOf32_24) trivial
  · refine jd_aload_n i_Wo_isOf32_11 rfl ?_
    refine jd_getI F_Wo_27 i_Wo_isOf32_12 (fun v102 => ?_)
    refine jd_bipush 13 i_Wo_isOf32_15 (by decide) ?_
    refine jd_icmp_eq 24 i_Wo_isOf32_17 (by decide) ?_ ?_
    · exact jd_less (t_Wo_isOf32_24) trivial
    · refine jd_iconst 1 i_Wo_isOf32_20 (by decide) ?_
      refine jd_goto 25 i_Wo_isOf32_21 (by decide) ?_
      exact jd_less (t_Wo_isOf32_25) trivial
theorem c_Wo_isOf32 {h : ja_H} {a0 : Nat} {o : Int32 × ja_H} (e : r_Wo_isOf32 h a0 = some o) : ja_M (0, 0) y_Wo_isOf32 b_Wo_isOf32 1 (some .boolean) [.ref a0] h [.int o.1] o.2 := jc_of (g := ja_gI) false _ e e_Wo_isOf32 rfl (by decide +kernel) (fun q => nomatch q) (Nat.le_of_ble_eq_true rfl) (fun _ q => nomatch q) (Nat.le_of_ble_eq_true rfl)
noncomputable def r_Ju_move_30 (h : ja_H) (y0 : Nat) : Option (Int32 × ja_H) := (jf_R h y0 5 3 (fun a1 => (jf_R h y0 5 4 (fun a2 => (jf_I h a2 7 0 (fun v3 => (jf_R h y0 5 4 (fun a4 => (jf_L h a4 7 1 (fun v5 => (jf_R h y0 5 4 (fun a6 => (jf_L h a6 7 2 (fun v7 => (jk h a1 7 (jc_V (r_Va_become h a1 v3 v5 v7) (fun h8 => (some ((0 : Int32), h8)))))))))))))))))))
theorem t_Ju_move_30 {h : ja_H} {y0 : Nat} : ja_D ja_gI M_Ju_move 30 [some (.ref y0)] [] h (r_Ju_move_30 h y0) := by
  unfold r_Ju_move_30
  refine jd_aload_n i_Ju_move_30 rfl ?_
  refine jd_getR F_Ju_32 i_Ju_move_31 (fun a1 => ?_)
  refine jd_aload_n i_Ju_move_34 rfl ?_
  refine jd_getR F_Ju_36 i_Ju_move_35 (fun a2 => ?_)
  refine jd_getI F_Ju_58 i_Ju_move_38 (fun v3 => ?_)
  refine jd_aload_n i_Ju_move_41 rfl ?_
  refine jd_getR F_Ju_36 i_Ju_move_42 (fun a4 => ?_)
  refine jd_getL F_Ju_61 i_Ju_move_45 (fun v5 => ?_)
  refine jd_aload_n i_Ju_move_48 rfl ?_
  refine jd_getR F_Ju_36 i_Ju_move_49 (fun a6 => ?_)
  refine jd_getL F_Ju_65 i_Ju_move_52 (fun v7 => ?_)
  refine jd_callVV G_Ju_142 in_Va_become se_Va_become rfl (fun _ e => c_Va_become e) rfl ⟨by decide, by decide⟩ rfl (Nat.le_of_ble_eq_true rfl) i_Ju_move_55 (fun h8 => ?_)
  refine jd_iconst 0 i_Ju_move_58 (by decide) ?_
  exact jd_ireturn i_Ju_move_59 rfl
noncomputable def r_Ju_move (h : ja_H) (a0 : Nat) : Option (Int32 × ja_H) := (jf_R h a0 5 2 (fun a101 => (jk h a101 4 (jc_I (r_Wo_isOf32 h a101) (fun v103 h102 => (if v103 = (0 : Int32) then (r_Ju_move_30 h102 a0) else (jf_R h102 a0 5 4 (fun a104 => (jk h102 a104 7 (jc_I (r_Va_isPointer h102 a104) (fun v106 h105 => (if v106 = (0 : Int32) then (jf_R h105 a0 5 4 (fun a107 => (jc_V (r_Nu_takeLowest32 h105 a107) (fun h108 => (r_Ju_move_30 h108 a0))))) else (some ((7 : Int32), h105))))))))))))))
theorem e_Ju_move {h : ja_H} {a0 : Nat} : ja_D ja_gI M_Ju_move 0 [some (.ref a0)] [] h (r_Ju_move h a0) := by
  unfold r_Ju_move
  refine jd_aload_n i_Ju_move_0 rfl ?_
  refine jd_getR F_Ju_25 i_Ju_move_1 (fun a101 => ?_)
  refine jd_callVI G_Ju_183 in_Wo_isOf32 se_Wo_isOf32 rfl (fun _ e => c_Wo_isOf32 e) rfl ⟨by decide, by decide⟩ rfl (Nat.le_of_ble_eq_true rfl) i_Ju_move_4 (fun v103 h102 => ?_)
  refine jd_if_eq 30 i_Ju_move_7 (by decide) ?_ ?_
  · exact jd_less (t_Ju_move_30) ⟨rfl, trivial⟩
  · refine jd_aload_n i_Ju_move_10 rfl ?_
    refine jd_getR F_Ju_36 i_Ju_move_11 (fun a104 => ?_)
    refine jd_callVI G_Ju_171 in_Va_isPointer se_Va_isPointer rfl (fun _ e => c_Va_isPointer e) rfl ⟨by decide, by decide⟩ rfl (Nat.le_of_ble_eq_true rfl) i_Ju_move_14 (fun v106 h105 => ?_)
    refine jd_if_eq 23 i_Ju_move_17 (by decide) ?_ ?_
    · refine jd_aload_n i_Ju_move_23 rfl ?_
      refine jd_getR F_Ju_36 i_Ju_move_24 (fun a107 => ?_)
      refine jd_callSV G_Ju_186 sc_Nu_takeLowest32 (fun _ e => c_Nu_takeLowest32 e) rfl ⟨by decide, by decide⟩ rfl (Nat.le_of_ble_eq_true rfl) i_Ju_move_27 (fun h108 => ?_)
      exact jd_less (t_Ju_move_30) ⟨rfl, trivial⟩
    · refine jd_bipush 7 i_Ju_move_20 (by decide) ?_
      exact jd_ireturn i_Ju_move_22 rfl
theorem c_Ju_move {h : ja_H} {a0 : Nat} {o : Int32 × ja_H} (e : r_Ju_move h a0 = some o) : ja_M (2, 45) y_Ju_move b_Ju_move 1 (some .int) [.ref a0] h [.int o.1] o.2 := jc_of (g := ja_gI) false _ e e_Ju_move rfl (by decide +kernel) (fun q => nomatch q) (Nat.le_of_ble_eq_true rfl) (fun _ q => nomatch q) (Nat.le_of_ble_eq_true rfl)
