noncomputable def r_Co_init (h : ja_H) (a0 : Nat) : Option (ja_H) := (jw_A h 1 (1024 : Int32) (fun a101 h102 => (jp_R h102 a0 1 0 a101 (fun h103 => (some h103)))))
theorem e_Co_init {h : ja_H} {a0 : Nat} : ja_D ja_gV M_Co_init 0 [some (.ref a0)] [] h (r_Co_init h a0) := by
  unfold r_Co_init
  refine jd_aload_n i_Co_init_0 rfl ?_
  refine jd_objInit O_Co_3 in_Ob k_Ob ⟨by decide, by decide⟩ (Nat.le_of_ble_eq_true rfl) i_Co_init_1 ?_
  refine jd_aload_n i_Co_init_4 rfl ?_
  refine jd_sipush 1024 i_Co_init_5 (by decide) ?_
  refine jd_newa 1 .long rfl (by decide) ac_long i_Co_init_8 (fun a101 h102 => ?_)
  refine jd_putR F_Co_9 P_Co_words rfl rfl (fun _ => rfl) (fun _ => rfl) i_Co_init_10 (fun h103 => ?_)
  exact jd_return i_Co_init_13 rfl
theorem c_Co_init {h : ja_H} {a0 : Nat} {o : ja_H} (e : r_Co_init h a0 = some o) : ja_M (1, 20) y_Co_init b_Co_init 1 (none) [.ref a0] h [] o := jc_of (g := ja_gV) true _ e e_Co_init rfl (by decide +kernel) (fun _ => rfl) (Nat.le_of_ble_eq_true rfl) (fun _ q => nomatch q) (Nat.le_of_ble_eq_true rfl)
noncomputable def r_Wo_init (h : ja_H) (a0 : Nat) : Option (ja_H) := (some h)
theorem e_Wo_init {h : ja_H} {a0 : Nat} : ja_D ja_gV M_Wo_init 0 [some (.ref a0)] [] h (r_Wo_init h a0) := by
  unfold r_Wo_init
  refine jd_aload_n i_Wo_init_0 rfl ?_
  refine jd_objInit O_Wo_3 in_Ob k_Ob ⟨by decide, by decide⟩ (Nat.le_of_ble_eq_true rfl) i_Wo_init_1 ?_
  exact jd_return i_Wo_init_4 rfl
theorem c_Wo_init {h : ja_H} {a0 : Nat} {o : ja_H} (e : r_Wo_init h a0 = some o) : ja_M (1, 20) y_Wo_init b_Wo_init 1 (none) [.ref a0] h [] o := jc_of (g := ja_gV) true _ e e_Wo_init rfl (by decide +kernel) (fun _ => rfl) (Nat.le_of_ble_eq_true rfl) (fun _ q => nomatch q) (Nat.le_of_ble_eq_true rfl)
noncomputable def r_Fo_init (h : ja_H) (a0 : Nat) : Option (ja_H) := (jw_A h 2 (1024 : Int32) (fun a101 h102 => (jp_R h102 a0 3 0 a101 (fun h103 => (jw_O h103 4 (fun a104 h105 => (jc_V (r_Wo_init h105 a104) (fun h106 => (jp_R h106 a0 3 1 a104 (fun h107 => (some h107)))))))))))
theorem e_Fo_init {h : ja_H} {a0 : Nat} : ja_D ja_gV M_Fo_init 0 [some (.ref a0)] [] h (r_Fo_init h a0) := by
  unfold r_Fo_init
  refine jd_aload_n i_Fo_init_0 rfl ?_
  refine jd_objInit O_Fo_3 in_Ob k_Ob ⟨by decide, by decide⟩ (Nat.le_of_ble_eq_true rfl) i_Fo_init_1 ?_
  refine jd_aload_n i_Fo_init_4 rfl ?_
  refine jd_sipush 1024 i_Fo_init_5 (by decide) ?_
  refine jd_newa 2 .boolean rfl (by decide) ac_boolean i_Fo_init_8 (fun a101 h102 => ?_)
  refine jd_putR F_Fo_9 P_Fo_seconds rfl rfl (fun _ => rfl) (fun _ => rfl) i_Fo_init_10 (fun h103 => ?_)
  refine jd_aload_n i_Fo_init_13 rfl ?_
  refine jd_new N_Fo_15 i_Fo_init_14 (fun a104 h105 => ?_)
  refine jd_dupR i_Fo_init_17 ?_
  refine jd_callIV G_Fo_17 in_Wo_init rfl rfl (fun _ e => c_Wo_init e) rfl ⟨by decide, by decide⟩ rfl (Nat.le_of_ble_eq_true rfl) i_Fo_init_18 (fun h106 => ?_)
  refine jd_putR F_Fo_18 P_Fo_word rfl rfl (fun _ => rfl) (fun _ => rfl) i_Fo_init_21 (fun h107 => ?_)
  exact jd_return i_Fo_init_24 rfl
theorem c_Fo_init {h : ja_H} {a0 : Nat} {o : ja_H} (e : r_Fo_init h a0 = some o) : ja_M (2, 40) y_Fo_init b_Fo_init 1 (none) [.ref a0] h [] o := jc_of (g := ja_gV) true _ e e_Fo_init rfl (by decide +kernel) (fun _ => rfl) (Nat.le_of_ble_eq_true rfl) (fun _ q => nomatch q) (Nat.le_of_ble_eq_true rfl)
noncomputable def r_Gi_init (h : ja_H) (a0 : Nat) : Option (ja_H) := (jw_A h 3 (256 : Int32) (fun a101 h102 => (jp_R h102 a0 2 0 a101 (fun h103 => (some h103)))))
theorem e_Gi_init {h : ja_H} {a0 : Nat} : ja_D ja_gV M_Gi_init 0 [some (.ref a0)] [] h (r_Gi_init h a0) := by
  unfold r_Gi_init
  refine jd_aload_n i_Gi_init_0 rfl ?_
  refine jd_objInit O_Gi_3 in_Ob k_Ob ⟨by decide, by decide⟩ (Nat.le_of_ble_eq_true rfl) i_Gi_init_1 ?_
  refine jd_aload_n i_Gi_init_4 rfl ?_
  refine jd_sipush 256 i_Gi_init_5 (by decide) ?_
  refine jd_newa 3 .byte rfl (by decide) ac_byte i_Gi_init_8 (fun a101 h102 => ?_)
  refine jd_putR F_Gi_9 P_Gi_octets rfl rfl (fun _ => rfl) (fun _ => rfl) i_Gi_init_10 (fun h103 => ?_)
  exact jd_return i_Gi_init_13 rfl
theorem c_Gi_init {h : ja_H} {a0 : Nat} {o : ja_H} (e : r_Gi_init h a0 = some o) : ja_M (1, 20) y_Gi_init b_Gi_init 1 (none) [.ref a0] h [] o := jc_of (g := ja_gV) true _ e e_Gi_init rfl (by decide +kernel) (fun _ => rfl) (Nat.le_of_ble_eq_true rfl) (fun _ q => nomatch q) (Nat.le_of_ble_eq_true rfl)
noncomputable def r_St_init (h : ja_H) (a0 : Nat) : Option (ja_H) := (jw_A h 0 (80 : Int32) (fun a101 h102 => (jp_R h102 a0 6 0 a101 (fun h103 => (jw_A h103 1 (80 : Int32) (fun a104 h105 => (jp_R h105 a0 6 1 a104 (fun h106 => (jw_A h106 1 (80 : Int32) (fun a107 h108 => (jp_R h108 a0 6 2 a107 (fun h109 => (jw_A h109 0 (64 : Int32) (fun a110 h111 => (jp_R h111 a0 6 3 a110 (fun h112 => (some h112)))))))))))))))))
theorem e_St_init {h : ja_H} {a0 : Nat} : ja_D ja_gV M_St_init 0 [some (.ref a0)] [] h (r_St_init h a0) := by
  unfold r_St_init
  refine jd_aload_n i_St_init_0 rfl ?_
  refine jd_objInit O_St_5 in_Ob k_Ob ⟨by decide, by decide⟩ (Nat.le_of_ble_eq_true rfl) i_St_init_1 ?_
  refine jd_aload_n i_St_init_4 rfl ?_
  refine jd_bipush 80 i_St_init_5 (by decide) ?_
  refine jd_newa 0 .int rfl (by decide) ac_int i_St_init_7 (fun a101 h102 => ?_)
  refine jd_putR F_St_11 P_St_kinds rfl rfl (fun _ => rfl) (fun _ => rfl) i_St_init_9 (fun h103 => ?_)
  refine jd_aload_n i_St_init_12 rfl ?_
  refine jd_bipush 80 i_St_init_13 (by decide) ?_
  refine jd_newa 1 .long rfl (by decide) ac_long i_St_init_15 (fun a104 h105 => ?_)
  refine jd_putR F_St_15 P_St_lows rfl rfl (fun _ => rfl) (fun _ => rfl) i_St_init_17 (fun h106 => ?_)
  refine jd_aload_n i_St_init_20 rfl ?_
  refine jd_bipush 80 i_St_init_21 (by decide) ?_
  refine jd_newa 1 .long rfl (by decide) ac_long i_St_init_23 (fun a107 h108 => ?_)
  refine jd_putR F_St_19 P_St_highs rfl rfl (fun _ => rfl) (fun _ => rfl) i_St_init_25 (fun h109 => ?_)
  refine jd_aload_n i_St_init_28 rfl ?_
  refine jd_bipush 64 i_St_init_29 (by decide) ?_
  refine jd_newa 0 .int rfl (by decide) ac_int i_St_init_31 (fun a110 h111 => ?_)
  refine jd_putR F_St_22 P_St_set rfl rfl (fun _ => rfl) (fun _ => rfl) i_St_init_33 (fun h112 => ?_)
  exact jd_return i_St_init_36 rfl
theorem c_St_init {h : ja_H} {a0 : Nat} {o : ja_H} (e : r_St_init h a0 = some o) : ja_M (1, 20) y_St_init b_St_init 1 (none) [.ref a0] h [] o := jc_of (g := ja_gV) true _ e e_St_init rfl (by decide +kernel) (fun _ => rfl) (Nat.le_of_ble_eq_true rfl) (fun _ q => nomatch q) (Nat.le_of_ble_eq_true rfl)
noncomputable def r_Va_init (h : ja_H) (a0 : Nat) : Option (ja_H) := (some h)
theorem e_Va_init {h : ja_H} {a0 : Nat} : ja_D ja_gV M_Va_init 0 [some (.ref a0)] [] h (r_Va_init h a0) := by
  unfold r_Va_init
  refine jd_aload_n i_Va_init_0 rfl ?_
  refine jd_objInit O_Va_3 in_Ob k_Ob ⟨by decide, by decide⟩ (Nat.le_of_ble_eq_true rfl) i_Va_init_1 ?_
  exact jd_return i_Va_init_4 rfl
theorem c_Va_init {h : ja_H} {a0 : Nat} {o : ja_H} (e : r_Va_init h a0 = some o) : ja_M (1, 20) y_Va_init b_Va_init 1 (none) [.ref a0] h [] o := jc_of (g := ja_gV) true _ e e_Va_init rfl (by decide +kernel) (fun _ => rfl) (Nat.le_of_ble_eq_true rfl) (fun _ q => nomatch q) (Nat.le_of_ble_eq_true rfl)
noncomputable def r_Ju_init (h : ja_H) (a0 : Nat) : Option (ja_H) := (jw_A h 4 (1024 : Int32) (fun a101 h102 => (jp_R h102 a0 5 0 a101 (fun h103 => (jw_O h103 6 (fun a104 h105 => (jc_V (r_St_init h105 a104) (fun h106 => (jp_R h106 a0 5 1 a104 (fun h107 => (jw_O h107 4 (fun a108 h109 => (jc_V (r_Wo_init h109 a108) (fun h110 => (jp_R h110 a0 5 2 a108 (fun h111 => (jw_O h111 7 (fun a112 h113 => (jc_V (r_Va_init h113 a112) (fun h114 => (jp_R h114 a0 5 3 a112 (fun h115 => (jw_O h115 7 (fun a116 h117 => (jc_V (r_Va_init h117 a116) (fun h118 => (jp_R h118 a0 5 4 a116 (fun h119 => (jw_O h119 7 (fun a120 h121 => (jc_V (r_Va_init h121 a120) (fun h122 => (jp_R h122 a0 5 5 a120 (fun h123 => (some h123)))))))))))))))))))))))))))))))))))
theorem e_Ju_init {h : ja_H} {a0 : Nat} : ja_D ja_gV M_Ju_init 0 [some (.ref a0)] [] h (r_Ju_init h a0) := by
  unfold r_Ju_init
  refine jd_aload_n i_Ju_init_0 rfl ?_
  refine jd_objInit O_Ju_3 in_Ob k_Ob ⟨by decide, by decide⟩ (Nat.le_of_ble_eq_true rfl) i_Ju_init_1 ?_
  refine jd_aload_n i_Ju_init_4 rfl ?_
  refine jd_sipush 1024 i_Ju_init_5 (by decide) ?_
  refine jd_newq Q_Ju_9 i_Ju_init_8 (fun a101 h102 => ?_)
  refine jd_putR F_Ju_11 P_Ju_before rfl rfl (fun _ => rfl) (fun _ => rfl) i_Ju_init_11 (fun h103 => ?_)
  refine jd_aload_n i_Ju_init_14 rfl ?_
  refine jd_new N_Ju_9 i_Ju_init_15 (fun a104 h105 => ?_)
  refine jd_dupR i_Ju_init_18 ?_
  refine jd_callIV G_Ju_17 in_St_init rfl rfl (fun _ e => c_St_init e) rfl ⟨by decide, by decide⟩ rfl (Nat.le_of_ble_eq_true rfl) i_Ju_init_19 (fun h106 => ?_)
  refine jd_putR F_Ju_18 P_Ju_now rfl rfl (fun _ => rfl) (fun _ => rfl) i_Ju_init_22 (fun h107 => ?_)
  refine jd_aload_n i_Ju_init_25 rfl ?_
  refine jd_new N_Ju_22 i_Ju_init_26 (fun a108 h109 => ?_)
  refine jd_dupR i_Ju_init_29 ?_
  refine jd_callIV G_Ju_24 in_Wo_init rfl rfl (fun _ e => c_Wo_init e) rfl ⟨by decide, by decide⟩ rfl (Nat.le_of_ble_eq_true rfl) i_Ju_init_30 (fun h110 => ?_)
  refine jd_putR F_Ju_25 P_Ju_word rfl rfl (fun _ => rfl) (fun _ => rfl) i_Ju_init_33 (fun h111 => ?_)
  refine jd_aload_n i_Ju_init_36 rfl ?_
  refine jd_new N_Ju_29 i_Ju_init_37 (fun a112 h113 => ?_)
  refine jd_dupR i_Ju_init_40 ?_
  refine jd_callIV G_Ju_31 in_Va_init rfl rfl (fun _ e => c_Va_init e) rfl ⟨by decide, by decide⟩ rfl (Nat.le_of_ble_eq_true rfl) i_Ju_init_41 (fun h114 => ?_)
  refine jd_putR F_Ju_32 P_Ju_left rfl rfl (fun _ => rfl) (fun _ => rfl) i_Ju_init_44 (fun h115 => ?_)
  refine jd_aload_n i_Ju_init_47 rfl ?_
  refine jd_new N_Ju_29 i_Ju_init_48 (fun a116 h117 => ?_)
  refine jd_dupR i_Ju_init_51 ?_
  refine jd_callIV G_Ju_31 in_Va_init rfl rfl (fun _ e => c_Va_init e) rfl ⟨by decide, by decide⟩ rfl (Nat.le_of_ble_eq_true rfl) i_Ju_init_52 (fun h118 => ?_)
  refine jd_putR F_Ju_36 P_Ju_right rfl rfl (fun _ => rfl) (fun _ => rfl) i_Ju_init_55 (fun h119 => ?_)
  refine jd_aload_n i_Ju_init_58 rfl ?_
  refine jd_new N_Ju_29 i_Ju_init_59 (fun a120 h121 => ?_)
  refine jd_dupR i_Ju_init_62 ?_
  refine jd_callIV G_Ju_31 in_Va_init rfl rfl (fun _ e => c_Va_init e) rfl ⟨by decide, by decide⟩ rfl (Nat.le_of_ble_eq_true rfl) i_Ju_init_63 (fun h122 => ?_)
  refine jd_putR F_Ju_39 P_Ju_narrowed rfl rfl (fun _ => rfl) (fun _ => rfl) i_Ju_init_66 (fun h123 => ?_)
  exact jd_return i_Ju_init_69 rfl
theorem c_Ju_init {h : ja_H} {a0 : Nat} {o : ja_H} (e : r_Ju_init h a0 = some o) : ja_M (2, 40) y_Ju_init b_Ju_init 1 (none) [.ref a0] h [] o := jc_of (g := ja_gV) true _ e e_Ju_init rfl (by decide +kernel) (fun _ => rfl) (Nat.le_of_ble_eq_true rfl) (fun _ q => nomatch q) (Nat.le_of_ble_eq_true rfl)
noncomputable def r_Ma_init (h : ja_H) (a0 : Nat) : Option (ja_H) := (jw_A h 1 (16 : Int32) (fun a101 h102 => (jp_R h102 a0 8 0 a101 (fun h103 => (jw_A h103 2 (16 : Int32) (fun a104 h105 => (jp_R h105 a0 8 1 a104 (fun h106 => (jw_A h106 3 (512 : Int32) (fun a107 h108 => (jp_R h108 a0 8 2 a107 (fun h109 => (jw_A h109 2 (512 : Int32) (fun a110 h111 => (jp_R h111 a0 8 3 a110 (fun h112 => (jw_O h112 4 (fun a113 h114 => (jc_V (r_Wo_init h114 a113) (fun h115 => (jp_R h115 a0 8 4 a113 (fun h116 => (some h116)))))))))))))))))))))))
theorem e_Ma_init {h : ja_H} {a0 : Nat} : ja_D ja_gV M_Ma_init 0 [some (.ref a0)] [] h (r_Ma_init h a0) := by
  unfold r_Ma_init
  refine jd_aload_n i_Ma_init_0 rfl ?_
  refine jd_objInit O_Ma_3 in_Ob k_Ob ⟨by decide, by decide⟩ (Nat.le_of_ble_eq_true rfl) i_Ma_init_1 ?_
  refine jd_aload_n i_Ma_init_4 rfl ?_
  refine jd_bipush 16 i_Ma_init_5 (by decide) ?_
  refine jd_newa 1 .long rfl (by decide) ac_long i_Ma_init_7 (fun a101 h102 => ?_)
  refine jd_putR F_Ma_9 P_Ma_registers rfl rfl (fun _ => rfl) (fun _ => rfl) i_Ma_init_9 (fun h103 => ?_)
  refine jd_aload_n i_Ma_init_12 rfl ?_
  refine jd_bipush 16 i_Ma_init_13 (by decide) ?_
  refine jd_newa 2 .boolean rfl (by decide) ac_boolean i_Ma_init_15 (fun a104 h105 => ?_)
  refine jd_putR F_Ma_15 P_Ma_registerHas rfl rfl (fun _ => rfl) (fun _ => rfl) i_Ma_init_17 (fun h106 => ?_)
  refine jd_aload_n i_Ma_init_20 rfl ?_
  refine jd_sipush 512 i_Ma_init_21 (by decide) ?_
  refine jd_newa 3 .byte rfl (by decide) ac_byte i_Ma_init_24 (fun a107 h108 => ?_)
  refine jd_putR F_Ma_19 P_Ma_stack rfl rfl (fun _ => rfl) (fun _ => rfl) i_Ma_init_26 (fun h109 => ?_)
  refine jd_aload_n i_Ma_init_29 rfl ?_
  refine jd_sipush 512 i_Ma_init_30 (by decide) ?_
  refine jd_newa 2 .boolean rfl (by decide) ac_boolean i_Ma_init_33 (fun a110 h111 => ?_)
  refine jd_putR F_Ma_23 P_Ma_stackHas rfl rfl (fun _ => rfl) (fun _ => rfl) i_Ma_init_35 (fun h112 => ?_)
  refine jd_aload_n i_Ma_init_38 rfl ?_
  refine jd_new N_Ma_26 i_Ma_init_39 (fun a113 h114 => ?_)
  refine jd_dupR i_Ma_init_42 ?_
  refine jd_callIV G_Ma_28 in_Wo_init rfl rfl (fun _ e => c_Wo_init e) rfl ⟨by decide, by decide⟩ rfl (Nat.le_of_ble_eq_true rfl) i_Ma_init_43 (fun h115 => ?_)
  refine jd_putR F_Ma_29 P_Ma_word rfl rfl (fun _ => rfl) (fun _ => rfl) i_Ma_init_46 (fun h116 => ?_)
  exact jd_return i_Ma_init_49 rfl
theorem c_Ma_init {h : ja_H} {a0 : Nat} {o : ja_H} (e : r_Ma_init h a0 = some o) : ja_M (2, 40) y_Ma_init b_Ma_init 1 (none) [.ref a0] h [] o := jc_of (g := ja_gV) true _ e e_Ma_init rfl (by decide +kernel) (fun _ => rfl) (Nat.le_of_ble_eq_true rfl) (fun _ q => nomatch q) (Nat.le_of_ble_eq_true rfl)
noncomputable def r_WJ_init (h : ja_H) (a0 : Nat) : Option (ja_H) := (jw_O h 1 (fun a101 h102 => (jc_V (r_Co_init h102 a101) (fun h103 => (jp_R h103 a0 0 0 a101 (fun h104 => (jw_O h104 2 (fun a105 h106 => (jc_V (r_Gi_init h106 a105) (fun h107 => (jp_R h107 a0 0 1 a105 (fun h108 => (jw_O h108 3 (fun a109 h110 => (jc_V (r_Fo_init h110 a109) (fun h111 => (jp_R h111 a0 0 2 a109 (fun h112 => (jw_O h112 5 (fun a113 h114 => (jc_V (r_Ju_init h114 a113) (fun h115 => (jp_R h115 a0 0 3 a113 (fun h116 => (jw_O h116 8 (fun a117 h118 => (jc_V (r_Ma_init h118 a117) (fun h119 => (jp_R h119 a0 0 4 a117 (fun h120 => (jp_Z h120 a0 0 5 (0 : Int32) (fun h121 => (jp_I h121 a0 0 6 (-1 : Int32) (fun h122 => (some h122)))))))))))))))))))))))))))))))))))
theorem e_WJ_init {h : ja_H} {a0 : Nat} : ja_D ja_gV M_WJ_init 0 [some (.ref a0)] [] h (r_WJ_init h a0) := by
  unfold r_WJ_init
  refine jd_aload_n i_WJ_init_0 rfl ?_
  refine jd_objInit O_WJ_3 in_Ob k_Ob ⟨by decide, by decide⟩ (Nat.le_of_ble_eq_true rfl) i_WJ_init_1 ?_
  refine jd_aload_n i_WJ_init_4 rfl ?_
  refine jd_new N_WJ_9 i_WJ_init_5 (fun a101 h102 => ?_)
  refine jd_dupR i_WJ_init_8 ?_
  refine jd_callIV G_WJ_11 in_Co_init rfl rfl (fun _ e => c_Co_init e) rfl ⟨by decide, by decide⟩ rfl (Nat.le_of_ble_eq_true rfl) i_WJ_init_9 (fun h103 => ?_)
  refine jd_putR F_WJ_12 P_WJ_code rfl rfl (fun _ => rfl) (fun _ => rfl) i_WJ_init_12 (fun h104 => ?_)
  refine jd_aload_n i_WJ_init_15 rfl ?_
  refine jd_new N_WJ_16 i_WJ_init_16 (fun a105 h106 => ?_)
  refine jd_dupR i_WJ_init_19 ?_
  refine jd_callIV G_WJ_18 in_Gi_init rfl rfl (fun _ e => c_Gi_init e) rfl ⟨by decide, by decide⟩ rfl (Nat.le_of_ble_eq_true rfl) i_WJ_init_20 (fun h107 => ?_)
  refine jd_putR F_WJ_19 P_WJ_given rfl rfl (fun _ => rfl) (fun _ => rfl) i_WJ_init_23 (fun h108 => ?_)
  refine jd_aload_n i_WJ_init_26 rfl ?_
  refine jd_new N_WJ_23 i_WJ_init_27 (fun a109 h110 => ?_)
  refine jd_dupR i_WJ_init_30 ?_
  refine jd_callIV G_WJ_25 in_Fo_init rfl rfl (fun _ e => c_Fo_init e) rfl ⟨by decide, by decide⟩ rfl (Nat.le_of_ble_eq_true rfl) i_WJ_init_31 (fun h111 => ?_)
  refine jd_putR F_WJ_26 P_WJ_form rfl rfl (fun _ => rfl) (fun _ => rfl) i_WJ_init_34 (fun h112 => ?_)
  refine jd_aload_n i_WJ_init_37 rfl ?_
  refine jd_new N_WJ_30 i_WJ_init_38 (fun a113 h114 => ?_)
  refine jd_dupR i_WJ_init_41 ?_
  refine jd_callIV G_WJ_32 in_Ju_init rfl rfl (fun _ e => c_Ju_init e) rfl ⟨by decide, by decide⟩ rfl (Nat.le_of_ble_eq_true rfl) i_WJ_init_42 (fun h115 => ?_)
  refine jd_putR F_WJ_33 P_WJ_judge rfl rfl (fun _ => rfl) (fun _ => rfl) i_WJ_init_45 (fun h116 => ?_)
  refine jd_aload_n i_WJ_init_48 rfl ?_
  refine jd_new N_WJ_37 i_WJ_init_49 (fun a117 h118 => ?_)
  refine jd_dupR i_WJ_init_52 ?_
  refine jd_callIV G_WJ_39 in_Ma_init rfl rfl (fun _ e => c_Ma_init e) rfl ⟨by decide, by decide⟩ rfl (Nat.le_of_ble_eq_true rfl) i_WJ_init_53 (fun h119 => ?_)
  refine jd_putR F_WJ_40 P_WJ_machine rfl rfl (fun _ => rfl) (fun _ => rfl) i_WJ_init_56 (fun h120 => ?_)
  refine jd_aload_n i_WJ_init_59 rfl ?_
  refine jd_iconst 0 i_WJ_init_60 (by decide) ?_
  refine jd_putZ F_WJ_44 P_WJ_verified i_WJ_init_61 (fun h121 => ?_)
  refine jd_aload_n i_WJ_init_64 rfl ?_
  refine jd_iconst (-1) i_WJ_init_65 (by decide) ?_
  refine jd_putI F_WJ_48 P_WJ_faultAt i_WJ_init_66 (fun h122 => ?_)
  exact jd_return i_WJ_init_69 rfl
theorem c_WJ_init {h : ja_H} {a0 : Nat} {o : ja_H} (e : r_WJ_init h a0 = some o) : ja_M (3, 60) y_WJ_init b_WJ_init 1 (none) [.ref a0] h [] o := jc_of (g := ja_gV) true _ e e_WJ_init rfl (by decide +kernel) (fun _ => rfl) (Nat.le_of_ble_eq_true rfl) (fun _ q => nomatch q) (Nat.le_of_ble_eq_true rfl)
noncomputable def r_Mt_max_I_10 (h : ja_H) (z0 : Int32) : Option (Int32 × ja_H) := (some (z0, h))
theorem t_Mt_max_I_10 {h : ja_H} {z0 : Int32} : ja_D ja_gI M_Mt_max_I 10 [none, none] [.int z0] h (r_Mt_max_I_10 h z0) := by
  unfold r_Mt_max_I_10
  exact jd_ireturn i_Mt_max_I_10 rfl
noncomputable def r_Mt_max_I (h : ja_H) (a0 : Int32) (a1 : Int32) : Option (Int32 × ja_H) := (if a0 < a1 then (r_Mt_max_I_10 h a1) else (r_Mt_max_I_10 h a0))
theorem e_Mt_max_I {h : ja_H} {a0 : Int32} {a1 : Int32} : ja_D ja_gI M_Mt_max_I 0 [some (.int a0), some (.int a1)] [] h (r_Mt_max_I h a0 a1) := by
  unfold r_Mt_max_I
  refine jd_iload_n i_Mt_max_I_0 rfl ?_
  refine jd_iload_n i_Mt_max_I_1 rfl ?_
  refine jd_icmp_lt 9 i_Mt_max_I_2 (by decide) ?_ ?_
  · refine jd_iload_n i_Mt_max_I_9 rfl ?_
    exact jd_less (t_Mt_max_I_10) trivial
  · refine jd_iload_n i_Mt_max_I_5 rfl ?_
    refine jd_goto 10 i_Mt_max_I_6 (by decide) ?_
    exact jd_less (t_Mt_max_I_10) trivial
theorem c_Mt_max_I {h : ja_H} {a0 : Int32} {a1 : Int32} {o : Int32 × ja_H} (e : r_Mt_max_I h a0 a1 = some o) : ja_M (0, 0) y_Mt_max_I b_Mt_max_I 2 (some .int) [.int a0, .int a1] h [.int o.1] o.2 := jc_of (g := ja_gI) false _ e e_Mt_max_I rfl (by decide +kernel) (fun q => nomatch q) (Nat.le_of_ble_eq_true rfl) (fun _ q => nomatch q) (Nat.le_of_ble_eq_true rfl)
noncomputable def r_Co_replace_40 (h : ja_H) : Option (ja_H) := (some h)
theorem t_Co_replace_40 {h : ja_H} : ja_D ja_gV M_Co_replace 40 [none, none, none, none] [] h (r_Co_replace_40 h) := by
  unfold r_Co_replace_40
  exact jd_return i_Co_replace_40 rfl
noncomputable def r_Co_replace (h : ja_H) (a0 : Nat) (a1 : Int32) (a2 : Int64) : Option (ja_H) := (if a1 < (0 : Int32) then (r_Co_replace_40 h) else (jf_I h a0 1 1 (fun v101 => (if v101 < a1 then (r_Co_replace_40 h) else (if (1024 : Int32) ≤ a1 then (r_Co_replace_40 h) else (jf_R h a0 1 0 (fun a102 => (js_L h a102 a1 a2 (fun h103 => (jf_I h103 a0 1 1 (fun v104 => (jc_I (r_Mt_max_I h103 v104 (a1 + (1 : Int32))) (fun v106 h105 => (jp_I h105 a0 1 1 v106 (fun h107 => (r_Co_replace_40 h107))))))))))))))))
theorem e_Co_replace {h : ja_H} {a0 : Nat} {a1 : Int32} {a2 : Int64} : ja_D ja_gV M_Co_replace 0 [some (.ref a0), some (.int a1), some (.long a2), none] [] h (r_Co_replace h a0 a1 a2) := by
  unfold r_Co_replace
  refine jd_iload_n i_Co_replace_0 rfl ?_
  refine jd_if_lt 40 i_Co_replace_1 (by decide) ?_ ?_
  · exact jd_less (t_Co_replace_40) trivial
  · refine jd_iload_n i_Co_replace_4 rfl ?_
    refine jd_aload_n i_Co_replace_5 rfl ?_
    refine jd_getI F_Co_15 i_Co_replace_6 (fun v101 => ?_)
    refine jd_icmp_gt 40 i_Co_replace_9 (by decide) ?_ ?_
    · exact jd_less (t_Co_replace_40) trivial
    · refine jd_iload_n i_Co_replace_12 rfl ?_
      refine jd_sipush 1024 i_Co_replace_13 (by decide) ?_
      refine jd_icmp_ge 40 i_Co_replace_16 (by decide) ?_ ?_
      · exact jd_less (t_Co_replace_40) trivial
      · refine jd_aload_n i_Co_replace_19 rfl ?_
        refine jd_getR F_Co_9 i_Co_replace_20 (fun a102 => ?_)
        refine jd_iload_n i_Co_replace_23 rfl ?_
        refine jd_lload_n i_Co_replace_24 rfl ?_
        refine jd_last i_Co_replace_25 (fun h103 => ?_)
        refine jd_aload_n i_Co_replace_26 rfl ?_
        refine jd_aload_n i_Co_replace_27 rfl ?_
        refine jd_getI F_Co_15 i_Co_replace_28 (fun v104 => ?_)
        refine jd_iload_n i_Co_replace_31 rfl ?_
        refine jd_iconst 1 i_Co_replace_32 (by decide) ?_
        refine jd_iadd i_Co_replace_33 ?_
        refine jd_callSI G_Co_19 sc_Mt_max_I (fun _ e => c_Mt_max_I e) rfl ⟨by decide, by decide⟩ rfl (Nat.le_of_ble_eq_true rfl) i_Co_replace_34 (fun v106 h105 => ?_)
        refine jd_putI F_Co_15 P_Co_length i_Co_replace_37 (fun h107 => ?_)
        exact jd_less (t_Co_replace_40) trivial
theorem c_Co_replace {h : ja_H} {a0 : Nat} {a1 : Int32} {a2 : Int64} {o : ja_H} (e : r_Co_replace h a0 a1 a2 = some o) : ja_M (1, 21) y_Co_replace b_Co_replace 4 (none) [.ref a0, .int a1, .long a2] h [] o := jc_of (g := ja_gV) false _ e e_Co_replace rfl (by decide +kernel) (fun q => nomatch q) (Nat.le_of_ble_eq_true rfl) (fun _ q => nomatch q) (Nat.le_of_ble_eq_true rfl)
noncomputable def r_WJ_word_22 (h : ja_H) : Option (List Value × ja_H) := (some ([.retAddr 22], h))
theorem t_WJ_word_22 {h : ja_H} : ja_D ja_gX M_WJ_word 22 [none, none, none, none] [] h (r_WJ_word_22 h) := by
  unfold r_WJ_word_22
  exact jd_throw
noncomputable def r_WJ_word (h : ja_H) (a0 : Nat) (a1 : Int32) (a2 : Int64) : Option (List Value × ja_H) := (if a1 < (0 : Int32) then (r_WJ_word_22 h) else (jf_R h a0 0 0 (fun a101 => (jf_I h a101 1 1 (fun v102 => (if v102 < a1 then (r_WJ_word_22 h) else (if a1 < (1024 : Int32) then (jf_R h a0 0 0 (fun a103 => (jk h a103 1 (jc_V (r_Co_replace h a103 a1 a2) (fun h104 => (jp_Z h104 a0 0 5 (0 : Int32) (fun h105 => (jf_R h105 a0 0 0 (fun a106 => (jf_I h105 a106 1 1 (fun v107 => (some ([.int v107], h105))))))))))))) else (r_WJ_word_22 h))))))))
theorem e_WJ_word {h : ja_H} {a0 : Nat} {a1 : Int32} {a2 : Int64} : ja_D ja_gX M_WJ_word 0 [some (.ref a0), some (.int a1), some (.long a2), none] [] h (r_WJ_word h a0 a1 a2) := by
  unfold r_WJ_word
  refine jd_iload_n i_WJ_word_0 rfl ?_
  refine jd_if_lt 22 i_WJ_word_1 (by decide) ?_ ?_
  · exact jd_less (t_WJ_word_22) trivial
  · refine jd_iload_n i_WJ_word_4 rfl ?_
    refine jd_aload_n i_WJ_word_5 rfl ?_
    refine jd_getR F_WJ_12 i_WJ_word_6 (fun a101 => ?_)
    refine jd_getI F_WJ_52 i_WJ_word_9 (fun v102 => ?_)
    refine jd_icmp_gt 22 i_WJ_word_12 (by decide) ?_ ?_
    · exact jd_less (t_WJ_word_22) trivial
    · refine jd_iload_n i_WJ_word_15 rfl ?_
      refine jd_sipush 1024 i_WJ_word_16 (by decide) ?_
      refine jd_icmp_lt 32 i_WJ_word_19 (by decide) ?_ ?_
      · refine jd_aload_n i_WJ_word_32 rfl ?_
        refine jd_getR F_WJ_12 i_WJ_word_33 (fun a103 => ?_)
        refine jd_iload_n i_WJ_word_36 rfl ?_
        refine jd_lload_n i_WJ_word_37 rfl ?_
        refine jd_callVV G_WJ_62 in_Co_replace se_Co_replace rfl (fun _ e => c_Co_replace e) rfl ⟨by decide, by decide⟩ rfl (Nat.le_of_ble_eq_true rfl) i_WJ_word_38 (fun h104 => ?_)
        refine jd_aload_n i_WJ_word_41 rfl ?_
        refine jd_iconst 0 i_WJ_word_42 (by decide) ?_
        refine jd_putZ F_WJ_44 P_WJ_verified i_WJ_word_43 (fun h105 => ?_)
        refine jd_aload_n i_WJ_word_46 rfl ?_
        refine jd_getR F_WJ_12 i_WJ_word_47 (fun a106 => ?_)
        refine jd_getI F_WJ_52 i_WJ_word_50 (fun v107 => ?_)
        exact jd_ireturnX i_WJ_word_53 rfl
      · exact jd_less (t_WJ_word_22) trivial
noncomputable def r_WJ_cut_15 (h : ja_H) : Option (List Value × ja_H) := (some ([.retAddr 15], h))
theorem t_WJ_cut_15 {h : ja_H} : ja_D ja_gX M_WJ_cut 15 [none, none] [] h (r_WJ_cut_15 h) := by
  unfold r_WJ_cut_15
  exact jd_throw
noncomputable def r_WJ_cut (h : ja_H) (a0 : Nat) (a1 : Int32) : Option (List Value × ja_H) := (if a1 < (0 : Int32) then (r_WJ_cut_15 h) else (jf_R h a0 0 0 (fun a101 => (jf_I h a101 1 1 (fun v102 => (if a1 ≤ v102 then (jf_R h a0 0 0 (fun a103 => (jp_I h a103 1 1 a1 (fun h104 => (jp_Z h104 a0 0 5 (0 : Int32) (fun h105 => (some ([], h105)))))))) else (r_WJ_cut_15 h)))))))
theorem e_WJ_cut {h : ja_H} {a0 : Nat} {a1 : Int32} : ja_D ja_gX M_WJ_cut 0 [some (.ref a0), some (.int a1)] [] h (r_WJ_cut h a0 a1) := by
  unfold r_WJ_cut
  refine jd_iload_n i_WJ_cut_0 rfl ?_
  refine jd_if_lt 15 i_WJ_cut_1 (by decide) ?_ ?_
  · exact jd_less (t_WJ_cut_15) trivial
  · refine jd_iload_n i_WJ_cut_4 rfl ?_
    refine jd_aload_n i_WJ_cut_5 rfl ?_
    refine jd_getR F_WJ_12 i_WJ_cut_6 (fun a101 => ?_)
    refine jd_getI F_WJ_52 i_WJ_cut_9 (fun v102 => ?_)
    refine jd_icmp_le 25 i_WJ_cut_12 (by decide) ?_ ?_
    · refine jd_aload_n i_WJ_cut_25 rfl ?_
      refine jd_getR F_WJ_12 i_WJ_cut_26 (fun a103 => ?_)
      refine jd_iload_n i_WJ_cut_29 rfl ?_
      refine jd_putI F_WJ_52 P_Co_length i_WJ_cut_30 (fun h104 => ?_)
      refine jd_aload_n i_WJ_cut_33 rfl ?_
      refine jd_iconst 0 i_WJ_cut_34 (by decide) ?_
      refine jd_putZ F_WJ_44 P_WJ_verified i_WJ_cut_35 (fun h105 => ?_)
      exact jd_returnX i_WJ_cut_38 rfl
    · exact jd_less (t_WJ_cut_15) trivial
noncomputable def r_Gi_resize_34 (h : ja_H) (y0 : Nat) (y1 : Int32) : Option (ja_H) := (jp_I h y0 2 1 y1 (fun h1 => (some h1)))
theorem t_Gi_resize_34 {h : ja_H} {y0 : Nat} {y1 : Int32} : ja_D ja_gV M_Gi_resize 34 [some (.ref y0), some (.int y1), none] [] h (r_Gi_resize_34 h y0 y1) := by
  unfold r_Gi_resize_34
  refine jd_aload_n i_Gi_resize_34 rfl ?_
  refine jd_iload_n i_Gi_resize_35 rfl ?_
  refine jd_putI F_Gi_21 P_Gi_length i_Gi_resize_36 (fun h1 => ?_)
  exact jd_return i_Gi_resize_39 rfl
noncomputable def q_Gi_resize_6 (C6 : ja_H → Nat → Int32 → Int32 → Option (ja_H)) (h : ja_H) (y0 : Nat) (y1 : Int32) (y2 : Int32) : Option (ja_H) := (jf_I h y0 2 1 (fun v1 => (if v1 ≤ y2 then (r_Gi_resize_34 h y0 y1) else (if (256 : Int32) ≤ y2 then (r_Gi_resize_34 h y0 y1) else (jf_R h y0 2 0 (fun a2 => (js_B h a2 y2 (0 : Int32) (fun h3 => (jl (y2 + 1 : Int32) (fun (x4 : Int32) => (C6 h3 y0 y1 x4)))))))))))
theorem t_Gi_resize_6 {C6 : ja_H → Nat → Int32 → Int32 → Option (ja_H)} (k6 : ∀ (h : ja_H) (y0 : Nat) (y1 : Int32) (y2 : Int32), ja_D ja_gV M_Gi_resize 6 [some (.ref y0), some (.int y1), some (.int y2)] [] h (C6 h y0 y1 y2)) {h : ja_H} {y0 : Nat} {y1 : Int32} {y2 : Int32} : ja_D ja_gV M_Gi_resize 6 [some (.ref y0), some (.int y1), some (.int y2)] [] h (q_Gi_resize_6 C6 h y0 y1 y2) := by
  unfold q_Gi_resize_6
  refine jd_iload_n i_Gi_resize_6 rfl ?_
  refine jd_aload_n i_Gi_resize_7 rfl ?_
  refine jd_getI F_Gi_21 i_Gi_resize_8 (fun v1 => ?_)
  refine jd_icmp_ge 34 i_Gi_resize_11 (by decide) ?_ ?_
  · exact jd_less (t_Gi_resize_34) ⟨rfl, rfl, trivial⟩
  · refine jd_iload_n i_Gi_resize_14 rfl ?_
    refine jd_sipush 256 i_Gi_resize_15 (by decide) ?_
    refine jd_icmp_ge 34 i_Gi_resize_18 (by decide) ?_ ?_
    · exact jd_less (t_Gi_resize_34) ⟨rfl, rfl, trivial⟩
    · refine jd_aload_n i_Gi_resize_21 rfl ?_
      refine jd_getR F_Gi_9 i_Gi_resize_22 (fun a2 => ?_)
      refine jd_iload_n i_Gi_resize_25 rfl ?_
      refine jd_iconst 0 i_Gi_resize_26 (by decide) ?_
      refine jd_bast i_Gi_resize_27 (fun h3 => ?_)
      refine jd_iinc (fun x4 => [some (.ref y0), some (.int y1), some (.int x4)]) i_Gi_resize_28 rfl rfl (by decide) rfl (fun _ => rfl) (fun x4 => ?_)
      refine jd_goto 6 i_Gi_resize_31 (by decide) ?_
      exact jd_less (k6 _ _ _ _) ⟨rfl, rfl, rfl, trivial⟩
noncomputable def r_Gi_resize_6 : Nat → ja_H → Nat → Int32 → Int32 → Option (ja_H) := ja_lo (q_Gi_resize_6) (fun _ _ _ _ => none)
theorem s_Gi_resize_6 : ∀ (n : Nat) (h : ja_H) (y0 : Nat) (y1 : Int32) (y2 : Int32), ja_D ja_gV M_Gi_resize 6 [some (.ref y0), some (.int y1), some (.int y2)] [] h (r_Gi_resize_6 n h y0 y1 y2) := by
  intro n
  induction n with
  | zero => intro h y0 y1 y2 o e; cases e
  | succ n ih => intro h y0 y1 y2; exact t_Gi_resize_6 ih
noncomputable def r_Gi_resize (h : ja_H) (a0 : Nat) (a1 : Int32) : Option (ja_H) := (jc_I (r_Mt_max_I h a1 (0 : Int32)) (fun v102 h101 => (jl (v102 : Int32) (fun (x103 : Int32) => (r_Gi_resize_6 ja_fu h101 a0 a1 x103)))))
theorem e_Gi_resize {h : ja_H} {a0 : Nat} {a1 : Int32} : ja_D ja_gV M_Gi_resize 0 [some (.ref a0), some (.int a1), none] [] h (r_Gi_resize h a0 a1) := by
  unfold r_Gi_resize
  refine jd_iload_n i_Gi_resize_0 rfl ?_
  refine jd_iconst 0 i_Gi_resize_1 (by decide) ?_
  refine jd_callSI G_Gi_15 sc_Mt_max_I (fun _ e => c_Mt_max_I e) rfl ⟨by decide, by decide⟩ rfl (Nat.le_of_ble_eq_true rfl) i_Gi_resize_2 (fun v102 h101 => ?_)
  refine jd_istore_n (fun x103 => [some (.ref a0), some (.int a1), some (.int x103)]) i_Gi_resize_5 (by decide) rfl (fun _ => rfl) (fun x103 => ?_)
  exact jd_less (s_Gi_resize_6 ja_fu _ _ _ _) ⟨rfl, rfl, rfl, trivial⟩
theorem c_Gi_resize {h : ja_H} {a0 : Nat} {a1 : Int32} {o : ja_H} (e : r_Gi_resize h a0 a1 = some o) : ja_M (1, 21) y_Gi_resize b_Gi_resize 3 (none) [.ref a0, .int a1] h [] o := jc_of (g := ja_gV) false _ e e_Gi_resize rfl (by decide +kernel) (fun q => nomatch q) (Nat.le_of_ble_eq_true rfl) (fun _ q => nomatch q) (Nat.le_of_ble_eq_true rfl)
noncomputable def r_WJ_context_45 (h : ja_H) : Option (List Value × ja_H) := (some ([], h))
theorem t_WJ_context_45 {h : ja_H} : ja_D ja_gX M_WJ_context 45 [none, none] [] h (r_WJ_context_45 h) := by
  unfold r_WJ_context_45
  exact jd_returnX i_WJ_context_45 rfl
noncomputable def r_WJ_context_11 (h : ja_H) : Option (List Value × ja_H) := (some ([.retAddr 11], h))
theorem t_WJ_context_11 {h : ja_H} : ja_D ja_gX M_WJ_context 11 [none, none] [] h (r_WJ_context_11 h) := by
  unfold r_WJ_context_11
  exact jd_throw
noncomputable def r_WJ_context (h : ja_H) (a0 : Nat) (a1 : Int32) : Option (List Value × ja_H) := (if a1 < (0 : Int32) then (r_WJ_context_11 h) else (if a1 ≤ (256 : Int32) then (jf_R h a0 0 1 (fun a101 => (jf_I h a101 2 1 (fun v102 => (if a1 = v102 then (r_WJ_context_45 h) else (jf_R h a0 0 1 (fun a103 => (jk h a103 2 (jc_V (r_Gi_resize h a103 a1) (fun h104 => (jp_Z h104 a0 0 5 (0 : Int32) (fun h105 => (r_WJ_context_45 h105))))))))))))) else (r_WJ_context_11 h)))
theorem e_WJ_context {h : ja_H} {a0 : Nat} {a1 : Int32} : ja_D ja_gX M_WJ_context 0 [some (.ref a0), some (.int a1)] [] h (r_WJ_context h a0 a1) := by
  unfold r_WJ_context
  refine jd_iload_n i_WJ_context_0 rfl ?_
  refine jd_if_lt 11 i_WJ_context_1 (by decide) ?_ ?_
  · exact jd_less (t_WJ_context_11) trivial
  · refine jd_iload_n i_WJ_context_4 rfl ?_
    refine jd_sipush 256 i_WJ_context_5 (by decide) ?_
    refine jd_icmp_le 21 i_WJ_context_8 (by decide) ?_ ?_
    · refine jd_iload_n i_WJ_context_21 rfl ?_
      refine jd_aload_n i_WJ_context_22 rfl ?_
      refine jd_getR F_WJ_19 i_WJ_context_23 (fun a101 => ?_)
      refine jd_getI F_WJ_73 i_WJ_context_26 (fun v102 => ?_)
      refine jd_icmp_eq 45 i_WJ_context_29 (by decide) ?_ ?_
      · exact jd_less (t_WJ_context_45) trivial
      · refine jd_aload_n i_WJ_context_32 rfl ?_
        refine jd_getR F_WJ_19 i_WJ_context_33 (fun a103 => ?_)
        refine jd_iload_n i_WJ_context_36 rfl ?_
        refine jd_callVV G_WJ_74 in_Gi_resize se_Gi_resize rfl (fun _ e => c_Gi_resize e) rfl ⟨by decide, by decide⟩ rfl (Nat.le_of_ble_eq_true rfl) i_WJ_context_37 (fun h104 => ?_)
        refine jd_aload_n i_WJ_context_40 rfl ?_
        refine jd_iconst 0 i_WJ_context_41 (by decide) ?_
        refine jd_putZ F_WJ_44 P_WJ_verified i_WJ_context_42 (fun h105 => ?_)
        exact jd_less (t_WJ_context_45) trivial
    · exact jd_less (t_WJ_context_11) trivial
noncomputable def r_Gi_has_29 (h : ja_H) (z0 : Int32) : Option (Int32 × ja_H) := (jb z0 (some (z0, h)))
theorem t_Gi_has_29 {h : ja_H} {z0 : Int32} : ja_D ja_gI M_Gi_has 29 [none, none, none] [.int z0] h (r_Gi_has_29 h z0) := by
  unfold r_Gi_has_29
  exact jd_zreturn i_Gi_has_29 rfl
noncomputable def r_Gi_has_28 (h : ja_H) : Option (Int32 × ja_H) := (r_Gi_has_29 h (0 : Int32))
theorem t_Gi_has_28 {h : ja_H} : ja_D ja_gI M_Gi_has 28 [none, none, none] [] h (r_Gi_has_28 h) := by
  unfold r_Gi_has_28
  refine jd_iconst 0 i_Gi_has_28 (by decide) ?_
  exact jd_less (t_Gi_has_29) trivial
noncomputable def r_Gi_has (h : ja_H) (a0 : Nat) (a1 : Int64) : Option (Int32 × ja_H) := (if a1 < (0 : Int64) then (r_Gi_has_28 h) else (jf_I h a0 2 1 (fun v101 => (if (Int32.toInt64 v101) ≤ a1 then (r_Gi_has_28 h) else (if (256 : Int64) ≤ a1 then (r_Gi_has_28 h) else (r_Gi_has_29 h (1 : Int32)))))))
theorem e_Gi_has {h : ja_H} {a0 : Nat} {a1 : Int64} : ja_D ja_gI M_Gi_has 0 [some (.ref a0), some (.long a1), none] [] h (r_Gi_has h a0 a1) := by
  unfold r_Gi_has
  refine jd_lload_n i_Gi_has_0 rfl ?_
  refine jd_lconst 0 i_Gi_has_1 (by decide) ?_
  refine jd_lcmp_lt 28 i_Gi_has_2 i_Gi_has_3 (by decide) ?_ ?_
  · exact jd_less (t_Gi_has_28) trivial
  · refine jd_lload_n i_Gi_has_6 rfl ?_
    refine jd_aload_n i_Gi_has_7 rfl ?_
    refine jd_getI F_Gi_21 i_Gi_has_8 (fun v101 => ?_)
    refine jd_i2l i_Gi_has_11 ?_
    refine jd_lcmp_ge 28 i_Gi_has_12 i_Gi_has_13 (by decide) ?_ ?_
    · exact jd_less (t_Gi_has_28) trivial
    · refine jd_lload_n i_Gi_has_16 rfl ?_
      refine jd_ldc2 i_Gi_has_17 K_Gi_29 ?_
      refine jd_lcmp_ge 28 i_Gi_has_20 i_Gi_has_21 (by decide) ?_ ?_
      · exact jd_less (t_Gi_has_28) trivial
      · refine jd_iconst 1 i_Gi_has_24 (by decide) ?_
        refine jd_goto 29 i_Gi_has_25 (by decide) ?_
        exact jd_less (t_Gi_has_29) trivial
theorem c_Gi_has {h : ja_H} {a0 : Nat} {a1 : Int64} {o : Int32 × ja_H} (e : r_Gi_has h a0 a1 = some o) : ja_M (0, 0) y_Gi_has b_Gi_has 3 (some .boolean) [.ref a0, .long a1] h [.int o.1] o.2 := jc_of (g := ja_gI) false _ e e_Gi_has rfl (by decide +kernel) (fun q => nomatch q) (Nat.le_of_ble_eq_true rfl) (fun _ q => nomatch q) (Nat.le_of_ble_eq_true rfl)
noncomputable def r_Gi_place_41 (C3 : ja_H → Nat → Int32 → Int64 → Int32 → Option (ja_H)) (h : ja_H) (y0 : Nat) (y1 : Int32) (y2 : Int64) (y4 : Int32) : Option (ja_H) := (jl (y4 + 1 : Int32) (fun (x1 : Int32) => (C3 h y0 y1 y2 x1)))
theorem t_Gi_place_41 {C3 : ja_H → Nat → Int32 → Int64 → Int32 → Option (ja_H)} (k3 : ∀ (h : ja_H) (y0 : Nat) (y1 : Int32) (y2 : Int64) (y4 : Int32), ja_D ja_gV M_Gi_place 3 [some (.ref y0), some (.int y1), some (.long y2), none, some (.int y4)] [] h (C3 h y0 y1 y2 y4)) {h : ja_H} {y0 : Nat} {y1 : Int32} {y2 : Int64} {y4 : Int32} : ja_D ja_gV M_Gi_place 41 [some (.ref y0), some (.int y1), some (.long y2), none, some (.int y4)] [] h (r_Gi_place_41 C3 h y0 y1 y2 y4) := by
  unfold r_Gi_place_41
  refine jd_iinc (fun x1 => [some (.ref y0), some (.int y1), some (.long y2), none, some (.int x1)]) i_Gi_place_41 rfl rfl (by decide) rfl (fun _ => rfl) (fun x1 => ?_)
  refine jd_goto 3 i_Gi_place_44 (by decide) ?_
  exact jd_less (k3 _ _ _ _ _) ⟨rfl, rfl, rfl, rfl, trivial⟩
noncomputable def q_Gi_place_3 (C3 : ja_H → Nat → Int32 → Int64 → Int32 → Option (ja_H)) (h : ja_H) (y0 : Nat) (y1 : Int32) (y2 : Int64) (y4 : Int32) : Option (ja_H) := (if (8 : Int32) ≤ y4 then (some h) else (jk h y0 2 (jc_I (r_Gi_has h y0 ((Int32.toInt64 y1) + (Int32.toInt64 y4))) (fun v2 h1 => (if v2 = (0 : Int32) then (r_Gi_place_41 C3 h1 y0 y1 y2 y4) else (jf_R h1 y0 2 0 (fun a3 => (js_B h1 a3 (y1 + y4) (Int8.toInt32 (Int32.toInt8 (Int64.toInt32 (UInt64.toInt64 (Int64.toUInt64 y2 >>> (Int64.toUInt64 (Int32.toInt64 ((8 : Int32) * y4)) &&& Int64.toUInt64 63)))))) (fun h4 => (r_Gi_place_41 C3 h4 y0 y1 y2 y4))))))))))
theorem t_Gi_place_3 {C3 : ja_H → Nat → Int32 → Int64 → Int32 → Option (ja_H)} (k3 : ∀ (h : ja_H) (y0 : Nat) (y1 : Int32) (y2 : Int64) (y4 : Int32), ja_D ja_gV M_Gi_place 3 [some (.ref y0), some (.int y1), some (.long y2), none, some (.int y4)] [] h (C3 h y0 y1 y2 y4)) {h : ja_H} {y0 : Nat} {y1 : Int32} {y2 : Int64} {y4 : Int32} : ja_D ja_gV M_Gi_place 3 [some (.ref y0), some (.int y1), some (.long y2), none, some (.int y4)] [] h (q_Gi_place_3 C3 h y0 y1 y2 y4) := by
  unfold q_Gi_place_3
  refine jd_iload i_Gi_place_3 rfl ?_
  refine jd_bipush 8 i_Gi_place_5 (by decide) ?_
  refine jd_icmp_ge 47 i_Gi_place_7 (by decide) ?_ ?_
  · exact jd_return i_Gi_place_47 rfl
  · refine jd_aload_n i_Gi_place_10 rfl ?_
    refine jd_iload_n i_Gi_place_11 rfl ?_
    refine jd_i2l i_Gi_place_12 ?_
    refine jd_iload i_Gi_place_13 rfl ?_
    refine jd_i2l i_Gi_place_15 ?_
    refine jd_ladd i_Gi_place_16 ?_
    refine jd_callVI G_Gi_25 in_Gi_has se_Gi_has rfl (fun _ e => c_Gi_has e) rfl ⟨by decide, by decide⟩ rfl (Nat.le_of_ble_eq_true rfl) i_Gi_place_17 (fun v2 h1 => ?_)
    refine jd_if_eq 41 i_Gi_place_20 (by decide) ?_ ?_
    · exact jd_less (t_Gi_place_41 k3) ⟨rfl, rfl, rfl, rfl, trivial⟩
    · refine jd_aload_n i_Gi_place_23 rfl ?_
      refine jd_getR F_Gi_9 i_Gi_place_24 (fun a3 => ?_)
      refine jd_iload_n i_Gi_place_27 rfl ?_
      refine jd_iload i_Gi_place_28 rfl ?_
      refine jd_iadd i_Gi_place_30 ?_
      refine jd_lload_n i_Gi_place_31 rfl ?_
      refine jd_bipush 8 i_Gi_place_32 (by decide) ?_
      refine jd_iload i_Gi_place_34 rfl ?_
      refine jd_imul i_Gi_place_36 ?_
      refine jd_lushr i_Gi_place_37 ?_
      refine jd_l2i i_Gi_place_38 ?_
      refine jd_i2b i_Gi_place_39 ?_
      refine jd_bast i_Gi_place_40 (fun h4 => ?_)
      exact jd_less (t_Gi_place_41 k3) ⟨rfl, rfl, rfl, rfl, trivial⟩
noncomputable def r_Gi_place_3 : Nat → ja_H → Nat → Int32 → Int64 → Int32 → Option (ja_H) := ja_lo (q_Gi_place_3) (fun _ _ _ _ _ => none)
theorem s_Gi_place_3 : ∀ (n : Nat) (h : ja_H) (y0 : Nat) (y1 : Int32) (y2 : Int64) (y4 : Int32), ja_D ja_gV M_Gi_place 3 [some (.ref y0), some (.int y1), some (.long y2), none, some (.int y4)] [] h (r_Gi_place_3 n h y0 y1 y2 y4) := by
  intro n
  induction n with
  | zero => intro h y0 y1 y2 y4 o e; cases e
  | succ n ih => intro h y0 y1 y2 y4; exact t_Gi_place_3 ih
noncomputable def r_Gi_place (h : ja_H) (a0 : Nat) (a1 : Int32) (a2 : Int64) : Option (ja_H) := (jl ((0 : Int32) : Int32) (fun (x101 : Int32) => (r_Gi_place_3 ja_fu h a0 a1 a2 x101)))
theorem e_Gi_place {h : ja_H} {a0 : Nat} {a1 : Int32} {a2 : Int64} : ja_D ja_gV M_Gi_place 0 [some (.ref a0), some (.int a1), some (.long a2), none, none] [] h (r_Gi_place h a0 a1 a2) := by
  unfold r_Gi_place
  refine jd_iconst 0 i_Gi_place_0 (by decide) ?_
  refine jd_istore (fun x101 => [some (.ref a0), some (.int a1), some (.long a2), none, some (.int x101)]) i_Gi_place_1 (by decide) rfl (fun _ => rfl) (fun x101 => ?_)
  exact jd_less (s_Gi_place_3 ja_fu _ _ _ _ _) ⟨rfl, rfl, rfl, rfl, trivial⟩
theorem c_Gi_place {h : ja_H} {a0 : Nat} {a1 : Int32} {a2 : Int64} {o : ja_H} (e : r_Gi_place h a0 a1 a2 = some o) : ja_M (1, 22) y_Gi_place b_Gi_place 5 (none) [.ref a0, .int a1, .long a2] h [] o := jc_of (g := ja_gV) false _ e e_Gi_place rfl (by decide +kernel) (fun q => nomatch q) (Nat.le_of_ble_eq_true rfl) (fun _ q => nomatch q) (Nat.le_of_ble_eq_true rfl)
noncomputable def r_WJ_put_15 (h : ja_H) : Option (List Value × ja_H) := (some ([.retAddr 15], h))
theorem t_WJ_put_15 {h : ja_H} : ja_D ja_gX M_WJ_put 15 [none, none, none, none] [] h (r_WJ_put_15 h) := by
  unfold r_WJ_put_15
  exact jd_throw
noncomputable def r_WJ_put (h : ja_H) (a0 : Nat) (a1 : Int32) (a2 : Int64) : Option (List Value × ja_H) := (if a1 < (0 : Int32) then (r_WJ_put_15 h) else (jf_R h a0 0 1 (fun a101 => (jf_I h a101 2 1 (fun v102 => (if a1 < v102 then (jf_R h a0 0 1 (fun a103 => (jk h a103 2 (jc_V (r_Gi_place h a103 a1 a2) (fun h104 => (some ([], h104))))))) else (r_WJ_put_15 h)))))))
theorem e_WJ_put {h : ja_H} {a0 : Nat} {a1 : Int32} {a2 : Int64} : ja_D ja_gX M_WJ_put 0 [some (.ref a0), some (.int a1), some (.long a2), none] [] h (r_WJ_put h a0 a1 a2) := by
  unfold r_WJ_put
  refine jd_iload_n i_WJ_put_0 rfl ?_
  refine jd_if_lt 15 i_WJ_put_1 (by decide) ?_ ?_
  · exact jd_less (t_WJ_put_15) trivial
  · refine jd_iload_n i_WJ_put_4 rfl ?_
    refine jd_aload_n i_WJ_put_5 rfl ?_
    refine jd_getR F_WJ_19 i_WJ_put_6 (fun a101 => ?_)
    refine jd_getI F_WJ_73 i_WJ_put_9 (fun v102 => ?_)
    refine jd_icmp_lt 25 i_WJ_put_12 (by decide) ?_ ?_
    · refine jd_aload_n i_WJ_put_25 rfl ?_
      refine jd_getR F_WJ_19 i_WJ_put_26 (fun a103 => ?_)
      refine jd_iload_n i_WJ_put_29 rfl ?_
      refine jd_lload_n i_WJ_put_30 rfl ?_
      refine jd_callVV G_WJ_80 in_Gi_place se_Gi_place rfl (fun _ e => c_Gi_place e) rfl ⟨by decide, by decide⟩ rfl (Nat.le_of_ble_eq_true rfl) i_WJ_put_31 (fun h104 => ?_)
      exact jd_returnX i_WJ_put_34 rfl
    · exact jd_less (t_WJ_put_15) trivial
noncomputable def r_Co_at_29 (h : ja_H) (z0 : Int64) : Option (Int64 × ja_H) := (some (z0, h))
theorem t_Co_at_29 {h : ja_H} {z0 : Int64} : ja_D ja_gL M_Co_at 29 [none, none] [.long z0] h (r_Co_at_29 h z0) := by
  unfold r_Co_at_29
  exact jd_lreturn i_Co_at_29 rfl
noncomputable def r_Co_at_28 (h : ja_H) : Option (Int64 × ja_H) := (r_Co_at_29 h (0 : Int64))
theorem t_Co_at_28 {h : ja_H} : ja_D ja_gL M_Co_at 28 [none, none] [] h (r_Co_at_28 h) := by
  unfold r_Co_at_28
  refine jd_lconst 0 i_Co_at_28 (by decide) ?_
  exact jd_less (t_Co_at_29) trivial
noncomputable def r_Co_at (h : ja_H) (a0 : Nat) (a1 : Int32) : Option (Int64 × ja_H) := (if a1 < (0 : Int32) then (r_Co_at_28 h) else (jf_I h a0 1 1 (fun v101 => (if v101 ≤ a1 then (r_Co_at_28 h) else (if (1024 : Int32) ≤ a1 then (r_Co_at_28 h) else (jf_R h a0 1 0 (fun a102 => (je_L h a102 a1 (fun v103 => (r_Co_at_29 h v103))))))))))
theorem e_Co_at {h : ja_H} {a0 : Nat} {a1 : Int32} : ja_D ja_gL M_Co_at 0 [some (.ref a0), some (.int a1)] [] h (r_Co_at h a0 a1) := by
  unfold r_Co_at
  refine jd_iload_n i_Co_at_0 rfl ?_
  refine jd_if_lt 28 i_Co_at_1 (by decide) ?_ ?_
  · exact jd_less (t_Co_at_28) trivial
  · refine jd_iload_n i_Co_at_4 rfl ?_
    refine jd_aload_n i_Co_at_5 rfl ?_
    refine jd_getI F_Co_15 i_Co_at_6 (fun v101 => ?_)
    refine jd_icmp_ge 28 i_Co_at_9 (by decide) ?_ ?_
    · exact jd_less (t_Co_at_28) trivial
    · refine jd_iload_n i_Co_at_12 rfl ?_
      refine jd_sipush 1024 i_Co_at_13 (by decide) ?_
      refine jd_icmp_ge 28 i_Co_at_16 (by decide) ?_ ?_
      · exact jd_less (t_Co_at_28) trivial
      · refine jd_aload_n i_Co_at_19 rfl ?_
        refine jd_getR F_Co_9 i_Co_at_20 (fun a102 => ?_)
        refine jd_iload_n i_Co_at_23 rfl ?_
        refine jd_lald i_Co_at_24 (fun v103 => ?_)
        refine jd_goto 29 i_Co_at_25 (by decide) ?_
        exact jd_less (t_Co_at_29) trivial
theorem c_Co_at {h : ja_H} {a0 : Nat} {a1 : Int32} {o : Int64 × ja_H} (e : r_Co_at h a0 a1 = some o) : ja_M (0, 0) y_Co_at b_Co_at 2 (some .long) [.ref a0, .int a1] h [.long o.1] o.2 := jc_of (g := ja_gL) false _ e e_Co_at rfl (by decide +kernel) (fun q => nomatch q) (Nat.le_of_ble_eq_true rfl) (fun _ q => nomatch q) (Nat.le_of_ble_eq_true rfl)
noncomputable def r_Wo_usesD_23 (h : ja_H) (z0 : Int32) : Option (Int32 × ja_H) := (jb z0 (some (z0, h)))
theorem t_Wo_usesD_23 {h : ja_H} {z0 : Int32} : ja_D ja_gI M_Wo_usesD 23 [none] [.int z0] h (r_Wo_usesD_23 h z0) := by
  unfold r_Wo_usesD_23
  exact jd_zreturn i_Wo_usesD_23 rfl
noncomputable def r_Wo_usesD_22 (h : ja_H) : Option (Int32 × ja_H) := (r_Wo_usesD_23 h (0 : Int32))
theorem t_Wo_usesD_22 {h : ja_H} : ja_D ja_gI M_Wo_usesD 22 [none] [] h (r_Wo_usesD_22 h) := by
  unfold r_Wo_usesD_22
  refine jd_iconst 0 i_Wo_usesD_22 (by decide) ?_
  exact jd_less (t_Wo_usesD_23) trivial
noncomputable def r_Wo_usesD (h : ja_H) (a0 : Nat) : Option (Int32 × ja_H) := (jf_I h a0 4 5 (fun v101 => (if v101 = (6 : Int32) then (r_Wo_usesD_22 h) else (jf_I h a0 4 5 (fun v102 => (if v102 = (8 : Int32) then (r_Wo_usesD_22 h) else (r_Wo_usesD_23 h (1 : Int32))))))))
theorem e_Wo_usesD {h : ja_H} {a0 : Nat} : ja_D ja_gI M_Wo_usesD 0 [some (.ref a0)] [] h (r_Wo_usesD h a0) := by
  unfold r_Wo_usesD
  refine jd_aload_n i_Wo_usesD_0 rfl ?_
  refine jd_getI F_Wo_34 i_Wo_usesD_1 (fun v101 => ?_)
  refine jd_bipush 6 i_Wo_usesD_4 (by decide) ?_
  refine jd_icmp_eq 22 i_Wo_usesD_6 (by decide) ?_ ?_
  · exact jd_less (t_Wo_usesD_22) trivial
  · refine jd_aload_n i_Wo_usesD_9 rfl ?_
    refine jd_getI F_Wo_34 i_Wo_usesD_10 (fun v102 => ?_)
    refine jd_bipush 8 i_Wo_usesD_13 (by decide) ?_
    refine jd_icmp_eq 22 i_Wo_usesD_15 (by decide) ?_ ?_
    · exact jd_less (t_Wo_usesD_22) trivial
    · refine jd_iconst 1 i_Wo_usesD_18 (by decide) ?_
      refine jd_goto 23 i_Wo_usesD_19 (by decide) ?_
      exact jd_less (t_Wo_usesD_23) trivial
theorem c_Wo_usesD {h : ja_H} {a0 : Nat} {o : Int32 × ja_H} (e : r_Wo_usesD h a0 = some o) : ja_M (0, 0) y_Wo_usesD b_Wo_usesD 1 (some .boolean) [.ref a0] h [.int o.1] o.2 := jc_of (g := ja_gI) false _ e e_Wo_usesD rfl (by decide +kernel) (fun q => nomatch q) (Nat.le_of_ble_eq_true rfl) (fun _ q => nomatch q) (Nat.le_of_ble_eq_true rfl)
noncomputable def r_Wo_hasRegisterOperand_40 (h : ja_H) (z0 : Int32) : Option (Int32 × ja_H) := (jb z0 (some (z0, h)))
theorem t_Wo_hasRegisterOperand_40 {h : ja_H} {z0 : Int32} : ja_D ja_gI M_Wo_hasRegisterOperand 40 [none] [.int z0] h (r_Wo_hasRegisterOperand_40 h z0) := by
  unfold r_Wo_hasRegisterOperand_40
  exact jd_zreturn i_Wo_hasRegisterOperand_40 rfl
noncomputable def r_Wo_hasRegisterOperand_39 (h : ja_H) : Option (Int32 × ja_H) := (r_Wo_hasRegisterOperand_40 h (0 : Int32))
theorem t_Wo_hasRegisterOperand_39 {h : ja_H} : ja_D ja_gI M_Wo_hasRegisterOperand 39 [none] [] h (r_Wo_hasRegisterOperand_39 h) := by
  unfold r_Wo_hasRegisterOperand_39
  refine jd_iconst 0 i_Wo_hasRegisterOperand_39 (by decide) ?_
  exact jd_less (t_Wo_hasRegisterOperand_40) trivial
noncomputable def r_Wo_hasRegisterOperand_35 (h : ja_H) : Option (Int32 × ja_H) := (r_Wo_hasRegisterOperand_40 h (1 : Int32))
theorem t_Wo_hasRegisterOperand_35 {h : ja_H} : ja_D ja_gI M_Wo_hasRegisterOperand 35 [none] [] h (r_Wo_hasRegisterOperand_35 h) := by
  unfold r_Wo_hasRegisterOperand_35
  refine jd_iconst 1 i_Wo_hasRegisterOperand_35 (by decide) ?_
  refine jd_goto 40 i_Wo_hasRegisterOperand_36 (by decide) ?_
  exact jd_less (t_Wo_hasRegisterOperand_40) trivial
noncomputable def r_Wo_hasRegisterOperand (h : ja_H) (a0 : Nat) : Option (Int32 × ja_H) := (jf_I h a0 4 0 (fun v101 => (if (v101 &&& (8 : Int32)) = (0 : Int32) then (r_Wo_hasRegisterOperand_39 h) else (jf_I h a0 4 5 (fun v102 => (if v102 = (2 : Int32) then (r_Wo_hasRegisterOperand_35 h) else (jf_I h a0 4 5 (fun v103 => (if v103 = (1 : Int32) then (jf_I h a0 4 6 (fun v104 => (if v104 = (13 : Int32) then (r_Wo_hasRegisterOperand_39 h) else (r_Wo_hasRegisterOperand_35 h)))) else (r_Wo_hasRegisterOperand_39 h))))))))))
theorem e_Wo_hasRegisterOperand {h : ja_H} {a0 : Nat} : ja_D ja_gI M_Wo_hasRegisterOperand 0 [some (.ref a0)] [] h (r_Wo_hasRegisterOperand h a0) := by
  unfold r_Wo_hasRegisterOperand
  refine jd_aload_n i_Wo_hasRegisterOperand_0 rfl ?_
  refine jd_getI F_Wo_9 i_Wo_hasRegisterOperand_1 (fun v101 => ?_)
  refine jd_bipush 8 i_Wo_hasRegisterOperand_4 (by decide) ?_
  refine jd_iand i_Wo_hasRegisterOperand_6 ?_
  refine jd_if_eq 39 i_Wo_hasRegisterOperand_7 (by decide) ?_ ?_
  · exact jd_less (t_Wo_hasRegisterOperand_39) trivial
  · refine jd_aload_n i_Wo_hasRegisterOperand_10 rfl ?_
    refine jd_getI F_Wo_34 i_Wo_hasRegisterOperand_11 (fun v102 => ?_)
    refine jd_iconst 2 i_Wo_hasRegisterOperand_14 (by decide) ?_
    refine jd_icmp_eq 35 i_Wo_hasRegisterOperand_15 (by decide) ?_ ?_
    · exact jd_less (t_Wo_hasRegisterOperand_35) trivial
    · refine jd_aload_n i_Wo_hasRegisterOperand_18 rfl ?_
      refine jd_getI F_Wo_34 i_Wo_hasRegisterOperand_19 (fun v103 => ?_)
      refine jd_iconst 1 i_Wo_hasRegisterOperand_22 (by decide) ?_
      refine jd_icmp_ne 39 i_Wo_hasRegisterOperand_23 (by decide) ?_ ?_
      · exact jd_less (t_Wo_hasRegisterOperand_39) trivial
      · refine jd_aload_n i_Wo_hasRegisterOperand_26 rfl ?_
        refine jd_getI F_Wo_27 i_Wo_hasRegisterOperand_27 (fun v104 => ?_)
        refine jd_bipush 13 i_Wo_hasRegisterOperand_30 (by decide) ?_
        refine jd_icmp_eq 39 i_Wo_hasRegisterOperand_32 (by decide) ?_ ?_
        · exact jd_less (t_Wo_hasRegisterOperand_39) trivial
        · exact jd_less (t_Wo_hasRegisterOperand_35) trivial
theorem c_Wo_hasRegisterOperand {h : ja_H} {a0 : Nat} {o : Int32 × ja_H} (e : r_Wo_hasRegisterOperand h a0 = some o) : ja_M (0, 0) y_Wo_hasRegisterOperand b_Wo_hasRegisterOperand 1 (some .boolean) [.ref a0] h [.int o.1] o.2 := jc_of (g := ja_gI) false _ e e_Wo_hasRegisterOperand rfl (by decide +kernel) (fun q => nomatch q) (Nat.le_of_ble_eq_true rfl) (fun _ q => nomatch q) (Nat.le_of_ble_eq_true rfl)
noncomputable def r_Wo_usesS_28 (h : ja_H) (z0 : Int32) : Option (Int32 × ja_H) := (jb z0 (some (z0, h)))
theorem t_Wo_usesS_28 {h : ja_H} {z0 : Int32} : ja_D ja_gI M_Wo_usesS 28 [none] [.int z0] h (r_Wo_usesS_28 h z0) := by
  unfold r_Wo_usesS_28
  exact jd_zreturn i_Wo_usesS_28 rfl
noncomputable def r_Wo_usesS_23 (h : ja_H) : Option (Int32 × ja_H) := (r_Wo_usesS_28 h (1 : Int32))
theorem t_Wo_usesS_23 {h : ja_H} : ja_D ja_gI M_Wo_usesS 23 [none] [] h (r_Wo_usesS_23 h) := by
  unfold r_Wo_usesS_23
  refine jd_iconst 1 i_Wo_usesS_23 (by decide) ?_
  refine jd_goto 28 i_Wo_usesS_24 (by decide) ?_
  exact jd_less (t_Wo_usesS_28) trivial
noncomputable def r_Wo_usesS (h : ja_H) (a0 : Nat) : Option (Int32 × ja_H) := (jf_I h a0 4 5 (fun v101 => (if v101 = (3 : Int32) then (r_Wo_usesS_23 h) else (jf_I h a0 4 5 (fun v102 => (if v102 = (5 : Int32) then (r_Wo_usesS_23 h) else (jk h a0 4 (jc_I (r_Wo_hasRegisterOperand h a0) (fun v104 h103 => (if v104 = (0 : Int32) then (r_Wo_usesS_28 h103 (0 : Int32)) else (r_Wo_usesS_23 h103)))))))))))
theorem e_Wo_usesS {h : ja_H} {a0 : Nat} : ja_D ja_gI M_Wo_usesS 0 [some (.ref a0)] [] h (r_Wo_usesS h a0) := by
  unfold r_Wo_usesS
  refine jd_aload_n i_Wo_usesS_0 rfl ?_
  refine jd_getI F_Wo_34 i_Wo_usesS_1 (fun v101 => ?_)
  refine jd_iconst 3 i_Wo_usesS_4 (by decide) ?_
  refine jd_icmp_eq 23 i_Wo_usesS_5 (by decide) ?_ ?_
  · exact jd_less (t_Wo_usesS_23) trivial
  · refine jd_aload_n i_Wo_usesS_8 rfl ?_
    refine jd_getI F_Wo_34 i_Wo_usesS_9 (fun v102 => ?_)
    refine jd_iconst 5 i_Wo_usesS_12 (by decide) ?_
    refine jd_icmp_eq 23 i_Wo_usesS_13 (by decide) ?_ ?_
    · exact jd_less (t_Wo_usesS_23) trivial
    · refine jd_aload_n i_Wo_usesS_16 rfl ?_
      refine jd_callVI G_Wo_50 in_Wo_hasRegisterOperand se_Wo_hasRegisterOperand rfl (fun _ e => c_Wo_hasRegisterOperand e) rfl ⟨by decide, by decide⟩ rfl (Nat.le_of_ble_eq_true rfl) i_Wo_usesS_17 (fun v104 h103 => ?_)
      refine jd_if_eq 27 i_Wo_usesS_20 (by decide) ?_ ?_
      · refine jd_iconst 0 i_Wo_usesS_27 (by decide) ?_
        exact jd_less (t_Wo_usesS_28) trivial
      · exact jd_less (t_Wo_usesS_23) trivial
theorem c_Wo_usesS {h : ja_H} {a0 : Nat} {o : Int32 × ja_H} (e : r_Wo_usesS h a0 = some o) : ja_M (1, 20) y_Wo_usesS b_Wo_usesS 1 (some .boolean) [.ref a0] h [.int o.1] o.2 := jc_of (g := ja_gI) false _ e e_Wo_usesS rfl (by decide +kernel) (fun q => nomatch q) (Nat.le_of_ble_eq_true rfl) (fun _ q => nomatch q) (Nat.le_of_ble_eq_true rfl)
noncomputable def r_Wo_usesImm_30 (h : ja_H) (z0 : Int32) : Option (Int32 × ja_H) := (jb z0 (some (z0, h)))
theorem t_Wo_usesImm_30 {h : ja_H} {z0 : Int32} : ja_D ja_gI M_Wo_usesImm 30 [none] [.int z0] h (r_Wo_usesImm_30 h z0) := by
  unfold r_Wo_usesImm_30
  exact jd_zreturn i_Wo_usesImm_30 rfl
noncomputable def r_Wo_usesImm_29 (h : ja_H) : Option (Int32 × ja_H) := (r_Wo_usesImm_30 h (0 : Int32))
theorem t_Wo_usesImm_29 {h : ja_H} : ja_D ja_gI M_Wo_usesImm 29 [none] [] h (r_Wo_usesImm_29 h) := by
  unfold r_Wo_usesImm_29
  refine jd_iconst 0 i_Wo_usesImm_29 (by decide) ?_
  exact jd_less (t_Wo_usesImm_30) trivial
noncomputable def r_Wo_usesImm (h : ja_H) (a0 : Nat) : Option (Int32 × ja_H) := (jk h a0 4 (jc_I (r_Wo_usesS h a0) (fun v102 h101 => (if v102 = (0 : Int32) then (jf_I h101 a0 4 5 (fun v103 => (if v103 = (6 : Int32) then (r_Wo_usesImm_29 h101) else (jf_I h101 a0 4 5 (fun v104 => (if v104 = (8 : Int32) then (r_Wo_usesImm_29 h101) else (r_Wo_usesImm_30 h101 (1 : Int32)))))))) else (r_Wo_usesImm_29 h101)))))
theorem e_Wo_usesImm {h : ja_H} {a0 : Nat} : ja_D ja_gI M_Wo_usesImm 0 [some (.ref a0)] [] h (r_Wo_usesImm h a0) := by
  unfold r_Wo_usesImm
  refine jd_aload_n i_Wo_usesImm_0 rfl ?_
  refine jd_callVI G_Wo_53 in_Wo_usesS se_Wo_usesS rfl (fun _ e => c_Wo_usesS e) rfl ⟨by decide, by decide⟩ rfl (Nat.le_of_ble_eq_true rfl) i_Wo_usesImm_1 (fun v102 h101 => ?_)
  refine jd_if_ne 29 i_Wo_usesImm_4 (by decide) ?_ ?_
  · exact jd_less (t_Wo_usesImm_29) trivial
  · refine jd_aload_n i_Wo_usesImm_7 rfl ?_
    refine jd_getI F_Wo_34 i_Wo_usesImm_8 (fun v103 => ?_)
    refine jd_bipush 6 i_Wo_usesImm_11 (by decide) ?_
    refine jd_icmp_eq 29 i_Wo_usesImm_13 (by decide) ?_ ?_
    · exact jd_less (t_Wo_usesImm_29) trivial
    · refine jd_aload_n i_Wo_usesImm_16 rfl ?_
      refine jd_getI F_Wo_34 i_Wo_usesImm_17 (fun v104 => ?_)
      refine jd_bipush 8 i_Wo_usesImm_20 (by decide) ?_
      refine jd_icmp_eq 29 i_Wo_usesImm_22 (by decide) ?_ ?_
      · exact jd_less (t_Wo_usesImm_29) trivial
      · refine jd_iconst 1 i_Wo_usesImm_25 (by decide) ?_
        refine jd_goto 30 i_Wo_usesImm_26 (by decide) ?_
        exact jd_less (t_Wo_usesImm_30) trivial
theorem c_Wo_usesImm {h : ja_H} {a0 : Nat} {o : Int32 × ja_H} (e : r_Wo_usesImm h a0 = some o) : ja_M (2, 40) y_Wo_usesImm b_Wo_usesImm 1 (some .boolean) [.ref a0] h [.int o.1] o.2 := jc_of (g := ja_gI) false _ e e_Wo_usesImm rfl (by decide +kernel) (fun q => nomatch q) (Nat.le_of_ble_eq_true rfl) (fun _ q => nomatch q) (Nat.le_of_ble_eq_true rfl)
noncomputable def r_Wo_usesOff_31 (h : ja_H) (z0 : Int32) : Option (Int32 × ja_H) := (jb z0 (some (z0, h)))
theorem t_Wo_usesOff_31 {h : ja_H} {z0 : Int32} : ja_D ja_gI M_Wo_usesOff 31 [none] [.int z0] h (r_Wo_usesOff_31 h z0) := by
  unfold r_Wo_usesOff_31
  exact jd_zreturn i_Wo_usesOff_31 rfl
noncomputable def r_Wo_usesOff_30 (h : ja_H) : Option (Int32 × ja_H) := (r_Wo_usesOff_31 h (0 : Int32))
theorem t_Wo_usesOff_30 {h : ja_H} : ja_D ja_gI M_Wo_usesOff 30 [none] [] h (r_Wo_usesOff_30 h) := by
  unfold r_Wo_usesOff_30
  refine jd_iconst 0 i_Wo_usesOff_30 (by decide) ?_
  exact jd_less (t_Wo_usesOff_31) trivial
noncomputable def r_Wo_usesOff (h : ja_H) (a0 : Nat) : Option (Int32 × ja_H) := (jf_I h a0 4 5 (fun v101 => (if v101 = (1 : Int32) then (r_Wo_usesOff_30 h) else (jf_I h a0 4 5 (fun v102 => (if v102 = (7 : Int32) then (r_Wo_usesOff_30 h) else (jf_I h a0 4 5 (fun v103 => (if v103 = (8 : Int32) then (r_Wo_usesOff_30 h) else (r_Wo_usesOff_31 h (1 : Int32)))))))))))
theorem e_Wo_usesOff {h : ja_H} {a0 : Nat} : ja_D ja_gI M_Wo_usesOff 0 [some (.ref a0)] [] h (r_Wo_usesOff h a0) := by
  unfold r_Wo_usesOff
  refine jd_aload_n i_Wo_usesOff_0 rfl ?_
  refine jd_getI F_Wo_34 i_Wo_usesOff_1 (fun v101 => ?_)
  refine jd_iconst 1 i_Wo_usesOff_4 (by decide) ?_
  refine jd_icmp_eq 30 i_Wo_usesOff_5 (by decide) ?_ ?_
  · exact jd_less (t_Wo_usesOff_30) trivial
  · refine jd_aload_n i_Wo_usesOff_8 rfl ?_
    refine jd_getI F_Wo_34 i_Wo_usesOff_9 (fun v102 => ?_)
    refine jd_bipush 7 i_Wo_usesOff_12 (by decide) ?_
    refine jd_icmp_eq 30 i_Wo_usesOff_14 (by decide) ?_ ?_
    · exact jd_less (t_Wo_usesOff_30) trivial
    · refine jd_aload_n i_Wo_usesOff_17 rfl ?_
      refine jd_getI F_Wo_34 i_Wo_usesOff_18 (fun v103 => ?_)
      refine jd_bipush 8 i_Wo_usesOff_21 (by decide) ?_
      refine jd_icmp_eq 30 i_Wo_usesOff_23 (by decide) ?_ ?_
      · exact jd_less (t_Wo_usesOff_30) trivial
      · refine jd_iconst 1 i_Wo_usesOff_26 (by decide) ?_
        refine jd_goto 31 i_Wo_usesOff_27 (by decide) ?_
        exact jd_less (t_Wo_usesOff_31) trivial
theorem c_Wo_usesOff {h : ja_H} {a0 : Nat} {o : Int32 × ja_H} (e : r_Wo_usesOff h a0 = some o) : ja_M (0, 0) y_Wo_usesOff b_Wo_usesOff 1 (some .boolean) [.ref a0] h [.int o.1] o.2 := jc_of (g := ja_gI) false _ e e_Wo_usesOff rfl (by decide +kernel) (fun q => nomatch q) (Nat.le_of_ble_eq_true rfl) (fun _ q => nomatch q) (Nat.le_of_ble_eq_true rfl)
noncomputable def r_Fo_hasUnusedNotZero_85 (h : ja_H) (z0 : Int32) : Option (Int32 × ja_H) := (jb z0 (some (z0, h)))
theorem t_Fo_hasUnusedNotZero_85 {h : ja_H} {z0 : Int32} : ja_D ja_gI M_Fo_hasUnusedNotZero 85 [none] [.int z0] h (r_Fo_hasUnusedNotZero_85 h z0) := by
  unfold r_Fo_hasUnusedNotZero_85
  exact jd_zreturn i_Fo_hasUnusedNotZero_85 rfl
noncomputable def r_Fo_hasUnusedNotZero_84 (h : ja_H) : Option (Int32 × ja_H) := (r_Fo_hasUnusedNotZero_85 h (0 : Int32))
theorem t_Fo_hasUnusedNotZero_84 {h : ja_H} : ja_D ja_gI M_Fo_hasUnusedNotZero 84 [none] [] h (r_Fo_hasUnusedNotZero_84 h) := by
  unfold r_Fo_hasUnusedNotZero_84
  refine jd_iconst 0 i_Fo_hasUnusedNotZero_84 (by decide) ?_
  exact jd_less (t_Fo_hasUnusedNotZero_85) trivial
noncomputable def r_Fo_hasUnusedNotZero_80 (h : ja_H) : Option (Int32 × ja_H) := (r_Fo_hasUnusedNotZero_85 h (1 : Int32))
theorem t_Fo_hasUnusedNotZero_80 {h : ja_H} : ja_D ja_gI M_Fo_hasUnusedNotZero 80 [none] [] h (r_Fo_hasUnusedNotZero_80 h) := by
  unfold r_Fo_hasUnusedNotZero_80
  refine jd_iconst 1 i_Fo_hasUnusedNotZero_80 (by decide) ?_
  refine jd_goto 85 i_Fo_hasUnusedNotZero_81 (by decide) ?_
  exact jd_less (t_Fo_hasUnusedNotZero_85) trivial
noncomputable def r_Fo_hasUnusedNotZero_60 (h : ja_H) (y0 : Nat) : Option (Int32 × ja_H) := (jf_R h y0 3 1 (fun a1 => (jf_I h a1 4 3 (fun v2 => (if v2 = (0 : Int32) then (r_Fo_hasUnusedNotZero_84 h) else (jf_R h y0 3 1 (fun a3 => (jk h a3 4 (jc_I (r_Wo_usesOff h a3) (fun v5 h4 => (if v5 = (0 : Int32) then (r_Fo_hasUnusedNotZero_80 h4) else (r_Fo_hasUnusedNotZero_84 h4))))))))))))
theorem t_Fo_hasUnusedNotZero_60 {h : ja_H} {y0 : Nat} : ja_D ja_gI M_Fo_hasUnusedNotZero 60 [some (.ref y0)] [] h (r_Fo_hasUnusedNotZero_60 h y0) := by
  unfold r_Fo_hasUnusedNotZero_60
  refine jd_aload_n i_Fo_hasUnusedNotZero_60 rfl ?_
  refine jd_getR F_Fo_18 i_Fo_hasUnusedNotZero_61 (fun a1 => ?_)
  refine jd_getI F_Fo_68 i_Fo_hasUnusedNotZero_64 (fun v2 => ?_)
  refine jd_if_eq 84 i_Fo_hasUnusedNotZero_67 (by decide) ?_ ?_
  · exact jd_less (t_Fo_hasUnusedNotZero_84) trivial
  · refine jd_aload_n i_Fo_hasUnusedNotZero_70 rfl ?_
    refine jd_getR F_Fo_18 i_Fo_hasUnusedNotZero_71 (fun a3 => ?_)
    refine jd_callVI G_Fo_95 in_Wo_usesOff se_Wo_usesOff rfl (fun _ e => c_Wo_usesOff e) rfl ⟨by decide, by decide⟩ rfl (Nat.le_of_ble_eq_true rfl) i_Fo_hasUnusedNotZero_74 (fun v5 h4 => ?_)
    refine jd_if_ne 84 i_Fo_hasUnusedNotZero_77 (by decide) ?_ ?_
    · exact jd_less (t_Fo_hasUnusedNotZero_84) trivial
    · exact jd_less (t_Fo_hasUnusedNotZero_80) trivial
noncomputable def r_Fo_hasUnusedNotZero_40 (h : ja_H) (y0 : Nat) : Option (Int32 × ja_H) := (jf_R h y0 3 1 (fun a1 => (jf_I h a1 4 1 (fun v2 => (if v2 = (0 : Int32) then (r_Fo_hasUnusedNotZero_60 h y0) else (jf_R h y0 3 1 (fun a3 => (jk h a3 4 (jc_I (r_Wo_usesD h a3) (fun v5 h4 => (if v5 = (0 : Int32) then (r_Fo_hasUnusedNotZero_80 h4) else (r_Fo_hasUnusedNotZero_60 h4 y0))))))))))))
theorem t_Fo_hasUnusedNotZero_40 {h : ja_H} {y0 : Nat} : ja_D ja_gI M_Fo_hasUnusedNotZero 40 [some (.ref y0)] [] h (r_Fo_hasUnusedNotZero_40 h y0) := by
  unfold r_Fo_hasUnusedNotZero_40
  refine jd_aload_n i_Fo_hasUnusedNotZero_40 rfl ?_
  refine jd_getR F_Fo_18 i_Fo_hasUnusedNotZero_41 (fun a1 => ?_)
  refine jd_getI F_Fo_50 i_Fo_hasUnusedNotZero_44 (fun v2 => ?_)
  refine jd_if_eq 60 i_Fo_hasUnusedNotZero_47 (by decide) ?_ ?_
  · exact jd_less (t_Fo_hasUnusedNotZero_60) ⟨rfl, trivial⟩
  · refine jd_aload_n i_Fo_hasUnusedNotZero_50 rfl ?_
    refine jd_getR F_Fo_18 i_Fo_hasUnusedNotZero_51 (fun a3 => ?_)
    refine jd_callVI G_Fo_92 in_Wo_usesD se_Wo_usesD rfl (fun _ e => c_Wo_usesD e) rfl ⟨by decide, by decide⟩ rfl (Nat.le_of_ble_eq_true rfl) i_Fo_hasUnusedNotZero_54 (fun v5 h4 => ?_)
    refine jd_if_eq 80 i_Fo_hasUnusedNotZero_57 (by decide) ?_ ?_
    · exact jd_less (t_Fo_hasUnusedNotZero_80) trivial
    · exact jd_less (t_Fo_hasUnusedNotZero_60) ⟨rfl, trivial⟩
noncomputable def r_Fo_hasUnusedNotZero_20 (h : ja_H) (y0 : Nat) : Option (Int32 × ja_H) := (jf_R h y0 3 1 (fun a1 => (jf_I h a1 4 2 (fun v2 => (if v2 = (0 : Int32) then (r_Fo_hasUnusedNotZero_40 h y0) else (jf_R h y0 3 1 (fun a3 => (jk h a3 4 (jc_I (r_Wo_usesS h a3) (fun v5 h4 => (if v5 = (0 : Int32) then (r_Fo_hasUnusedNotZero_80 h4) else (r_Fo_hasUnusedNotZero_40 h4 y0))))))))))))
theorem t_Fo_hasUnusedNotZero_20 {h : ja_H} {y0 : Nat} : ja_D ja_gI M_Fo_hasUnusedNotZero 20 [some (.ref y0)] [] h (r_Fo_hasUnusedNotZero_20 h y0) := by
  unfold r_Fo_hasUnusedNotZero_20
  refine jd_aload_n i_Fo_hasUnusedNotZero_20 rfl ?_
  refine jd_getR F_Fo_18 i_Fo_hasUnusedNotZero_21 (fun a1 => ?_)
  refine jd_getI F_Fo_53 i_Fo_hasUnusedNotZero_24 (fun v2 => ?_)
  refine jd_if_eq 40 i_Fo_hasUnusedNotZero_27 (by decide) ?_ ?_
  · exact jd_less (t_Fo_hasUnusedNotZero_40) ⟨rfl, trivial⟩
  · refine jd_aload_n i_Fo_hasUnusedNotZero_30 rfl ?_
    refine jd_getR F_Fo_18 i_Fo_hasUnusedNotZero_31 (fun a3 => ?_)
    refine jd_callVI G_Fo_89 in_Wo_usesS se_Wo_usesS rfl (fun _ e => c_Wo_usesS e) rfl ⟨by decide, by decide⟩ rfl (Nat.le_of_ble_eq_true rfl) i_Fo_hasUnusedNotZero_34 (fun v5 h4 => ?_)
    refine jd_if_eq 80 i_Fo_hasUnusedNotZero_37 (by decide) ?_ ?_
    · exact jd_less (t_Fo_hasUnusedNotZero_80) trivial
    · exact jd_less (t_Fo_hasUnusedNotZero_40) ⟨rfl, trivial⟩
noncomputable def r_Fo_hasUnusedNotZero (h : ja_H) (a0 : Nat) : Option (Int32 × ja_H) := (jf_R h a0 3 1 (fun a101 => (jf_I h a101 4 4 (fun v102 => (if v102 = (0 : Int32) then (r_Fo_hasUnusedNotZero_20 h a0) else (jf_R h a0 3 1 (fun a103 => (jk h a103 4 (jc_I (r_Wo_usesImm h a103) (fun v105 h104 => (if v105 = (0 : Int32) then (r_Fo_hasUnusedNotZero_80 h104) else (r_Fo_hasUnusedNotZero_20 h104 a0))))))))))))
theorem e_Fo_hasUnusedNotZero {h : ja_H} {a0 : Nat} : ja_D ja_gI M_Fo_hasUnusedNotZero 0 [some (.ref a0)] [] h (r_Fo_hasUnusedNotZero h a0) := by
  unfold r_Fo_hasUnusedNotZero
  refine jd_aload_n i_Fo_hasUnusedNotZero_0 rfl ?_
  refine jd_getR F_Fo_18 i_Fo_hasUnusedNotZero_1 (fun a101 => ?_)
  refine jd_getI F_Fo_83 i_Fo_hasUnusedNotZero_4 (fun v102 => ?_)
  refine jd_if_eq 20 i_Fo_hasUnusedNotZero_7 (by decide) ?_ ?_
  · exact jd_less (t_Fo_hasUnusedNotZero_20) ⟨rfl, trivial⟩
  · refine jd_aload_n i_Fo_hasUnusedNotZero_10 rfl ?_
    refine jd_getR F_Fo_18 i_Fo_hasUnusedNotZero_11 (fun a103 => ?_)
    refine jd_callVI G_Fo_86 in_Wo_usesImm se_Wo_usesImm rfl (fun _ e => c_Wo_usesImm e) rfl ⟨by decide, by decide⟩ rfl (Nat.le_of_ble_eq_true rfl) i_Fo_hasUnusedNotZero_14 (fun v105 h104 => ?_)
    refine jd_if_eq 80 i_Fo_hasUnusedNotZero_17 (by decide) ?_ ?_
    · exact jd_less (t_Fo_hasUnusedNotZero_80) trivial
    · exact jd_less (t_Fo_hasUnusedNotZero_20) ⟨rfl, trivial⟩
theorem c_Fo_hasUnusedNotZero {h : ja_H} {a0 : Nat} {o : Int32 × ja_H} (e : r_Fo_hasUnusedNotZero h a0 = some o) : ja_M (3, 60) y_Fo_hasUnusedNotZero b_Fo_hasUnusedNotZero 1 (some .boolean) [.ref a0] h [.int o.1] o.2 := jc_of (g := ja_gI) false _ e e_Fo_hasUnusedNotZero rfl (by decide +kernel) (fun q => nomatch q) (Nat.le_of_ble_eq_true rfl) (fun _ q => nomatch q) (Nat.le_of_ble_eq_true rfl)
