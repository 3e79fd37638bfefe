noncomputable def r_Mo_op (h : ja_H) (a0 : Nat) (a1 : Int32) : Option (Int32 × ja_H) := (jf_R h a0 9 1 (fun a101 => (je_L h a101 a1 (fun v102 => (some (((Int64.toInt32 v102) &&& (255 : Int32)), h))))))
theorem e_Mo_op {h : ja_H} {a0 : Nat} {a1 : Int32} : ja_D ja_gI M_Mo_op 0 [some (.ref a0), some (.int a1)] [] h (r_Mo_op h a0 a1) := by
  unfold r_Mo_op
  refine jd_aload_n i_Mo_op_0 rfl ?_
  refine jd_getR F_Mo_9 i_Mo_op_1 (fun a101 => ?_)
  refine jd_iload_n i_Mo_op_4 rfl ?_
  refine jd_lald i_Mo_op_5 (fun v102 => ?_)
  refine jd_l2i i_Mo_op_6 ?_
  refine jd_sipush 255 i_Mo_op_7 (by decide) ?_
  refine jd_iand i_Mo_op_10 ?_
  exact jd_ireturn i_Mo_op_11 rfl
theorem c_Mo_op {h : ja_H} {a0 : Nat} {a1 : Int32} {o : Int32 × ja_H} (e : r_Mo_op h a0 a1 = some o) : ja_M (0, 0) y_Mo_op b_Mo_op 2 (some .int) [.ref a0, .int a1] h [.int o.1] o.2 := jc_of (g := ja_gI) false _ e e_Mo_op rfl (by decide +kernel) (fun q => nomatch q) (Nat.le_of_ble_eq_true rfl) (fun _ q => nomatch q) (Nat.le_of_ble_eq_true rfl)
noncomputable def r_Mo_d (h : ja_H) (a0 : Nat) (a1 : Int32) : Option (Int32 × ja_H) := (jf_R h a0 9 1 (fun a101 => (je_L h a101 a1 (fun v102 => (some (((Int64.toInt32 (UInt64.toInt64 (Int64.toUInt64 v102 >>> (Int64.toUInt64 (Int32.toInt64 (8 : Int32)) &&& Int64.toUInt64 63)))) &&& (15 : Int32)), h))))))
theorem e_Mo_d {h : ja_H} {a0 : Nat} {a1 : Int32} : ja_D ja_gI M_Mo_d 0 [some (.ref a0), some (.int a1)] [] h (r_Mo_d h a0 a1) := by
  unfold r_Mo_d
  refine jd_aload_n i_Mo_d_0 rfl ?_
  refine jd_getR F_Mo_9 i_Mo_d_1 (fun a101 => ?_)
  refine jd_iload_n i_Mo_d_4 rfl ?_
  refine jd_lald i_Mo_d_5 (fun v102 => ?_)
  refine jd_bipush 8 i_Mo_d_6 (by decide) ?_
  refine jd_lushr i_Mo_d_8 ?_
  refine jd_l2i i_Mo_d_9 ?_
  refine jd_bipush 15 i_Mo_d_10 (by decide) ?_
  refine jd_iand i_Mo_d_12 ?_
  exact jd_ireturn i_Mo_d_13 rfl
theorem c_Mo_d {h : ja_H} {a0 : Nat} {a1 : Int32} {o : Int32 × ja_H} (e : r_Mo_d h a0 a1 = some o) : ja_M (0, 0) y_Mo_d b_Mo_d 2 (some .int) [.ref a0, .int a1] h [.int o.1] o.2 := jc_of (g := ja_gI) false _ e e_Mo_d rfl (by decide +kernel) (fun q => nomatch q) (Nat.le_of_ble_eq_true rfl) (fun _ q => nomatch q) (Nat.le_of_ble_eq_true rfl)
noncomputable def r_Mo_s (h : ja_H) (a0 : Nat) (a1 : Int32) : Option (Int32 × ja_H) := (jf_R h a0 9 1 (fun a101 => (je_L h a101 a1 (fun v102 => (some (((Int64.toInt32 (UInt64.toInt64 (Int64.toUInt64 v102 >>> (Int64.toUInt64 (Int32.toInt64 (12 : Int32)) &&& Int64.toUInt64 63)))) &&& (15 : Int32)), h))))))
theorem e_Mo_s {h : ja_H} {a0 : Nat} {a1 : Int32} : ja_D ja_gI M_Mo_s 0 [some (.ref a0), some (.int a1)] [] h (r_Mo_s h a0 a1) := by
  unfold r_Mo_s
  refine jd_aload_n i_Mo_s_0 rfl ?_
  refine jd_getR F_Mo_9 i_Mo_s_1 (fun a101 => ?_)
  refine jd_iload_n i_Mo_s_4 rfl ?_
  refine jd_lald i_Mo_s_5 (fun v102 => ?_)
  refine jd_bipush 12 i_Mo_s_6 (by decide) ?_
  refine jd_lushr i_Mo_s_8 ?_
  refine jd_l2i i_Mo_s_9 ?_
  refine jd_bipush 15 i_Mo_s_10 (by decide) ?_
  refine jd_iand i_Mo_s_12 ?_
  exact jd_ireturn i_Mo_s_13 rfl
theorem c_Mo_s {h : ja_H} {a0 : Nat} {a1 : Int32} {o : Int32 × ja_H} (e : r_Mo_s h a0 a1 = some o) : ja_M (0, 0) y_Mo_s b_Mo_s 2 (some .int) [.ref a0, .int a1] h [.int o.1] o.2 := jc_of (g := ja_gI) false _ e e_Mo_s rfl (by decide +kernel) (fun q => nomatch q) (Nat.le_of_ble_eq_true rfl) (fun _ q => nomatch q) (Nat.le_of_ble_eq_true rfl)
noncomputable def r_Mo_off (h : ja_H) (a0 : Nat) (a1 : Int32) : Option (Int32 × ja_H) := (jf_R h a0 9 1 (fun a101 => (je_L h a101 a1 (fun v102 => (some ((Int16.toInt32 (Int32.toInt16 (Int64.toInt32 (UInt64.toInt64 (Int64.toUInt64 v102 >>> (Int64.toUInt64 (Int32.toInt64 (16 : Int32)) &&& Int64.toUInt64 63)))))), h))))))
theorem e_Mo_off {h : ja_H} {a0 : Nat} {a1 : Int32} : ja_D ja_gI M_Mo_off 0 [some (.ref a0), some (.int a1)] [] h (r_Mo_off h a0 a1) := by
  unfold r_Mo_off
  refine jd_aload_n i_Mo_off_0 rfl ?_
  refine jd_getR F_Mo_9 i_Mo_off_1 (fun a101 => ?_)
  refine jd_iload_n i_Mo_off_4 rfl ?_
  refine jd_lald i_Mo_off_5 (fun v102 => ?_)
  refine jd_bipush 16 i_Mo_off_6 (by decide) ?_
  refine jd_lushr i_Mo_off_8 ?_
  refine jd_l2i i_Mo_off_9 ?_
  refine jd_i2s i_Mo_off_10 ?_
  exact jd_ireturn i_Mo_off_11 rfl
theorem c_Mo_off {h : ja_H} {a0 : Nat} {a1 : Int32} {o : Int32 × ja_H} (e : r_Mo_off h a0 a1 = some o) : ja_M (0, 0) y_Mo_off b_Mo_off 2 (some .int) [.ref a0, .int a1] h [.int o.1] o.2 := jc_of (g := ja_gI) false _ e e_Mo_off rfl (by decide +kernel) (fun q => nomatch q) (Nat.le_of_ble_eq_true rfl) (fun _ q => nomatch q) (Nat.le_of_ble_eq_true rfl)
noncomputable def r_Mo_imm (h : ja_H) (a0 : Nat) (a1 : Int32) : Option (Int32 × ja_H) := (jf_R h a0 9 1 (fun a101 => (je_L h a101 a1 (fun v102 => (some ((Int64.toInt32 (UInt64.toInt64 (Int64.toUInt64 v102 >>> (Int64.toUInt64 (Int32.toInt64 (32 : Int32)) &&& Int64.toUInt64 63)))), h))))))
theorem e_Mo_imm {h : ja_H} {a0 : Nat} {a1 : Int32} : ja_D ja_gI M_Mo_imm 0 [some (.ref a0), some (.int a1)] [] h (r_Mo_imm h a0 a1) := by
  unfold r_Mo_imm
  refine jd_aload_n i_Mo_imm_0 rfl ?_
  refine jd_getR F_Mo_9 i_Mo_imm_1 (fun a101 => ?_)
  refine jd_iload_n i_Mo_imm_4 rfl ?_
  refine jd_lald i_Mo_imm_5 (fun v102 => ?_)
  refine jd_bipush 32 i_Mo_imm_6 (by decide) ?_
  refine jd_lushr i_Mo_imm_8 ?_
  refine jd_l2i i_Mo_imm_9 ?_
  exact jd_ireturn i_Mo_imm_10 rfl
theorem c_Mo_imm {h : ja_H} {a0 : Nat} {a1 : Int32} {o : Int32 × ja_H} (e : r_Mo_imm h a0 a1 = some o) : ja_M (0, 0) y_Mo_imm b_Mo_imm 2 (some .int) [.ref a0, .int a1] h [.int o.1] o.2 := jc_of (g := ja_gI) false _ e e_Mo_imm rfl (by decide +kernel) (fun q => nomatch q) (Nat.le_of_ble_eq_true rfl) (fun _ q => nomatch q) (Nat.le_of_ble_eq_true rfl)
noncomputable def r_Mo_reads_29 (h : ja_H) (z0 : Int32) : Option (Int32 × ja_H) := (jb z0 (some (z0, h)))
theorem t_Mo_reads_29 {h : ja_H} {z0 : Int32} : ja_D ja_gI M_Mo_reads 29 [none] [.int z0] h (r_Mo_reads_29 h z0) := by
  unfold r_Mo_reads_29
  exact jd_zreturn i_Mo_reads_29 rfl
noncomputable def r_Mo_reads_24 (h : ja_H) : Option (Int32 × ja_H) := (r_Mo_reads_29 h (1 : Int32))
theorem t_Mo_reads_24 {h : ja_H} : ja_D ja_gI M_Mo_reads 24 [none] [] h (r_Mo_reads_24 h) := by
  unfold r_Mo_reads_24
  refine jd_iconst 1 i_Mo_reads_24 (by decide) ?_
  refine jd_goto 29 i_Mo_reads_25 (by decide) ?_
  exact jd_less (t_Mo_reads_29) trivial
noncomputable def r_Mo_reads (h : ja_H) (a0 : Int32) : Option (Int32 × ja_H) := (if a0 = (97 : Int32) then (r_Mo_reads_24 h) else (if a0 = (105 : Int32) then (r_Mo_reads_24 h) else (if a0 = (113 : Int32) then (r_Mo_reads_24 h) else (if a0 = (121 : Int32) then (r_Mo_reads_24 h) else (r_Mo_reads_29 h (0 : Int32))))))
theorem e_Mo_reads {h : ja_H} {a0 : Int32} : ja_D ja_gI M_Mo_reads 0 [some (.int a0)] [] h (r_Mo_reads h a0) := by
  unfold r_Mo_reads
  refine jd_iload_n i_Mo_reads_0 rfl ?_
  refine jd_bipush 97 i_Mo_reads_1 (by decide) ?_
  refine jd_icmp_eq 24 i_Mo_reads_3 (by decide) ?_ ?_
  · exact jd_less (t_Mo_reads_24) trivial
  · refine jd_iload_n i_Mo_reads_6 rfl ?_
    refine jd_bipush 105 i_Mo_reads_7 (by decide) ?_
    refine jd_icmp_eq 24 i_Mo_reads_9 (by decide) ?_ ?_
    · exact jd_less (t_Mo_reads_24) trivial
    · refine jd_iload_n i_Mo_reads_12 rfl ?_
      refine jd_bipush 113 i_Mo_reads_13 (by decide) ?_
      refine jd_icmp_eq 24 i_Mo_reads_15 (by decide) ?_ ?_
      · exact jd_less (t_Mo_reads_24) trivial
      · refine jd_iload_n i_Mo_reads_18 rfl ?_
        refine jd_bipush 121 i_Mo_reads_19 (by decide) ?_
        refine jd_icmp_ne 28 i_Mo_reads_21 (by decide) ?_ ?_
        · refine jd_iconst 0 i_Mo_reads_28 (by decide) ?_
          exact jd_less (t_Mo_reads_29) trivial
        · exact jd_less (t_Mo_reads_24) trivial
theorem c_Mo_reads {h : ja_H} {a0 : Int32} {o : Int32 × ja_H} (e : r_Mo_reads h a0 = some o) : ja_M (0, 0) y_Mo_reads b_Mo_reads 1 (some .boolean) [.int a0] h [.int o.1] o.2 := jc_of (g := ja_gI) false _ e e_Mo_reads rfl (by decide +kernel) (fun q => nomatch q) (Nat.le_of_ble_eq_true rfl) (fun _ q => nomatch q) (Nat.le_of_ble_eq_true rfl)
noncomputable def r_Mo_stores_29 (h : ja_H) (z0 : Int32) : Option (Int32 × ja_H) := (jb z0 (some (z0, h)))
theorem t_Mo_stores_29 {h : ja_H} {z0 : Int32} : ja_D ja_gI M_Mo_stores 29 [none] [.int z0] h (r_Mo_stores_29 h z0) := by
  unfold r_Mo_stores_29
  exact jd_zreturn i_Mo_stores_29 rfl
noncomputable def r_Mo_stores_24 (h : ja_H) : Option (Int32 × ja_H) := (r_Mo_stores_29 h (1 : Int32))
theorem t_Mo_stores_24 {h : ja_H} : ja_D ja_gI M_Mo_stores 24 [none] [] h (r_Mo_stores_24 h) := by
  unfold r_Mo_stores_24
  refine jd_iconst 1 i_Mo_stores_24 (by decide) ?_
  refine jd_goto 29 i_Mo_stores_25 (by decide) ?_
  exact jd_less (t_Mo_stores_29) trivial
noncomputable def r_Mo_stores (h : ja_H) (a0 : Int32) : Option (Int32 × ja_H) := (if a0 = (99 : Int32) then (r_Mo_stores_24 h) else (if a0 = (107 : Int32) then (r_Mo_stores_24 h) else (if a0 = (115 : Int32) then (r_Mo_stores_24 h) else (if a0 = (123 : Int32) then (r_Mo_stores_24 h) else (r_Mo_stores_29 h (0 : Int32))))))
theorem e_Mo_stores {h : ja_H} {a0 : Int32} : ja_D ja_gI M_Mo_stores 0 [some (.int a0)] [] h (r_Mo_stores h a0) := by
  unfold r_Mo_stores
  refine jd_iload_n i_Mo_stores_0 rfl ?_
  refine jd_bipush 99 i_Mo_stores_1 (by decide) ?_
  refine jd_icmp_eq 24 i_Mo_stores_3 (by decide) ?_ ?_
  · exact jd_less (t_Mo_stores_24) trivial
  · refine jd_iload_n i_Mo_stores_6 rfl ?_
    refine jd_bipush 107 i_Mo_stores_7 (by decide) ?_
    refine jd_icmp_eq 24 i_Mo_stores_9 (by decide) ?_ ?_
    · exact jd_less (t_Mo_stores_24) trivial
    · refine jd_iload_n i_Mo_stores_12 rfl ?_
      refine jd_bipush 115 i_Mo_stores_13 (by decide) ?_
      refine jd_icmp_eq 24 i_Mo_stores_15 (by decide) ?_ ?_
      · exact jd_less (t_Mo_stores_24) trivial
      · refine jd_iload_n i_Mo_stores_18 rfl ?_
        refine jd_bipush 123 i_Mo_stores_19 (by decide) ?_
        refine jd_icmp_ne 28 i_Mo_stores_21 (by decide) ?_ ?_
        · refine jd_iconst 0 i_Mo_stores_28 (by decide) ?_
          exact jd_less (t_Mo_stores_29) trivial
        · exact jd_less (t_Mo_stores_24) trivial
theorem c_Mo_stores {h : ja_H} {a0 : Int32} {o : Int32 × ja_H} (e : r_Mo_stores h a0 = some o) : ja_M (0, 0) y_Mo_stores b_Mo_stores 1 (some .boolean) [.int a0] h [.int o.1] o.2 := jc_of (g := ja_gI) false _ e e_Mo_stores rfl (by decide +kernel) (fun q => nomatch q) (Nat.le_of_ble_eq_true rfl) (fun _ q => nomatch q) (Nat.le_of_ble_eq_true rfl)
noncomputable def r_Mo_storesNumber_29 (h : ja_H) (z0 : Int32) : Option (Int32 × ja_H) := (jb z0 (some (z0, h)))
theorem t_Mo_storesNumber_29 {h : ja_H} {z0 : Int32} : ja_D ja_gI M_Mo_storesNumber 29 [none] [.int z0] h (r_Mo_storesNumber_29 h z0) := by
  unfold r_Mo_storesNumber_29
  exact jd_zreturn i_Mo_storesNumber_29 rfl
noncomputable def r_Mo_storesNumber_24 (h : ja_H) : Option (Int32 × ja_H) := (r_Mo_storesNumber_29 h (1 : Int32))
theorem t_Mo_storesNumber_24 {h : ja_H} : ja_D ja_gI M_Mo_storesNumber 24 [none] [] h (r_Mo_storesNumber_24 h) := by
  unfold r_Mo_storesNumber_24
  refine jd_iconst 1 i_Mo_storesNumber_24 (by decide) ?_
  refine jd_goto 29 i_Mo_storesNumber_25 (by decide) ?_
  exact jd_less (t_Mo_storesNumber_29) trivial
noncomputable def r_Mo_storesNumber (h : ja_H) (a0 : Int32) : Option (Int32 × ja_H) := (if a0 = (98 : Int32) then (r_Mo_storesNumber_24 h) else (if a0 = (106 : Int32) then (r_Mo_storesNumber_24 h) else (if a0 = (114 : Int32) then (r_Mo_storesNumber_24 h) else (if a0 = (122 : Int32) then (r_Mo_storesNumber_24 h) else (r_Mo_storesNumber_29 h (0 : Int32))))))
theorem e_Mo_storesNumber {h : ja_H} {a0 : Int32} : ja_D ja_gI M_Mo_storesNumber 0 [some (.int a0)] [] h (r_Mo_storesNumber h a0) := by
  unfold r_Mo_storesNumber
  refine jd_iload_n i_Mo_storesNumber_0 rfl ?_
  refine jd_bipush 98 i_Mo_storesNumber_1 (by decide) ?_
  refine jd_icmp_eq 24 i_Mo_storesNumber_3 (by decide) ?_ ?_
  · exact jd_less (t_Mo_storesNumber_24) trivial
  · refine jd_iload_n i_Mo_storesNumber_6 rfl ?_
    refine jd_bipush 106 i_Mo_storesNumber_7 (by decide) ?_
    refine jd_icmp_eq 24 i_Mo_storesNumber_9 (by decide) ?_ ?_
    · exact jd_less (t_Mo_storesNumber_24) trivial
    · refine jd_iload_n i_Mo_storesNumber_12 rfl ?_
      refine jd_bipush 114 i_Mo_storesNumber_13 (by decide) ?_
      refine jd_icmp_eq 24 i_Mo_storesNumber_15 (by decide) ?_ ?_
      · exact jd_less (t_Mo_storesNumber_24) trivial
      · refine jd_iload_n i_Mo_storesNumber_18 rfl ?_
        refine jd_bipush 122 i_Mo_storesNumber_19 (by decide) ?_
        refine jd_icmp_ne 28 i_Mo_storesNumber_21 (by decide) ?_ ?_
        · refine jd_iconst 0 i_Mo_storesNumber_28 (by decide) ?_
          exact jd_less (t_Mo_storesNumber_29) trivial
        · exact jd_less (t_Mo_storesNumber_24) trivial
theorem c_Mo_storesNumber {h : ja_H} {a0 : Int32} {o : Int32 × ja_H} (e : r_Mo_storesNumber h a0 = some o) : ja_M (0, 0) y_Mo_storesNumber b_Mo_storesNumber 1 (some .boolean) [.int a0] h [.int o.1] o.2 := jc_of (g := ja_gI) false _ e e_Mo_storesNumber rfl (by decide +kernel) (fun q => nomatch q) (Nat.le_of_ble_eq_true rfl) (fun _ q => nomatch q) (Nat.le_of_ble_eq_true rfl)
noncomputable def r_Mo_sum_22 (h : ja_H) (z0 : Int32) : Option (Int32 × ja_H) := (jb z0 (some (z0, h)))
theorem t_Mo_sum_22 {h : ja_H} {z0 : Int32} : ja_D ja_gI M_Mo_sum 22 [none] [.int z0] h (r_Mo_sum_22 h z0) := by
  unfold r_Mo_sum_22
  exact jd_zreturn i_Mo_sum_22 rfl
noncomputable def r_Mo_sum_17 (h : ja_H) : Option (Int32 × ja_H) := (r_Mo_sum_22 h (1 : Int32))
theorem t_Mo_sum_17 {h : ja_H} : ja_D ja_gI M_Mo_sum 17 [none] [] h (r_Mo_sum_17 h) := by
  unfold r_Mo_sum_17
  refine jd_iconst 1 i_Mo_sum_17 (by decide) ?_
  refine jd_goto 22 i_Mo_sum_18 (by decide) ?_
  exact jd_less (t_Mo_sum_22) trivial
noncomputable def r_Mo_sum (h : ja_H) (a0 : Int32) : Option (Int32 × ja_H) := (if (a0 &&& (7 : Int32)) = (7 : Int32) then (r_Mo_sum_17 h) else (if (a0 &&& (7 : Int32)) = (4 : Int32) then (r_Mo_sum_17 h) else (r_Mo_sum_22 h (0 : Int32))))
theorem e_Mo_sum {h : ja_H} {a0 : Int32} : ja_D ja_gI M_Mo_sum 0 [some (.int a0)] [] h (r_Mo_sum h a0) := by
  unfold r_Mo_sum
  refine jd_iload_n i_Mo_sum_0 rfl ?_
  refine jd_bipush 7 i_Mo_sum_1 (by decide) ?_
  refine jd_iand i_Mo_sum_3 ?_
  refine jd_bipush 7 i_Mo_sum_4 (by decide) ?_
  refine jd_icmp_eq 17 i_Mo_sum_6 (by decide) ?_ ?_
  · exact jd_less (t_Mo_sum_17) trivial
  · refine jd_iload_n i_Mo_sum_9 rfl ?_
    refine jd_bipush 7 i_Mo_sum_10 (by decide) ?_
    refine jd_iand i_Mo_sum_12 ?_
    refine jd_iconst 4 i_Mo_sum_13 (by decide) ?_
    refine jd_icmp_ne 21 i_Mo_sum_14 (by decide) ?_ ?_
    · refine jd_iconst 0 i_Mo_sum_21 (by decide) ?_
      exact jd_less (t_Mo_sum_22) trivial
    · exact jd_less (t_Mo_sum_17) trivial
theorem c_Mo_sum {h : ja_H} {a0 : Int32} {o : Int32 × ja_H} (e : r_Mo_sum h a0 = some o) : ja_M (0, 0) y_Mo_sum b_Mo_sum 1 (some .boolean) [.int a0] h [.int o.1] o.2 := jc_of (g := ja_gI) false _ e e_Mo_sum rfl (by decide +kernel) (fun q => nomatch q) (Nat.le_of_ble_eq_true rfl) (fun _ q => nomatch q) (Nat.le_of_ble_eq_true rfl)
noncomputable def r_Mo_test_29 (h : ja_H) (z0 : Int32) : Option (Int32 × ja_H) := (jb z0 (some (z0, h)))
theorem t_Mo_test_29 {h : ja_H} {z0 : Int32} : ja_D ja_gI M_Mo_test 29 [none] [.int z0] h (r_Mo_test_29 h z0) := by
  unfold r_Mo_test_29
  exact jd_zreturn i_Mo_test_29 rfl
noncomputable def r_Mo_test_28 (h : ja_H) : Option (Int32 × ja_H) := (r_Mo_test_29 h (0 : Int32))
theorem t_Mo_test_28 {h : ja_H} : ja_D ja_gI M_Mo_test 28 [none] [] h (r_Mo_test_28 h) := by
  unfold r_Mo_test_28
  refine jd_iconst 0 i_Mo_test_28 (by decide) ?_
  exact jd_less (t_Mo_test_29) trivial
noncomputable def r_Mo_test_24 (h : ja_H) : Option (Int32 × ja_H) := (r_Mo_test_29 h (1 : Int32))
theorem t_Mo_test_24 {h : ja_H} : ja_D ja_gI M_Mo_test 24 [none] [] h (r_Mo_test_24 h) := by
  unfold r_Mo_test_24
  refine jd_iconst 1 i_Mo_test_24 (by decide) ?_
  refine jd_goto 29 i_Mo_test_25 (by decide) ?_
  exact jd_less (t_Mo_test_29) trivial
noncomputable def r_Mo_test (h : ja_H) (a0 : Int32) : Option (Int32 × ja_H) := (if a0 = (149 : Int32) then (r_Mo_test_28 h) else (if (a0 &&& (7 : Int32)) = (5 : Int32) then (r_Mo_test_24 h) else (if (a0 &&& (7 : Int32)) = (6 : Int32) then (r_Mo_test_24 h) else (r_Mo_test_28 h))))
theorem e_Mo_test {h : ja_H} {a0 : Int32} : ja_D ja_gI M_Mo_test 0 [some (.int a0)] [] h (r_Mo_test h a0) := by
  unfold r_Mo_test
  refine jd_iload_n i_Mo_test_0 rfl ?_
  refine jd_sipush 149 i_Mo_test_1 (by decide) ?_
  refine jd_icmp_eq 28 i_Mo_test_4 (by decide) ?_ ?_
  · exact jd_less (t_Mo_test_28) trivial
  · refine jd_iload_n i_Mo_test_7 rfl ?_
    refine jd_bipush 7 i_Mo_test_8 (by decide) ?_
    refine jd_iand i_Mo_test_10 ?_
    refine jd_iconst 5 i_Mo_test_11 (by decide) ?_
    refine jd_icmp_eq 24 i_Mo_test_12 (by decide) ?_ ?_
    · exact jd_less (t_Mo_test_24) trivial
    · refine jd_iload_n i_Mo_test_15 rfl ?_
      refine jd_bipush 7 i_Mo_test_16 (by decide) ?_
      refine jd_iand i_Mo_test_18 ?_
      refine jd_bipush 6 i_Mo_test_19 (by decide) ?_
      refine jd_icmp_ne 28 i_Mo_test_21 (by decide) ?_ ?_
      · exact jd_less (t_Mo_test_28) trivial
      · exact jd_less (t_Mo_test_24) trivial
theorem c_Mo_test {h : ja_H} {a0 : Int32} {o : Int32 × ja_H} (e : r_Mo_test h a0 = some o) : ja_M (0, 0) y_Mo_test b_Mo_test 1 (some .boolean) [.int a0] h [.int o.1] o.2 := jc_of (g := ja_gI) false _ e e_Mo_test rfl (by decide +kernel) (fun q => nomatch q) (Nat.le_of_ble_eq_true rfl) (fun _ q => nomatch q) (Nat.le_of_ble_eq_true rfl)
noncomputable def r_Mo_go_10 (h : ja_H) (z0 : Int32) : Option (Int32 × ja_H) := (jb z0 (some (z0, h)))
theorem t_Mo_go_10 {h : ja_H} {z0 : Int32} : ja_D ja_gI M_Mo_go 10 [none] [.int z0] h (r_Mo_go_10 h z0) := by
  unfold r_Mo_go_10
  exact jd_zreturn i_Mo_go_10 rfl
noncomputable def r_Mo_go (h : ja_H) (a0 : Int32) : Option (Int32 × ja_H) := (if a0 = (5 : Int32) then (r_Mo_go_10 h (1 : Int32)) else (r_Mo_go_10 h (0 : Int32)))
theorem e_Mo_go {h : ja_H} {a0 : Int32} : ja_D ja_gI M_Mo_go 0 [some (.int a0)] [] h (r_Mo_go h a0) := by
  unfold r_Mo_go
  refine jd_iload_n i_Mo_go_0 rfl ?_
  refine jd_iconst 5 i_Mo_go_1 (by decide) ?_
  refine jd_icmp_ne 9 i_Mo_go_2 (by decide) ?_ ?_
  · refine jd_iconst 0 i_Mo_go_9 (by decide) ?_
    exact jd_less (t_Mo_go_10) trivial
  · refine jd_iconst 1 i_Mo_go_5 (by decide) ?_
    refine jd_goto 10 i_Mo_go_6 (by decide) ?_
    exact jd_less (t_Mo_go_10) trivial
theorem c_Mo_go {h : ja_H} {a0 : Int32} {o : Int32 × ja_H} (e : r_Mo_go h a0 = some o) : ja_M (0, 0) y_Mo_go b_Mo_go 1 (some .boolean) [.int a0] h [.int o.1] o.2 := jc_of (g := ja_gI) false _ e e_Mo_go rfl (by decide +kernel) (fun q => nomatch q) (Nat.le_of_ble_eq_true rfl) (fun _ q => nomatch q) (Nat.le_of_ble_eq_true rfl)
noncomputable def r_Mo_size_39 (h : ja_H) (z0 : Int32) : Option (Int32 × ja_H) := (some (z0, h))
theorem t_Mo_size_39 {h : ja_H} {z0 : Int32} : ja_D ja_gI M_Mo_size 39 [none] [.int z0] h (r_Mo_size_39 h z0) := by
  unfold r_Mo_size_39
  exact jd_ireturn i_Mo_size_39 rfl
noncomputable def r_Mo_size (h : ja_H) (a0 : Int32) : Option (Int32 × ja_H) := (if (a0 &&& (24 : Int32)) = (0 : Int32) then (r_Mo_size_39 h (4 : Int32)) else (if (a0 &&& (24 : Int32)) = (8 : Int32) then (r_Mo_size_39 h (2 : Int32)) else (if (a0 &&& (24 : Int32)) = (16 : Int32) then (r_Mo_size_39 h (1 : Int32)) else (r_Mo_size_39 h (8 : Int32)))))
theorem e_Mo_size {h : ja_H} {a0 : Int32} : ja_D ja_gI M_Mo_size 0 [some (.int a0)] [] h (r_Mo_size h a0) := by
  unfold r_Mo_size
  refine jd_iload_n i_Mo_size_0 rfl ?_
  refine jd_bipush 24 i_Mo_size_1 (by decide) ?_
  refine jd_iand i_Mo_size_3 ?_
  refine jd_if_ne 11 i_Mo_size_4 (by decide) ?_ ?_
  · refine jd_iload_n i_Mo_size_11 rfl ?_
    refine jd_bipush 24 i_Mo_size_12 (by decide) ?_
    refine jd_iand i_Mo_size_14 ?_
    refine jd_bipush 8 i_Mo_size_15 (by decide) ?_
    refine jd_icmp_ne 24 i_Mo_size_17 (by decide) ?_ ?_
    · refine jd_iload_n i_Mo_size_24 rfl ?_
      refine jd_bipush 24 i_Mo_size_25 (by decide) ?_
      refine jd_iand i_Mo_size_27 ?_
      refine jd_bipush 16 i_Mo_size_28 (by decide) ?_
      refine jd_icmp_ne 37 i_Mo_size_30 (by decide) ?_ ?_
      · refine jd_bipush 8 i_Mo_size_37 (by decide) ?_
        exact jd_less (t_Mo_size_39) trivial
      · refine jd_iconst 1 i_Mo_size_33 (by decide) ?_
        refine jd_goto 39 i_Mo_size_34 (by decide) ?_
        exact jd_less (t_Mo_size_39) trivial
    · refine jd_iconst 2 i_Mo_size_20 (by decide) ?_
      refine jd_goto 39 i_Mo_size_21 (by decide) ?_
      exact jd_less (t_Mo_size_39) trivial
  · refine jd_iconst 4 i_Mo_size_7 (by decide) ?_
    refine jd_goto 39 i_Mo_size_8 (by decide) ?_
    exact jd_less (t_Mo_size_39) trivial
theorem c_Mo_size {h : ja_H} {a0 : Int32} {o : Int32 × ja_H} (e : r_Mo_size h a0 = some o) : ja_M (0, 0) y_Mo_size b_Mo_size 1 (some .int) [.int a0] h [.int o.1] o.2 := jc_of (g := ja_gI) false _ e e_Mo_size rfl (by decide +kernel) (fun q => nomatch q) (Nat.le_of_ble_eq_true rfl) (fun _ q => nomatch q) (Nat.le_of_ble_eq_true rfl)
noncomputable def r_Mo_isOne_236 (h : ja_H) (z0 : Int32) : Option (Int32 × ja_H) := (jb z0 (some (z0, h)))
theorem t_Mo_isOne_236 {h : ja_H} {z0 : Int32} : ja_D ja_gI M_Mo_isOne 236 [none, none, none, none] [.int z0] h (r_Mo_isOne_236 h z0) := by
  unfold r_Mo_isOne_236
  exact jd_zreturn i_Mo_isOne_236 rfl
noncomputable def r_Mo_isOne_235 (h : ja_H) : Option (Int32 × ja_H) := (r_Mo_isOne_236 h (0 : Int32))
theorem t_Mo_isOne_235 {h : ja_H} : ja_D ja_gI M_Mo_isOne 235 [none, none, none, none] [] h (r_Mo_isOne_235 h) := by
  unfold r_Mo_isOne_235
  refine jd_iconst 0 i_Mo_isOne_235 (by decide) ?_
  exact jd_less (t_Mo_isOne_236) trivial
noncomputable def r_Mo_isOne_231 (h : ja_H) : Option (Int32 × ja_H) := (r_Mo_isOne_236 h (1 : Int32))
theorem t_Mo_isOne_231 {h : ja_H} : ja_D ja_gI M_Mo_isOne 231 [none, none, none, none] [] h (r_Mo_isOne_231 h) := by
  unfold r_Mo_isOne_231
  refine jd_iconst 1 i_Mo_isOne_231 (by decide) ?_
  refine jd_goto 236 i_Mo_isOne_232 (by decide) ?_
  exact jd_less (t_Mo_isOne_236) trivial
noncomputable def r_Mo_isOne_219 (h : ja_H) (y3 : Int32) : Option (Int32 × ja_H) := (if y3 < (10 : Int32) then (r_Mo_isOne_235 h) else (if (13 : Int32) < y3 then (r_Mo_isOne_235 h) else (r_Mo_isOne_231 h)))
theorem t_Mo_isOne_219 {h : ja_H} {y3 : Int32} : ja_D ja_gI M_Mo_isOne 219 [none, none, none, some (.int y3)] [] h (r_Mo_isOne_219 h y3) := by
  unfold r_Mo_isOne_219
  refine jd_iload_n i_Mo_isOne_219 rfl ?_
  refine jd_bipush 10 i_Mo_isOne_220 (by decide) ?_
  refine jd_icmp_lt 235 i_Mo_isOne_222 (by decide) ?_ ?_
  · exact jd_less (t_Mo_isOne_235) trivial
  · refine jd_iload_n i_Mo_isOne_225 rfl ?_
    refine jd_bipush 13 i_Mo_isOne_226 (by decide) ?_
    refine jd_icmp_gt 235 i_Mo_isOne_228 (by decide) ?_ ?_
    · exact jd_less (t_Mo_isOne_235) trivial
    · exact jd_less (t_Mo_isOne_231) trivial
noncomputable def r_Mo_isOne_198 (h : ja_H) (z0 : Int32) : Option (Int32 × ja_H) := (jb z0 (some (z0, h)))
theorem t_Mo_isOne_198 {h : ja_H} {z0 : Int32} : ja_D ja_gI M_Mo_isOne 198 [none, none, none, none] [.int z0] h (r_Mo_isOne_198 h z0) := by
  unfold r_Mo_isOne_198
  exact jd_zreturn i_Mo_isOne_198 rfl
noncomputable def r_Mo_isOne_197 (h : ja_H) : Option (Int32 × ja_H) := (r_Mo_isOne_198 h (0 : Int32))
theorem t_Mo_isOne_197 {h : ja_H} : ja_D ja_gI M_Mo_isOne 197 [none, none, none, none] [] h (r_Mo_isOne_197 h) := by
  unfold r_Mo_isOne_197
  refine jd_iconst 0 i_Mo_isOne_197 (by decide) ?_
  exact jd_less (t_Mo_isOne_198) trivial
noncomputable def r_Mo_isOne_193 (h : ja_H) : Option (Int32 × ja_H) := (r_Mo_isOne_198 h (1 : Int32))
theorem t_Mo_isOne_193 {h : ja_H} : ja_D ja_gI M_Mo_isOne 193 [none, none, none, none] [] h (r_Mo_isOne_193 h) := by
  unfold r_Mo_isOne_193
  refine jd_iconst 1 i_Mo_isOne_193 (by decide) ?_
  refine jd_goto 198 i_Mo_isOne_194 (by decide) ?_
  exact jd_less (t_Mo_isOne_198) trivial
noncomputable def r_Mo_isOne_181 (h : ja_H) (y3 : Int32) : Option (Int32 × ja_H) := (if y3 < (10 : Int32) then (r_Mo_isOne_197 h) else (if (13 : Int32) < y3 then (r_Mo_isOne_197 h) else (r_Mo_isOne_193 h)))
theorem t_Mo_isOne_181 {h : ja_H} {y3 : Int32} : ja_D ja_gI M_Mo_isOne 181 [none, none, none, some (.int y3)] [] h (r_Mo_isOne_181 h y3) := by
  unfold r_Mo_isOne_181
  refine jd_iload_n i_Mo_isOne_181 rfl ?_
  refine jd_bipush 10 i_Mo_isOne_182 (by decide) ?_
  refine jd_icmp_lt 197 i_Mo_isOne_184 (by decide) ?_ ?_
  · exact jd_less (t_Mo_isOne_197) trivial
  · refine jd_iload_n i_Mo_isOne_187 rfl ?_
    refine jd_bipush 13 i_Mo_isOne_188 (by decide) ?_
    refine jd_icmp_gt 197 i_Mo_isOne_190 (by decide) ?_ ?_
    · exact jd_less (t_Mo_isOne_197) trivial
    · exact jd_less (t_Mo_isOne_193) trivial
noncomputable def r_Mo_isOne_156 (h : ja_H) (z0 : Int32) : Option (Int32 × ja_H) := (jb z0 (some (z0, h)))
theorem t_Mo_isOne_156 {h : ja_H} {z0 : Int32} : ja_D ja_gI M_Mo_isOne 156 [none, none, none, none] [.int z0] h (r_Mo_isOne_156 h z0) := by
  unfold r_Mo_isOne_156
  exact jd_zreturn i_Mo_isOne_156 rfl
noncomputable def r_Mo_isOne_155 (h : ja_H) : Option (Int32 × ja_H) := (r_Mo_isOne_156 h (0 : Int32))
theorem t_Mo_isOne_155 {h : ja_H} : ja_D ja_gI M_Mo_isOne 155 [none, none, none, none] [] h (r_Mo_isOne_155 h) := by
  unfold r_Mo_isOne_155
  refine jd_iconst 0 i_Mo_isOne_155 (by decide) ?_
  exact jd_less (t_Mo_isOne_156) trivial
noncomputable def r_Mo_isOne_151 (h : ja_H) : Option (Int32 × ja_H) := (r_Mo_isOne_156 h (1 : Int32))
theorem t_Mo_isOne_151 {h : ja_H} : ja_D ja_gI M_Mo_isOne 151 [none, none, none, none] [] h (r_Mo_isOne_151 h) := by
  unfold r_Mo_isOne_151
  refine jd_iconst 1 i_Mo_isOne_151 (by decide) ?_
  refine jd_goto 156 i_Mo_isOne_152 (by decide) ?_
  exact jd_less (t_Mo_isOne_156) trivial
noncomputable def r_Mo_isOne_107 (h : ja_H) : Option (Int32 × ja_H) := (r_Mo_isOne_156 h (1 : Int32))
theorem t_Mo_isOne_107 {h : ja_H} : ja_D ja_gI M_Mo_isOne 107 [none, none, none, none] [] h (r_Mo_isOne_107 h) := by
  unfold r_Mo_isOne_107
  refine jd_iconst 1 i_Mo_isOne_107 (by decide) ?_
  refine jd_goto 156 i_Mo_isOne_108 (by decide) ?_
  exact jd_less (t_Mo_isOne_156) trivial
noncomputable def r_Mo_isOne_79 (h : ja_H) (z0 : Int32) : Option (Int32 × ja_H) := (jb z0 (some (z0, h)))
theorem t_Mo_isOne_79 {h : ja_H} {z0 : Int32} : ja_D ja_gI M_Mo_isOne 79 [none, none, none, none] [.int z0] h (r_Mo_isOne_79 h z0) := by
  unfold r_Mo_isOne_79
  exact jd_zreturn i_Mo_isOne_79 rfl
noncomputable def r_Mo_isOne_78 (h : ja_H) : Option (Int32 × ja_H) := (r_Mo_isOne_79 h (0 : Int32))
theorem t_Mo_isOne_78 {h : ja_H} : ja_D ja_gI M_Mo_isOne 78 [none, none, none, none] [] h (r_Mo_isOne_78 h) := by
  unfold r_Mo_isOne_78
  refine jd_iconst 0 i_Mo_isOne_78 (by decide) ?_
  exact jd_less (t_Mo_isOne_79) trivial
noncomputable def r_Mo_isOne_74 (h : ja_H) : Option (Int32 × ja_H) := (r_Mo_isOne_79 h (1 : Int32))
theorem t_Mo_isOne_74 {h : ja_H} : ja_D ja_gI M_Mo_isOne 74 [none, none, none, none] [] h (r_Mo_isOne_74 h) := by
  unfold r_Mo_isOne_74
  refine jd_iconst 1 i_Mo_isOne_74 (by decide) ?_
  refine jd_goto 79 i_Mo_isOne_75 (by decide) ?_
  exact jd_less (t_Mo_isOne_79) trivial
noncomputable def r_Mo_isOne_44 (h : ja_H) : Option (Int32 × ja_H) := (jb (1 : Int32) (some ((1 : Int32), h)))
theorem t_Mo_isOne_44 {h : ja_H} : ja_D ja_gI M_Mo_isOne 44 [none, none, none, none] [] h (r_Mo_isOne_44 h) := by
  unfold r_Mo_isOne_44
  refine jd_iconst 1 i_Mo_isOne_44 (by decide) ?_
  exact jd_zreturn i_Mo_isOne_45 rfl
noncomputable def r_Mo_isOne (h : ja_H) (a0 : Nat) (a1 : Int32) : Option (Int32 × ja_H) := (jk h a0 9 (jc_I (r_Mo_op h a0 a1) (fun v102 h101 => (jl (v102 : Int32) (fun (x103 : Int32) => (jl ((x103 >>> ((4 : Int32) &&& 31)) : Int32) (fun (x104 : Int32) => (jc_I (r_Mo_reads h101 x103) (fun v106 h105 => (if v106 = (0 : Int32) then (jc_I (r_Mo_stores h105 x103) (fun v108 h107 => (if v108 = (0 : Int32) then (jc_I (r_Mo_storesNumber h107 x103) (fun v110 h109 => (if v110 = (0 : Int32) then (if x103 = (24 : Int32) then (r_Mo_isOne_44 h109) else (if x103 = (149 : Int32) then (r_Mo_isOne_44 h109) else (if (x103 &&& (7 : Int32)) = (7 : Int32) then (if (13 : Int32) ≤ x104 then (r_Mo_isOne_78 h109) else (if x104 = (8 : Int32) then (if (x103 &&& (8 : Int32)) = (0 : Int32) then (r_Mo_isOne_74 h109) else (r_Mo_isOne_78 h109)) else (r_Mo_isOne_74 h109))) else (if (x103 &&& (7 : Int32)) = (4 : Int32) then (if (13 : Int32) ≤ x104 then (if x104 = (13 : Int32) then (jk h109 a0 9 (jc_I (r_Mo_imm h109 a0 a1) (fun v112 h111 => (if v112 = (16 : Int32) then (r_Mo_isOne_151 h111) else (jk h111 a0 9 (jc_I (r_Mo_imm h111 a0 a1) (fun v114 h113 => (if v114 = (32 : Int32) then (r_Mo_isOne_151 h113) else (jk h113 a0 9 (jc_I (r_Mo_imm h113 a0 a1) (fun v116 h115 => (if v116 = (64 : Int32) then (r_Mo_isOne_151 h115) else (r_Mo_isOne_155 h115))))))))))))) else (r_Mo_isOne_155 h109)) else (if x104 = (8 : Int32) then (if (x103 &&& (8 : Int32)) = (0 : Int32) then (r_Mo_isOne_107 h109) else (r_Mo_isOne_156 h109 (0 : Int32))) else (r_Mo_isOne_107 h109))) else (if (x103 &&& (7 : Int32)) = (5 : Int32) then (if x103 = (5 : Int32) then (r_Mo_isOne_193 h109) else (if x104 < (1 : Int32) then (r_Mo_isOne_181 h109 x104) else (if x104 ≤ (7 : Int32) then (r_Mo_isOne_193 h109) else (r_Mo_isOne_181 h109 x104)))) else (if (x103 &&& (7 : Int32)) = (6 : Int32) then (if x104 < (1 : Int32) then (r_Mo_isOne_219 h109 x104) else (if x104 ≤ (7 : Int32) then (r_Mo_isOne_231 h109) else (r_Mo_isOne_219 h109 x104))) else (r_Mo_isOne_235 h109))))))) else (r_Mo_isOne_44 h109)))) else (r_Mo_isOne_44 h107)))) else (r_Mo_isOne_44 h105)))))))))))
theorem e_Mo_isOne {h : ja_H} {a0 : Nat} {a1 : Int32} : ja_D ja_gI M_Mo_isOne 0 [some (.ref a0), some (.int a1), none, none] [] h (r_Mo_isOne h a0 a1) := by
  unfold r_Mo_isOne
  refine jd_aload_n i_Mo_isOne_0 rfl ?_
  refine jd_iload_n i_Mo_isOne_1 rfl ?_
  refine jd_callVI G_Mo_78 in_Mo_op se_Mo_op rfl (fun _ e => c_Mo_op e) rfl ⟨by decide, by decide⟩ rfl (Nat.le_of_ble_eq_true rfl) i_Mo_isOne_2 (fun v102 h101 => ?_)
  refine jd_istore_n (fun x103 => [some (.ref a0), some (.int a1), some (.int x103), none]) i_Mo_isOne_5 (by decide) rfl (fun _ => rfl) (fun x103 => ?_)
  refine jd_iload_n i_Mo_isOne_6 rfl ?_
  refine jd_iconst 4 i_Mo_isOne_7 (by decide) ?_
  refine jd_ishr i_Mo_isOne_8 ?_
  refine jd_istore_n (fun x104 => [some (.ref a0), some (.int a1), some (.int x103), some (.int x104)]) i_Mo_isOne_9 (by decide) rfl (fun _ => rfl) (fun x104 => ?_)
  refine jd_iload_n i_Mo_isOne_10 rfl ?_
  refine jd_callSI G_Mo_82 sc_Mo_reads (fun _ e => c_Mo_reads e) rfl ⟨by decide, by decide⟩ rfl (Nat.le_of_ble_eq_true rfl) i_Mo_isOne_11 (fun v106 h105 => ?_)
  refine jd_if_ne 44 i_Mo_isOne_14 (by decide) ?_ ?_
  · exact jd_less (t_Mo_isOne_44) trivial
  · refine jd_iload_n i_Mo_isOne_17 rfl ?_
    refine jd_callSI G_Mo_86 sc_Mo_stores (fun _ e => c_Mo_stores e) rfl ⟨by decide, by decide⟩ rfl (Nat.le_of_ble_eq_true rfl) i_Mo_isOne_18 (fun v108 h107 => ?_)
    refine jd_if_ne 44 i_Mo_isOne_21 (by decide) ?_ ?_
    · exact jd_less (t_Mo_isOne_44) trivial
    · refine jd_iload_n i_Mo_isOne_24 rfl ?_
      refine jd_callSI G_Mo_89 sc_Mo_storesNumber (fun _ e => c_Mo_storesNumber e) rfl ⟨by decide, by decide⟩ rfl (Nat.le_of_ble_eq_true rfl) i_Mo_isOne_25 (fun v110 h109 => ?_)
      refine jd_if_ne 44 i_Mo_isOne_28 (by decide) ?_ ?_
      · exact jd_less (t_Mo_isOne_44) trivial
      · refine jd_iload_n i_Mo_isOne_31 rfl ?_
        refine jd_bipush 24 i_Mo_isOne_32 (by decide) ?_
        refine jd_icmp_eq 44 i_Mo_isOne_34 (by decide) ?_ ?_
        · exact jd_less (t_Mo_isOne_44) trivial
        · refine jd_iload_n i_Mo_isOne_37 rfl ?_
          refine jd_sipush 149 i_Mo_isOne_38 (by decide) ?_
          refine jd_icmp_ne 46 i_Mo_isOne_41 (by decide) ?_ ?_
          · refine jd_iload_n i_Mo_isOne_46 rfl ?_
            refine jd_bipush 7 i_Mo_isOne_47 (by decide) ?_
            refine jd_iand i_Mo_isOne_49 ?_
            refine jd_bipush 7 i_Mo_isOne_50 (by decide) ?_
            refine jd_icmp_ne 80 i_Mo_isOne_52 (by decide) ?_ ?_
            · refine jd_iload_n i_Mo_isOne_80 rfl ?_
              refine jd_bipush 7 i_Mo_isOne_81 (by decide) ?_
              refine jd_iand i_Mo_isOne_83 ?_
              refine jd_iconst 4 i_Mo_isOne_84 (by decide) ?_
              refine jd_icmp_ne 157 i_Mo_isOne_85 (by decide) ?_ ?_
              · refine jd_iload_n i_Mo_isOne_157 rfl ?_
                refine jd_bipush 7 i_Mo_isOne_158 (by decide) ?_
                refine jd_iand i_Mo_isOne_160 ?_
                refine jd_iconst 5 i_Mo_isOne_161 (by decide) ?_
                refine jd_icmp_ne 199 i_Mo_isOne_162 (by decide) ?_ ?_
                · refine jd_iload_n i_Mo_isOne_199 rfl ?_
                  refine jd_bipush 7 i_Mo_isOne_200 (by decide) ?_
                  refine jd_iand i_Mo_isOne_202 ?_
                  refine jd_bipush 6 i_Mo_isOne_203 (by decide) ?_
                  refine jd_icmp_ne 235 i_Mo_isOne_205 (by decide) ?_ ?_
                  · exact jd_less (t_Mo_isOne_235) trivial
                  · refine jd_iload_n i_Mo_isOne_208 rfl ?_
                    refine jd_iconst 1 i_Mo_isOne_209 (by decide) ?_
                    refine jd_icmp_lt 219 i_Mo_isOne_210 (by decide) ?_ ?_
                    · exact jd_less (t_Mo_isOne_219) ⟨rfl, trivial⟩
                    · refine jd_iload_n i_Mo_isOne_213 rfl ?_
                      refine jd_bipush 7 i_Mo_isOne_214 (by decide) ?_
                      refine jd_icmp_le 231 i_Mo_isOne_216 (by decide) ?_ ?_
                      · exact jd_less (t_Mo_isOne_231) trivial
                      · exact jd_less (t_Mo_isOne_219) ⟨rfl, trivial⟩
                · refine jd_iload_n i_Mo_isOne_165 rfl ?_
                  refine jd_iconst 5 i_Mo_isOne_166 (by decide) ?_
                  refine jd_icmp_eq 193 i_Mo_isOne_167 (by decide) ?_ ?_
                  · exact jd_less (t_Mo_isOne_193) trivial
                  · refine jd_iload_n i_Mo_isOne_170 rfl ?_
                    refine jd_iconst 1 i_Mo_isOne_171 (by decide) ?_
                    refine jd_icmp_lt 181 i_Mo_isOne_172 (by decide) ?_ ?_
                    · exact jd_less (t_Mo_isOne_181) ⟨rfl, trivial⟩
                    · refine jd_iload_n i_Mo_isOne_175 rfl ?_
                      refine jd_bipush 7 i_Mo_isOne_176 (by decide) ?_
                      refine jd_icmp_le 193 i_Mo_isOne_178 (by decide) ?_ ?_
                      · exact jd_less (t_Mo_isOne_193) trivial
                      · exact jd_less (t_Mo_isOne_181) ⟨rfl, trivial⟩
              · refine jd_iload_n i_Mo_isOne_88 rfl ?_
                refine jd_bipush 13 i_Mo_isOne_89 (by decide) ?_
                refine jd_icmp_ge 115 i_Mo_isOne_91 (by decide) ?_ ?_
                · refine jd_iload_n i_Mo_isOne_115 rfl ?_
                  refine jd_bipush 13 i_Mo_isOne_116 (by decide) ?_
                  refine jd_icmp_ne 155 i_Mo_isOne_118 (by decide) ?_ ?_
                  · exact jd_less (t_Mo_isOne_155) trivial
                  · refine jd_aload_n i_Mo_isOne_121 rfl ?_
                    refine jd_iload_n i_Mo_isOne_122 rfl ?_
                    refine jd_callVI G_Mo_92 in_Mo_imm se_Mo_imm rfl (fun _ e => c_Mo_imm e) rfl ⟨by decide, by decide⟩ rfl (Nat.le_of_ble_eq_true rfl) i_Mo_isOne_123 (fun v112 h111 => ?_)
                    refine jd_bipush 16 i_Mo_isOne_126 (by decide) ?_
                    refine jd_icmp_eq 151 i_Mo_isOne_128 (by decide) ?_ ?_
                    · exact jd_less (t_Mo_isOne_151) trivial
                    · refine jd_aload_n i_Mo_isOne_131 rfl ?_
                      refine jd_iload_n i_Mo_isOne_132 rfl ?_
                      refine jd_callVI G_Mo_92 in_Mo_imm se_Mo_imm rfl (fun _ e => c_Mo_imm e) rfl ⟨by decide, by decide⟩ rfl (Nat.le_of_ble_eq_true rfl) i_Mo_isOne_133 (fun v114 h113 => ?_)
                      refine jd_bipush 32 i_Mo_isOne_136 (by decide) ?_
                      refine jd_icmp_eq 151 i_Mo_isOne_138 (by decide) ?_ ?_
                      · exact jd_less (t_Mo_isOne_151) trivial
                      · refine jd_aload_n i_Mo_isOne_141 rfl ?_
                        refine jd_iload_n i_Mo_isOne_142 rfl ?_
                        refine jd_callVI G_Mo_92 in_Mo_imm se_Mo_imm rfl (fun _ e => c_Mo_imm e) rfl ⟨by decide, by decide⟩ rfl (Nat.le_of_ble_eq_true rfl) i_Mo_isOne_143 (fun v116 h115 => ?_)
                        refine jd_bipush 64 i_Mo_isOne_146 (by decide) ?_
                        refine jd_icmp_ne 155 i_Mo_isOne_148 (by decide) ?_ ?_
                        · exact jd_less (t_Mo_isOne_155) trivial
                        · exact jd_less (t_Mo_isOne_151) trivial
                · refine jd_iload_n i_Mo_isOne_94 rfl ?_
                  refine jd_bipush 8 i_Mo_isOne_95 (by decide) ?_
                  refine jd_icmp_ne 107 i_Mo_isOne_97 (by decide) ?_ ?_
                  · exact jd_less (t_Mo_isOne_107) trivial
                  · refine jd_iload_n i_Mo_isOne_100 rfl ?_
                    refine jd_bipush 8 i_Mo_isOne_101 (by decide) ?_
                    refine jd_iand i_Mo_isOne_103 ?_
                    refine jd_if_ne 111 i_Mo_isOne_104 (by decide) ?_ ?_
                    · refine jd_iconst 0 i_Mo_isOne_111 (by decide) ?_
                      refine jd_goto 156 i_Mo_isOne_112 (by decide) ?_
                      exact jd_less (t_Mo_isOne_156) trivial
                    · exact jd_less (t_Mo_isOne_107) trivial
            · refine jd_iload_n i_Mo_isOne_55 rfl ?_
              refine jd_bipush 13 i_Mo_isOne_56 (by decide) ?_
              refine jd_icmp_ge 78 i_Mo_isOne_58 (by decide) ?_ ?_
              · exact jd_less (t_Mo_isOne_78) trivial
              · refine jd_iload_n i_Mo_isOne_61 rfl ?_
                refine jd_bipush 8 i_Mo_isOne_62 (by decide) ?_
                refine jd_icmp_ne 74 i_Mo_isOne_64 (by decide) ?_ ?_
                · exact jd_less (t_Mo_isOne_74) trivial
                · refine jd_iload_n i_Mo_isOne_67 rfl ?_
                  refine jd_bipush 8 i_Mo_isOne_68 (by decide) ?_
                  refine jd_iand i_Mo_isOne_70 ?_
                  refine jd_if_ne 78 i_Mo_isOne_71 (by decide) ?_ ?_
                  · exact jd_less (t_Mo_isOne_78) trivial
                  · exact jd_less (t_Mo_isOne_74) trivial
          · exact jd_less (t_Mo_isOne_44) trivial
theorem c_Mo_isOne {h : ja_H} {a0 : Nat} {a1 : Int32} {o : Int32 × ja_H} (e : r_Mo_isOne h a0 a1 = some o) : ja_M (1, 21) y_Mo_isOne b_Mo_isOne 4 (some .boolean) [.ref a0, .int a1] h [.int o.1] o.2 := jc_of (g := ja_gI) false _ e e_Mo_isOne rfl (by decide +kernel) (fun q => nomatch q) (Nat.le_of_ble_eq_true rfl) (fun _ q => nomatch q) (Nat.le_of_ble_eq_true rfl)
noncomputable def r_Mo_usesS_80 (h : ja_H) (z0 : Int32) : Option (Int32 × ja_H) := (jb z0 (some (z0, h)))
theorem t_Mo_usesS_80 {h : ja_H} {z0 : Int32} : ja_D ja_gI M_Mo_usesS 80 [none, none, none] [.int z0] h (r_Mo_usesS_80 h z0) := by
  unfold r_Mo_usesS_80
  exact jd_zreturn i_Mo_usesS_80 rfl
noncomputable def r_Mo_usesS_75 (h : ja_H) : Option (Int32 × ja_H) := (r_Mo_usesS_80 h (1 : Int32))
theorem t_Mo_usesS_75 {h : ja_H} : ja_D ja_gI M_Mo_usesS 75 [none, none, none] [] h (r_Mo_usesS_75 h) := by
  unfold r_Mo_usesS_75
  refine jd_iconst 1 i_Mo_usesS_75 (by decide) ?_
  refine jd_goto 80 i_Mo_usesS_76 (by decide) ?_
  exact jd_less (t_Mo_usesS_80) trivial
noncomputable def r_Mo_usesS_60 (h : ja_H) (z0 : Int32) : Option (Int32 × ja_H) := (jb z0 (some (z0, h)))
theorem t_Mo_usesS_60 {h : ja_H} {z0 : Int32} : ja_D ja_gI M_Mo_usesS 60 [none, none, none] [.int z0] h (r_Mo_usesS_60 h z0) := by
  unfold r_Mo_usesS_60
  exact jd_zreturn i_Mo_usesS_60 rfl
noncomputable def r_Mo_usesS_59 (h : ja_H) : Option (Int32 × ja_H) := (r_Mo_usesS_60 h (0 : Int32))
theorem t_Mo_usesS_59 {h : ja_H} : ja_D ja_gI M_Mo_usesS 59 [none, none, none] [] h (r_Mo_usesS_59 h) := by
  unfold r_Mo_usesS_59
  refine jd_iconst 0 i_Mo_usesS_59 (by decide) ?_
  exact jd_less (t_Mo_usesS_60) trivial
noncomputable def r_Mo_usesS_33 (h : ja_H) (z0 : Int32) : Option (Int32 × ja_H) := (jb z0 (some (z0, h)))
theorem t_Mo_usesS_33 {h : ja_H} {z0 : Int32} : ja_D ja_gI M_Mo_usesS 33 [none, none, none] [.int z0] h (r_Mo_usesS_33 h z0) := by
  unfold r_Mo_usesS_33
  exact jd_zreturn i_Mo_usesS_33 rfl
noncomputable def r_Mo_usesS_32 (h : ja_H) : Option (Int32 × ja_H) := (r_Mo_usesS_33 h (0 : Int32))
theorem t_Mo_usesS_32 {h : ja_H} : ja_D ja_gI M_Mo_usesS 32 [none, none, none] [] h (r_Mo_usesS_32 h) := by
  unfold r_Mo_usesS_32
  refine jd_iconst 0 i_Mo_usesS_32 (by decide) ?_
  exact jd_less (t_Mo_usesS_33) trivial
noncomputable def r_Mo_usesS (h : ja_H) (a0 : Nat) (a1 : Int32) : Option (Int32 × ja_H) := (jk h a0 9 (jc_I (r_Mo_op h a0 a1) (fun v102 h101 => (jl (v102 : Int32) (fun (x103 : Int32) => (jc_I (r_Mo_sum h101 x103) (fun v105 h104 => (if v105 = (0 : Int32) then (jc_I (r_Mo_test h104 x103) (fun v107 h106 => (if v107 = (0 : Int32) then (jc_I (r_Mo_reads h106 x103) (fun v109 h108 => (if v109 = (0 : Int32) then (jc_I (r_Mo_stores h108 x103) (fun v111 h110 => (if v111 = (0 : Int32) then (r_Mo_usesS_80 h110 (0 : Int32)) else (r_Mo_usesS_75 h110)))) else (r_Mo_usesS_75 h108)))) else (jc_I (r_Mo_go h106 x103) (fun v113 h112 => (if v113 = (0 : Int32) then (if (x103 &&& (8 : Int32)) = (0 : Int32) then (r_Mo_usesS_59 h112) else (r_Mo_usesS_60 h112 (1 : Int32))) else (r_Mo_usesS_59 h112))))))) else (if (x103 >>> ((4 : Int32) &&& 31)) = (13 : Int32) then (r_Mo_usesS_32 h104) else (if (x103 &&& (8 : Int32)) = (0 : Int32) then (r_Mo_usesS_32 h104) else (r_Mo_usesS_33 h104 (1 : Int32))))))))))))
theorem e_Mo_usesS {h : ja_H} {a0 : Nat} {a1 : Int32} : ja_D ja_gI M_Mo_usesS 0 [some (.ref a0), some (.int a1), none] [] h (r_Mo_usesS h a0 a1) := by
  unfold r_Mo_usesS
  refine jd_aload_n i_Mo_usesS_0 rfl ?_
  refine jd_iload_n i_Mo_usesS_1 rfl ?_
  refine jd_callVI G_Mo_78 in_Mo_op se_Mo_op rfl (fun _ e => c_Mo_op e) rfl ⟨by decide, by decide⟩ rfl (Nat.le_of_ble_eq_true rfl) i_Mo_usesS_2 (fun v102 h101 => ?_)
  refine jd_istore_n (fun x103 => [some (.ref a0), some (.int a1), some (.int x103)]) i_Mo_usesS_5 (by decide) rfl (fun _ => rfl) (fun x103 => ?_)
  refine jd_iload_n i_Mo_usesS_6 rfl ?_
  refine jd_callSI G_Mo_95 sc_Mo_sum (fun _ e => c_Mo_sum e) rfl ⟨by decide, by decide⟩ rfl (Nat.le_of_ble_eq_true rfl) i_Mo_usesS_7 (fun v105 h104 => ?_)
  refine jd_if_eq 34 i_Mo_usesS_10 (by decide) ?_ ?_
  · refine jd_iload_n i_Mo_usesS_34 rfl ?_
    refine jd_callSI G_Mo_98 sc_Mo_test (fun _ e => c_Mo_test e) rfl ⟨by decide, by decide⟩ rfl (Nat.le_of_ble_eq_true rfl) i_Mo_usesS_35 (fun v107 h106 => ?_)
    refine jd_if_eq 61 i_Mo_usesS_38 (by decide) ?_ ?_
    · refine jd_iload_n i_Mo_usesS_61 rfl ?_
      refine jd_callSI G_Mo_82 sc_Mo_reads (fun _ e => c_Mo_reads e) rfl ⟨by decide, by decide⟩ rfl (Nat.le_of_ble_eq_true rfl) i_Mo_usesS_62 (fun v109 h108 => ?_)
      refine jd_if_ne 75 i_Mo_usesS_65 (by decide) ?_ ?_
      · exact jd_less (t_Mo_usesS_75) trivial
      · refine jd_iload_n i_Mo_usesS_68 rfl ?_
        refine jd_callSI G_Mo_86 sc_Mo_stores (fun _ e => c_Mo_stores e) rfl ⟨by decide, by decide⟩ rfl (Nat.le_of_ble_eq_true rfl) i_Mo_usesS_69 (fun v111 h110 => ?_)
        refine jd_if_eq 79 i_Mo_usesS_72 (by decide) ?_ ?_
        · refine jd_iconst 0 i_Mo_usesS_79 (by decide) ?_
          exact jd_less (t_Mo_usesS_80) trivial
        · exact jd_less (t_Mo_usesS_75) trivial
    · refine jd_iload_n i_Mo_usesS_41 rfl ?_
      refine jd_callSI G_Mo_101 sc_Mo_go (fun _ e => c_Mo_go e) rfl ⟨by decide, by decide⟩ rfl (Nat.le_of_ble_eq_true rfl) i_Mo_usesS_42 (fun v113 h112 => ?_)
      refine jd_if_ne 59 i_Mo_usesS_45 (by decide) ?_ ?_
      · exact jd_less (t_Mo_usesS_59) trivial
      · refine jd_iload_n i_Mo_usesS_48 rfl ?_
        refine jd_bipush 8 i_Mo_usesS_49 (by decide) ?_
        refine jd_iand i_Mo_usesS_51 ?_
        refine jd_if_eq 59 i_Mo_usesS_52 (by decide) ?_ ?_
        · exact jd_less (t_Mo_usesS_59) trivial
        · refine jd_iconst 1 i_Mo_usesS_55 (by decide) ?_
          refine jd_goto 60 i_Mo_usesS_56 (by decide) ?_
          exact jd_less (t_Mo_usesS_60) trivial
  · refine jd_iload_n i_Mo_usesS_13 rfl ?_
    refine jd_iconst 4 i_Mo_usesS_14 (by decide) ?_
    refine jd_ishr i_Mo_usesS_15 ?_
    refine jd_bipush 13 i_Mo_usesS_16 (by decide) ?_
    refine jd_icmp_eq 32 i_Mo_usesS_18 (by decide) ?_ ?_
    · exact jd_less (t_Mo_usesS_32) trivial
    · refine jd_iload_n i_Mo_usesS_21 rfl ?_
      refine jd_bipush 8 i_Mo_usesS_22 (by decide) ?_
      refine jd_iand i_Mo_usesS_24 ?_
      refine jd_if_eq 32 i_Mo_usesS_25 (by decide) ?_ ?_
      · exact jd_less (t_Mo_usesS_32) trivial
      · refine jd_iconst 1 i_Mo_usesS_28 (by decide) ?_
        refine jd_goto 33 i_Mo_usesS_29 (by decide) ?_
        exact jd_less (t_Mo_usesS_33) trivial
theorem c_Mo_usesS {h : ja_H} {a0 : Nat} {a1 : Int32} {o : Int32 × ja_H} (e : r_Mo_usesS h a0 a1 = some o) : ja_M (1, 21) y_Mo_usesS b_Mo_usesS 3 (some .boolean) [.ref a0, .int a1] h [.int o.1] o.2 := jc_of (g := ja_gI) false _ e e_Mo_usesS rfl (by decide +kernel) (fun q => nomatch q) (Nat.le_of_ble_eq_true rfl) (fun _ q => nomatch q) (Nat.le_of_ble_eq_true rfl)
noncomputable def r_Mo_usesD_68 (h : ja_H) (z0 : Int32) : Option (Int32 × ja_H) := (jb z0 (some (z0, h)))
theorem t_Mo_usesD_68 {h : ja_H} {z0 : Int32} : ja_D ja_gI M_Mo_usesD 68 [none, none, none] [.int z0] h (r_Mo_usesD_68 h z0) := by
  unfold r_Mo_usesD_68
  exact jd_zreturn i_Mo_usesD_68 rfl
noncomputable def r_Mo_usesD_63 (h : ja_H) : Option (Int32 × ja_H) := (r_Mo_usesD_68 h (1 : Int32))
theorem t_Mo_usesD_63 {h : ja_H} : ja_D ja_gI M_Mo_usesD 63 [none, none, none] [] h (r_Mo_usesD_63 h) := by
  unfold r_Mo_usesD_63
  refine jd_iconst 1 i_Mo_usesD_63 (by decide) ?_
  refine jd_goto 68 i_Mo_usesD_64 (by decide) ?_
  exact jd_less (t_Mo_usesD_68) trivial
noncomputable def r_Mo_usesD_26 (h : ja_H) (z0 : Int32) : Option (Int32 × ja_H) := (jb z0 (some (z0, h)))
theorem t_Mo_usesD_26 {h : ja_H} {z0 : Int32} : ja_D ja_gI M_Mo_usesD 26 [none, none, none] [.int z0] h (r_Mo_usesD_26 h z0) := by
  unfold r_Mo_usesD_26
  exact jd_zreturn i_Mo_usesD_26 rfl
noncomputable def r_Mo_usesD (h : ja_H) (a0 : Nat) (a1 : Int32) : Option (Int32 × ja_H) := (jk h a0 9 (jc_I (r_Mo_op h a0 a1) (fun v102 h101 => (jl (v102 : Int32) (fun (x103 : Int32) => (jc_I (r_Mo_sum h101 x103) (fun v105 h104 => (if v105 = (0 : Int32) then (jc_I (r_Mo_test h104 x103) (fun v107 h106 => (if v107 = (0 : Int32) then (jc_I (r_Mo_stores h106 x103) (fun v109 h108 => (if v109 = (0 : Int32) then (jc_I (r_Mo_storesNumber h108 x103) (fun v111 h110 => (if v111 = (0 : Int32) then (r_Mo_usesD_68 h110 (0 : Int32)) else (r_Mo_usesD_63 h110)))) else (r_Mo_usesD_63 h108)))) else (jc_I (r_Mo_go h106 x103) (fun v113 h112 => (if v113 = (0 : Int32) then (r_Mo_usesD_68 h112 (1 : Int32)) else (r_Mo_usesD_68 h112 (0 : Int32)))))))) else (if (x103 >>> ((4 : Int32) &&& 31)) = (11 : Int32) then (r_Mo_usesD_26 h104 (0 : Int32)) else (r_Mo_usesD_26 h104 (1 : Int32)))))))))))
theorem e_Mo_usesD {h : ja_H} {a0 : Nat} {a1 : Int32} : ja_D ja_gI M_Mo_usesD 0 [some (.ref a0), some (.int a1), none] [] h (r_Mo_usesD h a0 a1) := by
  unfold r_Mo_usesD
  refine jd_aload_n i_Mo_usesD_0 rfl ?_
  refine jd_iload_n i_Mo_usesD_1 rfl ?_
  refine jd_callVI G_Mo_78 in_Mo_op se_Mo_op rfl (fun _ e => c_Mo_op e) rfl ⟨by decide, by decide⟩ rfl (Nat.le_of_ble_eq_true rfl) i_Mo_usesD_2 (fun v102 h101 => ?_)
  refine jd_istore_n (fun x103 => [some (.ref a0), some (.int a1), some (.int x103)]) i_Mo_usesD_5 (by decide) rfl (fun _ => rfl) (fun x103 => ?_)
  refine jd_iload_n i_Mo_usesD_6 rfl ?_
  refine jd_callSI G_Mo_95 sc_Mo_sum (fun _ e => c_Mo_sum e) rfl ⟨by decide, by decide⟩ rfl (Nat.le_of_ble_eq_true rfl) i_Mo_usesD_7 (fun v105 h104 => ?_)
  refine jd_if_eq 27 i_Mo_usesD_10 (by decide) ?_ ?_
  · refine jd_iload_n i_Mo_usesD_27 rfl ?_
    refine jd_callSI G_Mo_98 sc_Mo_test (fun _ e => c_Mo_test e) rfl ⟨by decide, by decide⟩ rfl (Nat.le_of_ble_eq_true rfl) i_Mo_usesD_28 (fun v107 h106 => ?_)
    refine jd_if_eq 49 i_Mo_usesD_31 (by decide) ?_ ?_
    · refine jd_iload_n i_Mo_usesD_49 rfl ?_
      refine jd_callSI G_Mo_86 sc_Mo_stores (fun _ e => c_Mo_stores e) rfl ⟨by decide, by decide⟩ rfl (Nat.le_of_ble_eq_true rfl) i_Mo_usesD_50 (fun v109 h108 => ?_)
      refine jd_if_ne 63 i_Mo_usesD_53 (by decide) ?_ ?_
      · exact jd_less (t_Mo_usesD_63) trivial
      · refine jd_iload_n i_Mo_usesD_56 rfl ?_
        refine jd_callSI G_Mo_89 sc_Mo_storesNumber (fun _ e => c_Mo_storesNumber e) rfl ⟨by decide, by decide⟩ rfl (Nat.le_of_ble_eq_true rfl) i_Mo_usesD_57 (fun v111 h110 => ?_)
        refine jd_if_eq 67 i_Mo_usesD_60 (by decide) ?_ ?_
        · refine jd_iconst 0 i_Mo_usesD_67 (by decide) ?_
          exact jd_less (t_Mo_usesD_68) trivial
        · exact jd_less (t_Mo_usesD_63) trivial
    · refine jd_iload_n i_Mo_usesD_34 rfl ?_
      refine jd_callSI G_Mo_101 sc_Mo_go (fun _ e => c_Mo_go e) rfl ⟨by decide, by decide⟩ rfl (Nat.le_of_ble_eq_true rfl) i_Mo_usesD_35 (fun v113 h112 => ?_)
      refine jd_if_ne 45 i_Mo_usesD_38 (by decide) ?_ ?_
      · refine jd_iconst 0 i_Mo_usesD_45 (by decide) ?_
        refine jd_goto 68 i_Mo_usesD_46 (by decide) ?_
        exact jd_less (t_Mo_usesD_68) trivial
      · refine jd_iconst 1 i_Mo_usesD_41 (by decide) ?_
        refine jd_goto 68 i_Mo_usesD_42 (by decide) ?_
        exact jd_less (t_Mo_usesD_68) trivial
  · refine jd_iload_n i_Mo_usesD_13 rfl ?_
    refine jd_iconst 4 i_Mo_usesD_14 (by decide) ?_
    refine jd_ishr i_Mo_usesD_15 ?_
    refine jd_bipush 11 i_Mo_usesD_16 (by decide) ?_
    refine jd_icmp_eq 25 i_Mo_usesD_18 (by decide) ?_ ?_
    · refine jd_iconst 0 i_Mo_usesD_25 (by decide) ?_
      exact jd_less (t_Mo_usesD_26) trivial
    · refine jd_iconst 1 i_Mo_usesD_21 (by decide) ?_
      refine jd_goto 26 i_Mo_usesD_22 (by decide) ?_
      exact jd_less (t_Mo_usesD_26) trivial
theorem c_Mo_usesD {h : ja_H} {a0 : Nat} {a1 : Int32} {o : Int32 × ja_H} (e : r_Mo_usesD h a0 a1 = some o) : ja_M (1, 21) y_Mo_usesD b_Mo_usesD 3 (some .boolean) [.ref a0, .int a1] h [.int o.1] o.2 := jc_of (g := ja_gI) false _ e e_Mo_usesD rfl (by decide +kernel) (fun q => nomatch q) (Nat.le_of_ble_eq_true rfl) (fun _ q => nomatch q) (Nat.le_of_ble_eq_true rfl)
noncomputable def r_Mo_getsD_37 (h : ja_H) (z0 : Int32) : Option (Int32 × ja_H) := (jb z0 (some (z0, h)))
theorem t_Mo_getsD_37 {h : ja_H} {z0 : Int32} : ja_D ja_gI M_Mo_getsD 37 [none, none] [.int z0] h (r_Mo_getsD_37 h z0) := by
  unfold r_Mo_getsD_37
  exact jd_zreturn i_Mo_getsD_37 rfl
noncomputable def r_Mo_getsD_32 (h : ja_H) : Option (Int32 × ja_H) := (r_Mo_getsD_37 h (1 : Int32))
theorem t_Mo_getsD_32 {h : ja_H} : ja_D ja_gI M_Mo_getsD 32 [none, none] [] h (r_Mo_getsD_32 h) := by
  unfold r_Mo_getsD_32
  refine jd_iconst 1 i_Mo_getsD_32 (by decide) ?_
  refine jd_goto 37 i_Mo_getsD_33 (by decide) ?_
  exact jd_less (t_Mo_getsD_37) trivial
noncomputable def r_Mo_getsD (h : ja_H) (a0 : Nat) (a1 : Int32) : Option (Int32 × ja_H) := (jk h a0 9 (jc_I (r_Mo_op h a0 a1) (fun v102 h101 => (jc_I (r_Mo_sum h101 v102) (fun v104 h103 => (if v104 = (0 : Int32) then (jk h103 a0 9 (jc_I (r_Mo_op h103 a0 a1) (fun v106 h105 => (jc_I (r_Mo_reads h105 v106) (fun v108 h107 => (if v108 = (0 : Int32) then (jk h107 a0 9 (jc_I (r_Mo_op h107 a0 a1) (fun v110 h109 => (if v110 = (24 : Int32) then (r_Mo_getsD_32 h109) else (r_Mo_getsD_37 h109 (0 : Int32)))))) else (r_Mo_getsD_32 h107))))))) else (r_Mo_getsD_32 h103)))))))
theorem e_Mo_getsD {h : ja_H} {a0 : Nat} {a1 : Int32} : ja_D ja_gI M_Mo_getsD 0 [some (.ref a0), some (.int a1)] [] h (r_Mo_getsD h a0 a1) := by
  unfold r_Mo_getsD
  refine jd_aload_n i_Mo_getsD_0 rfl ?_
  refine jd_iload_n i_Mo_getsD_1 rfl ?_
  refine jd_callVI G_Mo_78 in_Mo_op se_Mo_op rfl (fun _ e => c_Mo_op e) rfl ⟨by decide, by decide⟩ rfl (Nat.le_of_ble_eq_true rfl) i_Mo_getsD_2 (fun v102 h101 => ?_)
  refine jd_callSI G_Mo_95 sc_Mo_sum (fun _ e => c_Mo_sum e) rfl ⟨by decide, by decide⟩ rfl (Nat.le_of_ble_eq_true rfl) i_Mo_getsD_5 (fun v104 h103 => ?_)
  refine jd_if_ne 32 i_Mo_getsD_8 (by decide) ?_ ?_
  · exact jd_less (t_Mo_getsD_32) trivial
  · refine jd_aload_n i_Mo_getsD_11 rfl ?_
    refine jd_iload_n i_Mo_getsD_12 rfl ?_
    refine jd_callVI G_Mo_78 in_Mo_op se_Mo_op rfl (fun _ e => c_Mo_op e) rfl ⟨by decide, by decide⟩ rfl (Nat.le_of_ble_eq_true rfl) i_Mo_getsD_13 (fun v106 h105 => ?_)
    refine jd_callSI G_Mo_82 sc_Mo_reads (fun _ e => c_Mo_reads e) rfl ⟨by decide, by decide⟩ rfl (Nat.le_of_ble_eq_true rfl) i_Mo_getsD_16 (fun v108 h107 => ?_)
    refine jd_if_ne 32 i_Mo_getsD_19 (by decide) ?_ ?_
    · exact jd_less (t_Mo_getsD_32) trivial
    · refine jd_aload_n i_Mo_getsD_22 rfl ?_
      refine jd_iload_n i_Mo_getsD_23 rfl ?_
      refine jd_callVI G_Mo_78 in_Mo_op se_Mo_op rfl (fun _ e => c_Mo_op e) rfl ⟨by decide, by decide⟩ rfl (Nat.le_of_ble_eq_true rfl) i_Mo_getsD_24 (fun v110 h109 => ?_)
      refine jd_bipush 24 i_Mo_getsD_27 (by decide) ?_
      refine jd_icmp_ne 36 i_Mo_getsD_29 (by decide) ?_ ?_
      · refine jd_iconst 0 i_Mo_getsD_36 (by decide) ?_
        exact jd_less (t_Mo_getsD_37) trivial
      · exact jd_less (t_Mo_getsD_32) trivial
theorem c_Mo_getsD {h : ja_H} {a0 : Nat} {a1 : Int32} {o : Int32 × ja_H} (e : r_Mo_getsD h a0 a1 = some o) : ja_M (1, 21) y_Mo_getsD b_Mo_getsD 2 (some .boolean) [.ref a0, .int a1] h [.int o.1] o.2 := jc_of (g := ja_gI) false _ e e_Mo_getsD rfl (by decide +kernel) (fun q => nomatch q) (Nat.le_of_ble_eq_true rfl) (fun _ q => nomatch q) (Nat.le_of_ble_eq_true rfl)
noncomputable def r_Mo_form_333 (h : ja_H) (z0 : Int32) : Option (Int32 × ja_H) := (some (z0, h))
theorem t_Mo_form_333 {h : ja_H} {z0 : Int32} : ja_D ja_gI M_Mo_form 333 [none, none, none, none, none] [.int z0] h (r_Mo_form_333 h z0) := by
  unfold r_Mo_form_333
  exact jd_ireturn i_Mo_form_333 rfl
noncomputable def r_Mo_form_332 (h : ja_H) : Option (Int32 × ja_H) := (r_Mo_form_333 h (0 : Int32))
theorem t_Mo_form_332 {h : ja_H} : ja_D ja_gI M_Mo_form 332 [none, none, none, none, none] [] h (r_Mo_form_332 h) := by
  unfold r_Mo_form_332
  refine jd_iconst 0 i_Mo_form_332 (by decide) ?_
  exact jd_less (t_Mo_form_333) trivial
noncomputable def r_Mo_form_320 (h : ja_H) (y0 : Nat) (z0 : Int32) (z1 : Int32) : Option (Int32 × ja_H) := (jf_I h y0 9 2 (fun v1 => (if (z1 + z0) < v1 then (r_Mo_form_332 h) else (r_Mo_form_333 h (4 : Int32)))))
theorem t_Mo_form_320 {h : ja_H} {y0 : Nat} {z0 : Int32} {z1 : Int32} : ja_D ja_gI M_Mo_form 320 [some (.ref y0), none, none, none, none] [.int z0, .int z1] h (r_Mo_form_320 h y0 z0 z1) := by
  unfold r_Mo_form_320
  refine jd_iadd i_Mo_form_320 ?_
  refine jd_aload_n i_Mo_form_321 rfl ?_
  refine jd_getI F_Mo_64 i_Mo_form_322 (fun v1 => ?_)
  refine jd_icmp_lt 332 i_Mo_form_325 (by decide) ?_ ?_
  · exact jd_less (t_Mo_form_332) trivial
  · refine jd_iconst 4 i_Mo_form_328 (by decide) ?_
    refine jd_goto 333 i_Mo_form_329 (by decide) ?_
    exact jd_less (t_Mo_form_333) trivial
noncomputable def r_Mo_form_301 (h : ja_H) (y0 : Nat) (y1 : Int32) (y2 : Int32) : Option (Int32 × ja_H) := (if y2 = (149 : Int32) then (r_Mo_form_332 h) else (if y2 = (24 : Int32) then (r_Mo_form_320 h y0 (2 : Int32) y1) else (r_Mo_form_320 h y0 (1 : Int32) y1)))
theorem t_Mo_form_301 {h : ja_H} {y0 : Nat} {y1 : Int32} {y2 : Int32} : ja_D ja_gI M_Mo_form 301 [some (.ref y0), some (.int y1), some (.int y2), none, none] [] h (r_Mo_form_301 h y0 y1 y2) := by
  unfold r_Mo_form_301
  refine jd_iload_n i_Mo_form_301 rfl ?_
  refine jd_sipush 149 i_Mo_form_302 (by decide) ?_
  refine jd_icmp_eq 332 i_Mo_form_305 (by decide) ?_ ?_
  · exact jd_less (t_Mo_form_332) trivial
  · refine jd_iload_n i_Mo_form_308 rfl ?_
    refine jd_iload_n i_Mo_form_309 rfl ?_
    refine jd_bipush 24 i_Mo_form_310 (by decide) ?_
    refine jd_icmp_ne 319 i_Mo_form_312 (by decide) ?_ ?_
    · refine jd_iconst 1 i_Mo_form_319 (by decide) ?_
      exact jd_less (t_Mo_form_320) ⟨rfl, trivial⟩
    · refine jd_iconst 2 i_Mo_form_315 (by decide) ?_
      refine jd_goto 320 i_Mo_form_316 (by decide) ?_
      exact jd_less (t_Mo_form_320) ⟨rfl, trivial⟩
noncomputable def r_Mo_form_283 (h : ja_H) (y0 : Nat) (y1 : Int32) (y2 : Int32) : Option (Int32 × ja_H) := (if y2 = (24 : Int32) then (jf_I h y0 9 2 (fun v1 => (if (y1 + (1 : Int32)) < v1 then (r_Mo_form_301 h y0 y1 y2) else (some ((4 : Int32), h))))) else (r_Mo_form_301 h y0 y1 y2))
theorem t_Mo_form_283 {h : ja_H} {y0 : Nat} {y1 : Int32} {y2 : Int32} : ja_D ja_gI M_Mo_form 283 [some (.ref y0), some (.int y1), some (.int y2), none, none] [] h (r_Mo_form_283 h y0 y1 y2) := by
  unfold r_Mo_form_283
  refine jd_iload_n i_Mo_form_283 rfl ?_
  refine jd_bipush 24 i_Mo_form_284 (by decide) ?_
  refine jd_icmp_ne 301 i_Mo_form_286 (by decide) ?_ ?_
  · exact jd_less (t_Mo_form_301) ⟨rfl, rfl, rfl, trivial⟩
  · refine jd_iload_n i_Mo_form_289 rfl ?_
    refine jd_iconst 1 i_Mo_form_290 (by decide) ?_
    refine jd_iadd i_Mo_form_291 ?_
    refine jd_aload_n i_Mo_form_292 rfl ?_
    refine jd_getI F_Mo_64 i_Mo_form_293 (fun v1 => ?_)
    refine jd_icmp_lt 301 i_Mo_form_296 (by decide) ?_ ?_
    · exact jd_less (t_Mo_form_301) ⟨rfl, rfl, rfl, trivial⟩
    · refine jd_iconst 4 i_Mo_form_299 (by decide) ?_
      exact jd_ireturn i_Mo_form_300 rfl
noncomputable def r_Mo_form_281 (h : ja_H) : Option (Int32 × ja_H) := (some ((4 : Int32), h))
theorem t_Mo_form_281 {h : ja_H} : ja_D ja_gI M_Mo_form 281 [none, none, none, none, none] [] h (r_Mo_form_281 h) := by
  unfold r_Mo_form_281
  refine jd_iconst 4 i_Mo_form_281 (by decide) ?_
  exact jd_ireturn i_Mo_form_282 rfl
noncomputable def r_Mo_form_234 (h : ja_H) (y0 : Nat) (y1 : Int32) (y2 : Int32) : Option (Int32 × ja_H) := (jc_I (r_Mo_test h y2) (fun v2 h1 => (if v2 = (0 : Int32) then (r_Mo_form_283 h1 y0 y1 y2) else (jk h1 y0 9 (jc_I (r_Mo_off h1 y0 y1) (fun v4 h3 => (if (0 : Int32) ≤ v4 then (jk h3 y0 9 (jc_I (r_Mo_off h3 y0 y1) (fun v6 h5 => (jl (((y1 + (1 : Int32)) + v6) : Int32) (fun (x7 : Int32) => (jf_I h5 y0 9 2 (fun v8 => (if v8 ≤ x7 then (r_Mo_form_281 h5) else (jf_R h5 y0 9 3 (fun a9 => (je_I h5 a9 2 x7 (fun v10 => (if v10 = (0 : Int32) then (r_Mo_form_283 h5 y0 y1 y2) else (r_Mo_form_281 h5)))))))))))))) else (some ((5 : Int32), h3)))))))))
theorem t_Mo_form_234 {h : ja_H} {y0 : Nat} {y1 : Int32} {y2 : Int32} : ja_D ja_gI M_Mo_form 234 [some (.ref y0), some (.int y1), some (.int y2), none, none] [] h (r_Mo_form_234 h y0 y1 y2) := by
  unfold r_Mo_form_234
  refine jd_iload_n i_Mo_form_234 rfl ?_
  refine jd_callSI G_Mo_98 sc_Mo_test (fun _ e => c_Mo_test e) rfl ⟨by decide, by decide⟩ rfl (Nat.le_of_ble_eq_true rfl) i_Mo_form_235 (fun v2 h1 => ?_)
  refine jd_if_eq 283 i_Mo_form_238 (by decide) ?_ ?_
  · exact jd_less (t_Mo_form_283) ⟨rfl, rfl, rfl, trivial⟩
  · refine jd_aload_n i_Mo_form_241 rfl ?_
    refine jd_iload_n i_Mo_form_242 rfl ?_
    refine jd_callVI G_Mo_119 in_Mo_off se_Mo_off rfl (fun _ e => c_Mo_off e) rfl ⟨by decide, by decide⟩ rfl (Nat.le_of_ble_eq_true rfl) i_Mo_form_243 (fun v4 h3 => ?_)
    refine jd_if_ge 251 i_Mo_form_246 (by decide) ?_ ?_
    · refine jd_iload_n i_Mo_form_251 rfl ?_
      refine jd_iconst 1 i_Mo_form_252 (by decide) ?_
      refine jd_iadd i_Mo_form_253 ?_
      refine jd_aload_n i_Mo_form_254 rfl ?_
      refine jd_iload_n i_Mo_form_255 rfl ?_
      refine jd_callVI G_Mo_119 in_Mo_off se_Mo_off rfl (fun _ e => c_Mo_off e) rfl ⟨by decide, by decide⟩ rfl (Nat.le_of_ble_eq_true rfl) i_Mo_form_256 (fun v6 h5 => ?_)
      refine jd_iadd i_Mo_form_259 ?_
      refine jd_istore (fun x7 => [some (.ref y0), some (.int y1), some (.int y2), none, some (.int x7)]) i_Mo_form_260 (by decide) rfl (fun _ => rfl) (fun x7 => ?_)
      refine jd_iload i_Mo_form_262 rfl ?_
      refine jd_aload_n i_Mo_form_264 rfl ?_
      refine jd_getI F_Mo_64 i_Mo_form_265 (fun v8 => ?_)
      refine jd_icmp_ge 281 i_Mo_form_268 (by decide) ?_ ?_
      · exact jd_less (t_Mo_form_281) trivial
      · refine jd_aload_n i_Mo_form_271 rfl ?_
        refine jd_getR F_Mo_13 i_Mo_form_272 (fun a9 => ?_)
        refine jd_iload i_Mo_form_275 rfl ?_
        refine jd_zald i_Mo_form_277 (fun v10 => ?_)
        refine jd_if_eq 283 i_Mo_form_278 (by decide) ?_ ?_
        · exact jd_less (t_Mo_form_283) ⟨rfl, rfl, rfl, trivial⟩
        · exact jd_less (t_Mo_form_281) trivial
    · refine jd_iconst 5 i_Mo_form_249 (by decide) ?_
      exact jd_ireturn i_Mo_form_250 rfl
noncomputable def r_Mo_form_199 (h : ja_H) (y0 : Nat) (y1 : Int32) (y2 : Int32) : Option (Int32 × ja_H) := (if y2 = (24 : Int32) then (jf_I h y0 9 2 (fun v1 => (if v1 ≤ (y1 + (1 : Int32)) then (r_Mo_form_234 h y0 y1 y2) else (jf_R h y0 9 1 (fun a2 => (je_L h a2 (y1 + (1 : Int32)) (fun v3 => (if (v3 &&& (4294967295 : Int64)) = (0 : Int64) then (r_Mo_form_234 h y0 y1 y2) else (some ((3 : Int32), h)))))))))) else (r_Mo_form_234 h y0 y1 y2))
theorem t_Mo_form_199 {h : ja_H} {y0 : Nat} {y1 : Int32} {y2 : Int32} : ja_D ja_gI M_Mo_form 199 [some (.ref y0), some (.int y1), some (.int y2), none, none] [] h (r_Mo_form_199 h y0 y1 y2) := by
  unfold r_Mo_form_199
  refine jd_iload_n i_Mo_form_199 rfl ?_
  refine jd_bipush 24 i_Mo_form_200 (by decide) ?_
  refine jd_icmp_ne 234 i_Mo_form_202 (by decide) ?_ ?_
  · exact jd_less (t_Mo_form_234) ⟨rfl, rfl, rfl, trivial⟩
  · refine jd_iload_n i_Mo_form_205 rfl ?_
    refine jd_iconst 1 i_Mo_form_206 (by decide) ?_
    refine jd_iadd i_Mo_form_207 ?_
    refine jd_aload_n i_Mo_form_208 rfl ?_
    refine jd_getI F_Mo_64 i_Mo_form_209 (fun v1 => ?_)
    refine jd_icmp_ge 234 i_Mo_form_212 (by decide) ?_ ?_
    · exact jd_less (t_Mo_form_234) ⟨rfl, rfl, rfl, trivial⟩
    · refine jd_aload_n i_Mo_form_215 rfl ?_
      refine jd_getR F_Mo_9 i_Mo_form_216 (fun a2 => ?_)
      refine jd_iload_n i_Mo_form_219 rfl ?_
      refine jd_iconst 1 i_Mo_form_220 (by decide) ?_
      refine jd_iadd i_Mo_form_221 ?_
      refine jd_lald i_Mo_form_222 (fun v3 => ?_)
      refine jd_ldc2 i_Mo_form_223 K_Mo_122 ?_
      refine jd_land i_Mo_form_226 ?_
      refine jd_lconst 0 i_Mo_form_227 (by decide) ?_
      refine jd_lcmp_eq 234 i_Mo_form_228 i_Mo_form_229 (by decide) ?_ ?_
      · exact jd_less (t_Mo_form_234) ⟨rfl, rfl, rfl, trivial⟩
      · refine jd_iconst 3 i_Mo_form_232 (by decide) ?_
        exact jd_ireturn i_Mo_form_233 rfl
noncomputable def r_Mo_form_197 (h : ja_H) : Option (Int32 × ja_H) := (some ((3 : Int32), h))
theorem t_Mo_form_197 {h : ja_H} : ja_D ja_gI M_Mo_form 197 [none, none, none, none, none] [] h (r_Mo_form_197 h) := by
  unfold r_Mo_form_197
  refine jd_iconst 3 i_Mo_form_197 (by decide) ?_
  exact jd_ireturn i_Mo_form_198 rfl
noncomputable def r_Mo_form_189 (h : ja_H) (y0 : Nat) (y1 : Int32) (y2 : Int32) : Option (Int32 × ja_H) := (jk h y0 9 (jc_I (r_Mo_off h y0 y1) (fun v2 h1 => (if v2 = (0 : Int32) then (r_Mo_form_199 h1 y0 y1 y2) else (r_Mo_form_197 h1)))))
theorem t_Mo_form_189 {h : ja_H} {y0 : Nat} {y1 : Int32} {y2 : Int32} : ja_D ja_gI M_Mo_form 189 [some (.ref y0), some (.int y1), some (.int y2), none, none] [] h (r_Mo_form_189 h y0 y1 y2) := by
  unfold r_Mo_form_189
  refine jd_aload_n i_Mo_form_189 rfl ?_
  refine jd_iload_n i_Mo_form_190 rfl ?_
  refine jd_callVI G_Mo_119 in_Mo_off se_Mo_off rfl (fun _ e => c_Mo_off e) rfl ⟨by decide, by decide⟩ rfl (Nat.le_of_ble_eq_true rfl) i_Mo_form_191 (fun v2 h1 => ?_)
  refine jd_if_eq 199 i_Mo_form_194 (by decide) ?_ ?_
  · exact jd_less (t_Mo_form_199) ⟨rfl, rfl, rfl, trivial⟩
  · exact jd_less (t_Mo_form_197) trivial
noncomputable def r_Mo_form_169 (h : ja_H) (y0 : Nat) (y1 : Int32) (y2 : Int32) : Option (Int32 × ja_H) := (jc_I (r_Mo_sum h y2) (fun v2 h1 => (if v2 = (0 : Int32) then (if y2 = (24 : Int32) then (r_Mo_form_189 h1 y0 y1 y2) else (if y2 = (149 : Int32) then (r_Mo_form_189 h1 y0 y1 y2) else (r_Mo_form_199 h1 y0 y1 y2))) else (r_Mo_form_189 h1 y0 y1 y2))))
theorem t_Mo_form_169 {h : ja_H} {y0 : Nat} {y1 : Int32} {y2 : Int32} : ja_D ja_gI M_Mo_form 169 [some (.ref y0), some (.int y1), some (.int y2), none, none] [] h (r_Mo_form_169 h y0 y1 y2) := by
  unfold r_Mo_form_169
  refine jd_iload_n i_Mo_form_169 rfl ?_
  refine jd_callSI G_Mo_95 sc_Mo_sum (fun _ e => c_Mo_sum e) rfl ⟨by decide, by decide⟩ rfl (Nat.le_of_ble_eq_true rfl) i_Mo_form_170 (fun v2 h1 => ?_)
  refine jd_if_ne 189 i_Mo_form_173 (by decide) ?_ ?_
  · exact jd_less (t_Mo_form_189) ⟨rfl, rfl, rfl, trivial⟩
  · refine jd_iload_n i_Mo_form_176 rfl ?_
    refine jd_bipush 24 i_Mo_form_177 (by decide) ?_
    refine jd_icmp_eq 189 i_Mo_form_179 (by decide) ?_ ?_
    · exact jd_less (t_Mo_form_189) ⟨rfl, rfl, rfl, trivial⟩
    · refine jd_iload_n i_Mo_form_182 rfl ?_
      refine jd_sipush 149 i_Mo_form_183 (by decide) ?_
      refine jd_icmp_ne 199 i_Mo_form_186 (by decide) ?_ ?_
      · exact jd_less (t_Mo_form_199) ⟨rfl, rfl, rfl, trivial⟩
      · exact jd_less (t_Mo_form_189) ⟨rfl, rfl, rfl, trivial⟩
noncomputable def r_Mo_form_161 (h : ja_H) (y0 : Nat) (y1 : Int32) (y2 : Int32) : Option (Int32 × ja_H) := (jk h y0 9 (jc_I (r_Mo_d h y0 y1) (fun v2 h1 => (if v2 = (0 : Int32) then (r_Mo_form_169 h1 y0 y1 y2) else (r_Mo_form_197 h1)))))
theorem t_Mo_form_161 {h : ja_H} {y0 : Nat} {y1 : Int32} {y2 : Int32} : ja_D ja_gI M_Mo_form 161 [some (.ref y0), some (.int y1), some (.int y2), none, none] [] h (r_Mo_form_161 h y0 y1 y2) := by
  unfold r_Mo_form_161
  refine jd_aload_n i_Mo_form_161 rfl ?_
  refine jd_iload_n i_Mo_form_162 rfl ?_
  refine jd_callVI G_Mo_107 in_Mo_d se_Mo_d rfl (fun _ e => c_Mo_d e) rfl ⟨by decide, by decide⟩ rfl (Nat.le_of_ble_eq_true rfl) i_Mo_form_163 (fun v2 h1 => ?_)
  refine jd_if_ne 197 i_Mo_form_166 (by decide) ?_ ?_
  · exact jd_less (t_Mo_form_197) trivial
  · exact jd_less (t_Mo_form_169) ⟨rfl, rfl, rfl, trivial⟩
noncomputable def r_Mo_form_147 (h : ja_H) (y0 : Nat) (y1 : Int32) (y2 : Int32) : Option (Int32 × ja_H) := (jc_I (r_Mo_go h y2) (fun v2 h1 => (if v2 = (0 : Int32) then (if y2 = (149 : Int32) then (r_Mo_form_161 h1 y0 y1 y2) else (r_Mo_form_169 h1 y0 y1 y2)) else (r_Mo_form_161 h1 y0 y1 y2))))
theorem t_Mo_form_147 {h : ja_H} {y0 : Nat} {y1 : Int32} {y2 : Int32} : ja_D ja_gI M_Mo_form 147 [some (.ref y0), some (.int y1), some (.int y2), none, none] [] h (r_Mo_form_147 h y0 y1 y2) := by
  unfold r_Mo_form_147
  refine jd_iload_n i_Mo_form_147 rfl ?_
  refine jd_callSI G_Mo_101 sc_Mo_go (fun _ e => c_Mo_go e) rfl ⟨by decide, by decide⟩ rfl (Nat.le_of_ble_eq_true rfl) i_Mo_form_148 (fun v2 h1 => ?_)
  refine jd_if_ne 161 i_Mo_form_151 (by decide) ?_ ?_
  · exact jd_less (t_Mo_form_161) ⟨rfl, rfl, rfl, trivial⟩
  · refine jd_iload_n i_Mo_form_154 rfl ?_
    refine jd_sipush 149 i_Mo_form_155 (by decide) ?_
    refine jd_icmp_ne 169 i_Mo_form_158 (by decide) ?_ ?_
    · exact jd_less (t_Mo_form_169) ⟨rfl, rfl, rfl, trivial⟩
    · exact jd_less (t_Mo_form_161) ⟨rfl, rfl, rfl, trivial⟩
noncomputable def r_Mo_form_131 (h : ja_H) (y0 : Nat) (y1 : Int32) (y2 : Int32) : Option (Int32 × ja_H) := (jk h y0 9 (jc_I (r_Mo_usesS h y0 y1) (fun v2 h1 => (if v2 = (0 : Int32) then (jk h1 y0 9 (jc_I (r_Mo_s h1 y0 y1) (fun v4 h3 => (if v4 = (0 : Int32) then (r_Mo_form_147 h3 y0 y1 y2) else (r_Mo_form_197 h3))))) else (r_Mo_form_147 h1 y0 y1 y2)))))
theorem t_Mo_form_131 {h : ja_H} {y0 : Nat} {y1 : Int32} {y2 : Int32} : ja_D ja_gI M_Mo_form 131 [some (.ref y0), some (.int y1), some (.int y2), none, none] [] h (r_Mo_form_131 h y0 y1 y2) := by
  unfold r_Mo_form_131
  refine jd_aload_n i_Mo_form_131 rfl ?_
  refine jd_iload_n i_Mo_form_132 rfl ?_
  refine jd_callVI G_Mo_116 in_Mo_usesS se_Mo_usesS rfl (fun _ e => c_Mo_usesS e) rfl ⟨by decide, by decide⟩ rfl (Nat.le_of_ble_eq_true rfl) i_Mo_form_133 (fun v2 h1 => ?_)
  refine jd_if_ne 147 i_Mo_form_136 (by decide) ?_ ?_
  · exact jd_less (t_Mo_form_147) ⟨rfl, rfl, rfl, trivial⟩
  · refine jd_aload_n i_Mo_form_139 rfl ?_
    refine jd_iload_n i_Mo_form_140 rfl ?_
    refine jd_callVI G_Mo_110 in_Mo_s se_Mo_s rfl (fun _ e => c_Mo_s e) rfl ⟨by decide, by decide⟩ rfl (Nat.le_of_ble_eq_true rfl) i_Mo_form_141 (fun v4 h3 => ?_)
    refine jd_if_ne 197 i_Mo_form_144 (by decide) ?_ ?_
    · exact jd_less (t_Mo_form_197) trivial
    · exact jd_less (t_Mo_form_147) ⟨rfl, rfl, rfl, trivial⟩
noncomputable def r_Mo_form_118 (h : ja_H) (y0 : Nat) (y1 : Int32) (y2 : Int32) (z0 : Int32) : Option (Int32 × ja_H) := (jl (z0 : Int32) (fun (x1 : Int32) => (if x1 = (0 : Int32) then (r_Mo_form_131 h y0 y1 y2) else (jk h y0 9 (jc_I (r_Mo_imm h y0 y1) (fun v3 h2 => (if v3 = (0 : Int32) then (r_Mo_form_131 h2 y0 y1 y2) else (r_Mo_form_197 h2))))))))
theorem t_Mo_form_118 {h : ja_H} {y0 : Nat} {y1 : Int32} {y2 : Int32} {z0 : Int32} : ja_D ja_gI M_Mo_form 118 [some (.ref y0), some (.int y1), some (.int y2), none, none] [.int z0] h (r_Mo_form_118 h y0 y1 y2 z0) := by
  unfold r_Mo_form_118
  refine jd_istore_n (fun x1 => [some (.ref y0), some (.int y1), some (.int y2), some (.int x1), none]) i_Mo_form_118 (by decide) rfl (fun _ => rfl) (fun x1 => ?_)
  refine jd_iload_n i_Mo_form_119 rfl ?_
  refine jd_if_eq 131 i_Mo_form_120 (by decide) ?_ ?_
  · exact jd_less (t_Mo_form_131) ⟨rfl, rfl, rfl, trivial⟩
  · refine jd_aload_n i_Mo_form_123 rfl ?_
    refine jd_iload_n i_Mo_form_124 rfl ?_
    refine jd_callVI G_Mo_92 in_Mo_imm se_Mo_imm rfl (fun _ e => c_Mo_imm e) rfl ⟨by decide, by decide⟩ rfl (Nat.le_of_ble_eq_true rfl) i_Mo_form_125 (fun v3 h2 => ?_)
    refine jd_if_ne 197 i_Mo_form_128 (by decide) ?_ ?_
    · exact jd_less (t_Mo_form_197) trivial
    · exact jd_less (t_Mo_form_131) ⟨rfl, rfl, rfl, trivial⟩
noncomputable def r_Mo_form_117 (h : ja_H) (y0 : Nat) (y1 : Int32) (y2 : Int32) : Option (Int32 × ja_H) := (r_Mo_form_118 h y0 y1 y2 (0 : Int32))
theorem t_Mo_form_117 {h : ja_H} {y0 : Nat} {y1 : Int32} {y2 : Int32} : ja_D ja_gI M_Mo_form 117 [some (.ref y0), some (.int y1), some (.int y2), none, none] [] h (r_Mo_form_117 h y0 y1 y2) := by
  unfold r_Mo_form_117
  refine jd_iconst 0 i_Mo_form_117 (by decide) ?_
  exact jd_less (t_Mo_form_118) ⟨rfl, rfl, rfl, trivial⟩
noncomputable def r_Mo_form_113 (h : ja_H) (y0 : Nat) (y1 : Int32) (y2 : Int32) : Option (Int32 × ja_H) := (r_Mo_form_118 h y0 y1 y2 (1 : Int32))
theorem t_Mo_form_113 {h : ja_H} {y0 : Nat} {y1 : Int32} {y2 : Int32} : ja_D ja_gI M_Mo_form 113 [some (.ref y0), some (.int y1), some (.int y2), none, none] [] h (r_Mo_form_113 h y0 y1 y2) := by
  unfold r_Mo_form_113
  refine jd_iconst 1 i_Mo_form_113 (by decide) ?_
  refine jd_goto 118 i_Mo_form_114 (by decide) ?_
  exact jd_less (t_Mo_form_118) ⟨rfl, rfl, rfl, trivial⟩
noncomputable def r_Mo_form_106 (h : ja_H) (y0 : Nat) (y1 : Int32) (y2 : Int32) : Option (Int32 × ja_H) := (if (y2 &&& (8 : Int32)) = (0 : Int32) then (r_Mo_form_117 h y0 y1 y2) else (r_Mo_form_113 h y0 y1 y2))
theorem t_Mo_form_106 {h : ja_H} {y0 : Nat} {y1 : Int32} {y2 : Int32} : ja_D ja_gI M_Mo_form 106 [some (.ref y0), some (.int y1), some (.int y2), none, none] [] h (r_Mo_form_106 h y0 y1 y2) := by
  unfold r_Mo_form_106
  refine jd_iload_n i_Mo_form_106 rfl ?_
  refine jd_bipush 8 i_Mo_form_107 (by decide) ?_
  refine jd_iand i_Mo_form_109 ?_
  refine jd_if_eq 117 i_Mo_form_110 (by decide) ?_ ?_
  · exact jd_less (t_Mo_form_117) ⟨rfl, rfl, rfl, trivial⟩
  · exact jd_less (t_Mo_form_113) ⟨rfl, rfl, rfl, trivial⟩
noncomputable def r_Mo_form_99 (h : ja_H) (y0 : Nat) (y1 : Int32) (y2 : Int32) : Option (Int32 × ja_H) := (jc_I (r_Mo_test h y2) (fun v2 h1 => (if v2 = (0 : Int32) then (r_Mo_form_117 h1 y0 y1 y2) else (r_Mo_form_106 h1 y0 y1 y2))))
theorem t_Mo_form_99 {h : ja_H} {y0 : Nat} {y1 : Int32} {y2 : Int32} : ja_D ja_gI M_Mo_form 99 [some (.ref y0), some (.int y1), some (.int y2), none, none] [] h (r_Mo_form_99 h y0 y1 y2) := by
  unfold r_Mo_form_99
  refine jd_iload_n i_Mo_form_99 rfl ?_
  refine jd_callSI G_Mo_98 sc_Mo_test (fun _ e => c_Mo_test e) rfl ⟨by decide, by decide⟩ rfl (Nat.le_of_ble_eq_true rfl) i_Mo_form_100 (fun v2 h1 => ?_)
  refine jd_if_eq 117 i_Mo_form_103 (by decide) ?_ ?_
  · exact jd_less (t_Mo_form_117) ⟨rfl, rfl, rfl, trivial⟩
  · exact jd_less (t_Mo_form_106) ⟨rfl, rfl, rfl, trivial⟩
noncomputable def r_Mo_form_56 (h : ja_H) (y0 : Nat) (y1 : Int32) (y2 : Int32) : Option (Int32 × ja_H) := (if y2 = (149 : Int32) then (r_Mo_form_113 h y0 y1 y2) else (jc_I (r_Mo_go h y2) (fun v2 h1 => (if v2 = (0 : Int32) then (jc_I (r_Mo_reads h1 y2) (fun v4 h3 => (if v4 = (0 : Int32) then (jc_I (r_Mo_stores h3 y2) (fun v6 h5 => (if v6 = (0 : Int32) then (jc_I (r_Mo_sum h5 y2) (fun v8 h7 => (if v8 = (0 : Int32) then (r_Mo_form_99 h7 y0 y1 y2) else (if (y2 >>> ((4 : Int32) &&& 31)) = (13 : Int32) then (r_Mo_form_99 h7 y0 y1 y2) else (r_Mo_form_106 h7 y0 y1 y2))))) else (r_Mo_form_113 h5 y0 y1 y2)))) else (r_Mo_form_113 h3 y0 y1 y2)))) else (r_Mo_form_113 h1 y0 y1 y2)))))
theorem t_Mo_form_56 {h : ja_H} {y0 : Nat} {y1 : Int32} {y2 : Int32} : ja_D ja_gI M_Mo_form 56 [some (.ref y0), some (.int y1), some (.int y2), none, none] [] h (r_Mo_form_56 h y0 y1 y2) := by
  unfold r_Mo_form_56
  refine jd_iload_n i_Mo_form_56 rfl ?_
  refine jd_sipush 149 i_Mo_form_57 (by decide) ?_
  refine jd_icmp_eq 113 i_Mo_form_60 (by decide) ?_ ?_
  · exact jd_less (t_Mo_form_113) ⟨rfl, rfl, rfl, trivial⟩
  · refine jd_iload_n i_Mo_form_63 rfl ?_
    refine jd_callSI G_Mo_101 sc_Mo_go (fun _ e => c_Mo_go e) rfl ⟨by decide, by decide⟩ rfl (Nat.le_of_ble_eq_true rfl) i_Mo_form_64 (fun v2 h1 => ?_)
    refine jd_if_ne 113 i_Mo_form_67 (by decide) ?_ ?_
    · exact jd_less (t_Mo_form_113) ⟨rfl, rfl, rfl, trivial⟩
    · refine jd_iload_n i_Mo_form_70 rfl ?_
      refine jd_callSI G_Mo_82 sc_Mo_reads (fun _ e => c_Mo_reads e) rfl ⟨by decide, by decide⟩ rfl (Nat.le_of_ble_eq_true rfl) i_Mo_form_71 (fun v4 h3 => ?_)
      refine jd_if_ne 113 i_Mo_form_74 (by decide) ?_ ?_
      · exact jd_less (t_Mo_form_113) ⟨rfl, rfl, rfl, trivial⟩
      · refine jd_iload_n i_Mo_form_77 rfl ?_
        refine jd_callSI G_Mo_86 sc_Mo_stores (fun _ e => c_Mo_stores e) rfl ⟨by decide, by decide⟩ rfl (Nat.le_of_ble_eq_true rfl) i_Mo_form_78 (fun v6 h5 => ?_)
        refine jd_if_ne 113 i_Mo_form_81 (by decide) ?_ ?_
        · exact jd_less (t_Mo_form_113) ⟨rfl, rfl, rfl, trivial⟩
        · refine jd_iload_n i_Mo_form_84 rfl ?_
          refine jd_callSI G_Mo_95 sc_Mo_sum (fun _ e => c_Mo_sum e) rfl ⟨by decide, by decide⟩ rfl (Nat.le_of_ble_eq_true rfl) i_Mo_form_85 (fun v8 h7 => ?_)
          refine jd_if_eq 99 i_Mo_form_88 (by decide) ?_ ?_
          · exact jd_less (t_Mo_form_99) ⟨rfl, rfl, rfl, trivial⟩
          · refine jd_iload_n i_Mo_form_91 rfl ?_
            refine jd_iconst 4 i_Mo_form_92 (by decide) ?_
            refine jd_ishr i_Mo_form_93 ?_
            refine jd_bipush 13 i_Mo_form_94 (by decide) ?_
            refine jd_icmp_ne 106 i_Mo_form_96 (by decide) ?_ ?_
            · exact jd_less (t_Mo_form_106) ⟨rfl, rfl, rfl, trivial⟩
            · exact jd_less (t_Mo_form_99) ⟨rfl, rfl, rfl, trivial⟩
noncomputable def r_Mo_form_54 (h : ja_H) : Option (Int32 × ja_H) := (some ((2 : Int32), h))
theorem t_Mo_form_54 {h : ja_H} : ja_D ja_gI M_Mo_form 54 [none, none, none, none, none] [] h (r_Mo_form_54 h) := by
  unfold r_Mo_form_54
  refine jd_iconst 2 i_Mo_form_54 (by decide) ?_
  exact jd_ireturn i_Mo_form_55 rfl
noncomputable def r_Mo_form (h : ja_H) (a0 : Nat) (a1 : Int32) : Option (Int32 × ja_H) := (jk h a0 9 (jc_I (r_Mo_isOne h a0 a1) (fun v102 h101 => (if v102 = (0 : Int32) then (some ((1 : Int32), h101)) else (jk h101 a0 9 (jc_I (r_Mo_op h101 a0 a1) (fun v104 h103 => (jl (v104 : Int32) (fun (x105 : Int32) => (jk h103 a0 9 (jc_I (r_Mo_d h103 a0 a1) (fun v107 h106 => (if (10 : Int32) < v107 then (r_Mo_form_54 h106) else (jk h106 a0 9 (jc_I (r_Mo_s h106 a0 a1) (fun v109 h108 => (if (10 : Int32) < v109 then (r_Mo_form_54 h108) else (jk h108 a0 9 (jc_I (r_Mo_d h108 a0 a1) (fun v111 h110 => (if v111 = (10 : Int32) then (jk h110 a0 9 (jc_I (r_Mo_getsD h110 a0 a1) (fun v113 h112 => (if v113 = (0 : Int32) then (r_Mo_form_56 h112 a0 a1 x105) else (r_Mo_form_54 h112))))) else (r_Mo_form_56 h110 a0 a1 x105))))))))))))))))))))))
theorem e_Mo_form {h : ja_H} {a0 : Nat} {a1 : Int32} : ja_D ja_gI M_Mo_form 0 [some (.ref a0), some (.int a1), none, none, none] [] h (r_Mo_form h a0 a1) := by
  unfold r_Mo_form
  refine jd_aload_n i_Mo_form_0 rfl ?_
  refine jd_iload_n i_Mo_form_1 rfl ?_
  refine jd_callVI G_Mo_104 in_Mo_isOne se_Mo_isOne rfl (fun _ e => c_Mo_isOne e) rfl ⟨by decide, by decide⟩ rfl (Nat.le_of_ble_eq_true rfl) i_Mo_form_2 (fun v102 h101 => ?_)
  refine jd_if_ne 10 i_Mo_form_5 (by decide) ?_ ?_
  · refine jd_aload_n i_Mo_form_10 rfl ?_
    refine jd_iload_n i_Mo_form_11 rfl ?_
    refine jd_callVI G_Mo_78 in_Mo_op se_Mo_op rfl (fun _ e => c_Mo_op e) rfl ⟨by decide, by decide⟩ rfl (Nat.le_of_ble_eq_true rfl) i_Mo_form_12 (fun v104 h103 => ?_)
    refine jd_istore_n (fun x105 => [some (.ref a0), some (.int a1), some (.int x105), none, none]) i_Mo_form_15 (by decide) rfl (fun _ => rfl) (fun x105 => ?_)
    refine jd_aload_n i_Mo_form_16 rfl ?_
    refine jd_iload_n i_Mo_form_17 rfl ?_
    refine jd_callVI G_Mo_107 in_Mo_d se_Mo_d rfl (fun _ e => c_Mo_d e) rfl ⟨by decide, by decide⟩ rfl (Nat.le_of_ble_eq_true rfl) i_Mo_form_18 (fun v107 h106 => ?_)
    refine jd_bipush 10 i_Mo_form_21 (by decide) ?_
    refine jd_icmp_gt 54 i_Mo_form_23 (by decide) ?_ ?_
    · exact jd_less (t_Mo_form_54) trivial
    · refine jd_aload_n i_Mo_form_26 rfl ?_
      refine jd_iload_n i_Mo_form_27 rfl ?_
      refine jd_callVI G_Mo_110 in_Mo_s se_Mo_s rfl (fun _ e => c_Mo_s e) rfl ⟨by decide, by decide⟩ rfl (Nat.le_of_ble_eq_true rfl) i_Mo_form_28 (fun v109 h108 => ?_)
      refine jd_bipush 10 i_Mo_form_31 (by decide) ?_
      refine jd_icmp_gt 54 i_Mo_form_33 (by decide) ?_ ?_
      · exact jd_less (t_Mo_form_54) trivial
      · refine jd_aload_n i_Mo_form_36 rfl ?_
        refine jd_iload_n i_Mo_form_37 rfl ?_
        refine jd_callVI G_Mo_107 in_Mo_d se_Mo_d rfl (fun _ e => c_Mo_d e) rfl ⟨by decide, by decide⟩ rfl (Nat.le_of_ble_eq_true rfl) i_Mo_form_38 (fun v111 h110 => ?_)
        refine jd_bipush 10 i_Mo_form_41 (by decide) ?_
        refine jd_icmp_ne 56 i_Mo_form_43 (by decide) ?_ ?_
        · exact jd_less (t_Mo_form_56) ⟨rfl, rfl, rfl, trivial⟩
        · refine jd_aload_n i_Mo_form_46 rfl ?_
          refine jd_iload_n i_Mo_form_47 rfl ?_
          refine jd_callVI G_Mo_113 in_Mo_getsD se_Mo_getsD rfl (fun _ e => c_Mo_getsD e) rfl ⟨by decide, by decide⟩ rfl (Nat.le_of_ble_eq_true rfl) i_Mo_form_48 (fun v113 h112 => ?_)
          refine jd_if_eq 56 i_Mo_form_51 (by decide) ?_ ?_
          · exact jd_less (t_Mo_form_56) ⟨rfl, rfl, rfl, trivial⟩
          · exact jd_less (t_Mo_form_54) trivial
  · refine jd_iconst 1 i_Mo_form_8 (by decide) ?_
    exact jd_ireturn i_Mo_form_9 rfl
theorem c_Mo_form {h : ja_H} {a0 : Nat} {a1 : Int32} {o : Int32 × ja_H} (e : r_Mo_form h a0 a1 = some o) : ja_M (2, 44) y_Mo_form b_Mo_form 5 (some .int) [.ref a0, .int a1] h [.int o.1] o.2 := jc_of (g := ja_gI) false _ e e_Mo_form rfl (by decide +kernel) (fun q => nomatch q) (Nat.le_of_ble_eq_true rfl) (fun _ q => nomatch q) (Nat.le_of_ble_eq_true rfl)
