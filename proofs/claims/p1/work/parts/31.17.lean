noncomputable def r_La_count (h : ja_H) (a0 : Nat) (a1 : Int32) (a2 : Nat) : Option (Int32 × ja_H) := (jk h a0 0 (jt_I (r_WJ_count h a0 a1) (fun v103 h101 => (js_L h101 a2 (0 : Int32) (Int32.toInt64 v103) (fun h104 => (some ((0 : Int32), h104))))) [(87, fun h102 => (some ((1 : Int32), h102)))]))
theorem e_La_count {h : ja_H} {a0 : Nat} {a1 : Int32} {a2 : Nat} : ja_D ja_gI M_La_count 0 [some (.ref a0), some (.int a1), some (.ref a2), none] [] h (r_La_count h a0 a1 a2) := by
  unfold r_La_count
  refine jd_aload_n i_La_count_0 rfl ?_
  refine jd_iconst 0 i_La_count_1 (by decide) ?_
  refine jd_aload_n i_La_count_2 rfl ?_
  refine jd_iload_n i_La_count_3 rfl ?_
  refine jd_tryVI (as := [.int a1]) G_La_42 in_WJ_count se_WJ_count rfl e_WJ_count rfl rfl (by decide +kernel) rfl (Nat.le_of_ble_eq_true rfl) ⟨by decide, by decide⟩ rfl (Nat.le_of_ble_eq_true rfl) i_La_count_4 (fun v103 h101 => ?_) ⟨⟨_, S_La_count_87, fun _ h102 => ?_⟩, trivial⟩
  · refine jd_i2l i_La_count_7 ?_
    refine jd_last i_La_count_8 (fun h104 => ?_)
    refine jd_goto 15 i_La_count_9 (by decide) ?_
    refine jd_iconst 0 i_La_count_15 (by decide) ?_
    exact jd_ireturn i_La_count_16 rfl
  · refine jd_astoreE_n [some (.ref a0), some (.int a1), some (.ref a2), none] i_La_count_12 (by decide) rfl rfl ?_
    refine jd_iconst 1 i_La_count_13 (by decide) ?_
    exact jd_ireturn i_La_count_14 rfl
theorem c_La_count {h : ja_H} {a0 : Nat} {a1 : Int32} {a2 : Nat} {o : Int32 × ja_H} (e : r_La_count h a0 a1 a2 = some o) : ja_Mw (7, 121) y_La_count b_La_count 4 (some .int) [(0, 9, 12, 22)] [.ref a0, .int a1, .ref a2] h [.int o.1] o.2 := jc_ofW [some (.ref a0), some (.int a1), some (.ref a2), none] e e_La_count rfl (by decide +kernel) (Nat.le_of_ble_eq_true rfl)
noncomputable def r_La_law_575 (L : Nat) (xs : Nat → Int32) (C23 : ja_H → Nat → Nat → Nat → Int32 → Option (Int32 × ja_H)) (h : ja_H) (y1 : Nat) (y2 : Nat) (y3 : Nat) (y4 : Int32) : Option (Int32 × ja_H) := (jl (y4 + 4 : Int32) (fun (x1 : Int32) => (C23 h y1 y2 y3 x1)))
theorem t_La_law_575 {b L : Nat} {xs : Nat → Int32} {C23 : ja_H → Nat → Nat → Nat → Int32 → Option (Int32 × ja_H)} (k23 : ∀ (h : ja_H) (y1 : Nat) (y2 : Nat) (y3 : Nat) (y4 : Int32), ja_D ja_gI (M_La_law b L xs) 23 [some (.retAddr b), some (.ref y1), some (.ref y2), some (.ref y3), some (.int y4), none, none, none] [] h (C23 h y1 y2 y3 y4)) {h : ja_H} {y1 : Nat} {y2 : Nat} {y3 : Nat} {y4 : Int32} : ja_D ja_gI (M_La_law b L xs) 575 [some (.retAddr b), some (.ref y1), some (.ref y2), some (.ref y3), some (.int y4), none, none, none] [] h (r_La_law_575 L xs C23 h y1 y2 y3 y4) := by
  unfold r_La_law_575
  refine jd_iinc (fun x1 => [some (.retAddr b), some (.ref y1), some (.ref y2), some (.ref y3), some (.int x1), none, none, none]) i_La_law_575 rfl rfl (Nat.le_of_ble_eq_true rfl) rfl (fun _ => rfl) (fun x1 => ?_)
  refine jd_goto 23 i_La_law_578 (by decide) ?_
  exact jd_less (k23 _ _ _ _ _) ⟨rfl, rfl, rfl, rfl, rfl, trivial⟩
noncomputable def r_La_law_572 (L : Nat) (xs : Nat → Int32) (C23 : ja_H → Nat → Nat → Nat → Int32 → Option (Int32 × ja_H)) (h : ja_H) (y1 : Nat) (y2 : Nat) (y3 : Nat) (y4 : Int32) : Option (Int32 × ja_H) := (r_La_law_575 L xs C23 h y1 y2 y3 y4)
theorem t_La_law_572 {b L : Nat} {xs : Nat → Int32} {C23 : ja_H → Nat → Nat → Nat → Int32 → Option (Int32 × ja_H)} (k23 : ∀ (h : ja_H) (y1 : Nat) (y2 : Nat) (y3 : Nat) (y4 : Int32), ja_D ja_gI (M_La_law b L xs) 23 [some (.retAddr b), some (.ref y1), some (.ref y2), some (.ref y3), some (.int y4), none, none, none] [] h (C23 h y1 y2 y3 y4)) {h : ja_H} {y1 : Nat} {y2 : Nat} {y3 : Nat} {y4 : Int32} : ja_D ja_gI (M_La_law b L xs) 572 [some (.retAddr b), some (.ref y1), some (.ref y2), some (.ref y3), some (.int y4), none, none, none] [] h (r_La_law_572 L xs C23 h y1 y2 y3 y4) := by
  unfold r_La_law_572
  refine jd_goto 575 i_La_law_572 (by decide) ?_
  exact jd_less (t_La_law_575 k23) ⟨rfl, rfl, rfl, rfl, rfl, trivial⟩
noncomputable def r_La_law_516 (L : Nat) (xs : Nat → Int32) (C23 : ja_H → Nat → Nat → Nat → Int32 → Option (Int32 × ja_H)) (h : ja_H) (y1 : Nat) (y2 : Nat) (y3 : Nat) (y4 : Int32) : Option (Int32 × ja_H) := (r_La_law_575 L xs C23 h y1 y2 y3 y4)
theorem t_La_law_516 {b L : Nat} {xs : Nat → Int32} {C23 : ja_H → Nat → Nat → Nat → Int32 → Option (Int32 × ja_H)} (k23 : ∀ (h : ja_H) (y1 : Nat) (y2 : Nat) (y3 : Nat) (y4 : Int32), ja_D ja_gI (M_La_law b L xs) 23 [some (.retAddr b), some (.ref y1), some (.ref y2), some (.ref y3), some (.int y4), none, none, none] [] h (C23 h y1 y2 y3 y4)) {h : ja_H} {y1 : Nat} {y2 : Nat} {y3 : Nat} {y4 : Int32} : ja_D ja_gI (M_La_law b L xs) 516 [some (.retAddr b), some (.ref y1), some (.ref y2), some (.ref y3), some (.int y4), none, none, none] [] h (r_La_law_516 L xs C23 h y1 y2 y3 y4) := by
  unfold r_La_law_516
  refine jd_goto 575 i_La_law_516 (by decide) ?_
  exact jd_less (t_La_law_575 k23) ⟨rfl, rfl, rfl, rfl, rfl, trivial⟩
noncomputable def r_La_law_473 (L : Nat) (xs : Nat → Int32) (C23 : ja_H → Nat → Nat → Nat → Int32 → Option (Int32 × ja_H)) (h : ja_H) (y1 : Nat) (y2 : Nat) (y3 : Nat) (y4 : Int32) : Option (Int32 × ja_H) := (r_La_law_575 L xs C23 h y1 y2 y3 y4)
theorem t_La_law_473 {b L : Nat} {xs : Nat → Int32} {C23 : ja_H → Nat → Nat → Nat → Int32 → Option (Int32 × ja_H)} (k23 : ∀ (h : ja_H) (y1 : Nat) (y2 : Nat) (y3 : Nat) (y4 : Int32), ja_D ja_gI (M_La_law b L xs) 23 [some (.retAddr b), some (.ref y1), some (.ref y2), some (.ref y3), some (.int y4), none, none, none] [] h (C23 h y1 y2 y3 y4)) {h : ja_H} {y1 : Nat} {y2 : Nat} {y3 : Nat} {y4 : Int32} : ja_D ja_gI (M_La_law b L xs) 473 [some (.retAddr b), some (.ref y1), some (.ref y2), some (.ref y3), some (.int y4), none, none, none] [] h (r_La_law_473 L xs C23 h y1 y2 y3 y4) := by
  unfold r_La_law_473
  refine jd_goto 575 i_La_law_473 (by decide) ?_
  exact jd_less (t_La_law_575 k23) ⟨rfl, rfl, rfl, rfl, rfl, trivial⟩
noncomputable def r_La_law_381 (L : Nat) (xs : Nat → Int32) (C23 : ja_H → Nat → Nat → Nat → Int32 → Option (Int32 × ja_H)) (h : ja_H) (y1 : Nat) (y2 : Nat) (y3 : Nat) (y4 : Int32) : Option (Int32 × ja_H) := (r_La_law_575 L xs C23 h y1 y2 y3 y4)
theorem t_La_law_381 {b L : Nat} {xs : Nat → Int32} {C23 : ja_H → Nat → Nat → Nat → Int32 → Option (Int32 × ja_H)} (k23 : ∀ (h : ja_H) (y1 : Nat) (y2 : Nat) (y3 : Nat) (y4 : Int32), ja_D ja_gI (M_La_law b L xs) 23 [some (.retAddr b), some (.ref y1), some (.ref y2), some (.ref y3), some (.int y4), none, none, none] [] h (C23 h y1 y2 y3 y4)) {h : ja_H} {y1 : Nat} {y2 : Nat} {y3 : Nat} {y4 : Int32} : ja_D ja_gI (M_La_law b L xs) 381 [some (.retAddr b), some (.ref y1), some (.ref y2), some (.ref y3), some (.int y4), none, none, none] [] h (r_La_law_381 L xs C23 h y1 y2 y3 y4) := by
  unfold r_La_law_381
  refine jd_goto 575 i_La_law_381 (by decide) ?_
  exact jd_less (t_La_law_575 k23) ⟨rfl, rfl, rfl, rfl, rfl, trivial⟩
noncomputable def r_La_law_185 (L : Nat) (xs : Nat → Int32) (C23 : ja_H → Nat → Nat → Nat → Int32 → Option (Int32 × ja_H)) (h : ja_H) (y1 : Nat) (y2 : Nat) (y3 : Nat) (y4 : Int32) : Option (Int32 × ja_H) := (r_La_law_575 L xs C23 h y1 y2 y3 y4)
theorem t_La_law_185 {b L : Nat} {xs : Nat → Int32} {C23 : ja_H → Nat → Nat → Nat → Int32 → Option (Int32 × ja_H)} (k23 : ∀ (h : ja_H) (y1 : Nat) (y2 : Nat) (y3 : Nat) (y4 : Int32), ja_D ja_gI (M_La_law b L xs) 23 [some (.retAddr b), some (.ref y1), some (.ref y2), some (.ref y3), some (.int y4), none, none, none] [] h (C23 h y1 y2 y3 y4)) {h : ja_H} {y1 : Nat} {y2 : Nat} {y3 : Nat} {y4 : Int32} : ja_D ja_gI (M_La_law b L xs) 185 [some (.retAddr b), some (.ref y1), some (.ref y2), some (.ref y3), some (.int y4), none, none, none] [] h (r_La_law_185 L xs C23 h y1 y2 y3 y4) := by
  unfold r_La_law_185
  refine jd_goto 575 i_La_law_185 (by decide) ?_
  exact jd_less (t_La_law_575 k23) ⟨rfl, rfl, rfl, rfl, rfl, trivial⟩
noncomputable def q_La_law_23 (L : Nat) (xs : Nat → Int32) (C23 : ja_H → Nat → Nat → Nat → Int32 → Option (Int32 × ja_H)) (h : ja_H) (y1 : Nat) (y2 : Nat) (y3 : Nat) (y4 : Int32) : Option (Int32 × ja_H) := (if ((Int32.ofNat L) - (4 : Int32)) < y4 then (jb (1 : Int32) (some ((1 : Int32), h))) else (jr_i L xs y4 (fun v1 => (jsw (v1 &&& (15 : Int32)) [0, 1, 2, 3, 4, 5, 6, 7, 8] [(jr_i L xs (y4 + (1 : Int32)) (fun v2 => (jr_i L xs (y4 + (2 : Int32)) (fun v3 => (jr_i L xs (y4 + (3 : Int32)) (fun v4 => (jc_I (r_La_word h y1 v2 (((Int32.toInt64 v3) <<< (Int32.toInt64 (32 : Int32) &&& 63)) ||| ((Int32.toInt64 v4) &&& (4294967295 : Int64))) y3) (fun v6 h5 => (jl (v6 : Int32) (fun (x7 : Int32) => (jr_i L xs (y4 + (1 : Int32)) (fun v8 => (jr_i L xs (y4 + (2 : Int32)) (fun v9 => (jr_i L xs (y4 + (3 : Int32)) (fun v10 => (jk h5 y2 9 (jc_I (r_Mo_word h5 y2 v8 (((Int32.toInt64 v9) <<< (Int32.toInt64 (32 : Int32) &&& 63)) ||| ((Int32.toInt64 v10) &&& (4294967295 : Int64)))) (fun v12 h11 => (jl (v12 : Int32) (fun (x13 : Int32) => (jk h11 y2 9 (jc_I (r_Mo_thrown h11 y2) (fun v15 h14 => (if v15 = x7 then (if x7 = (0 : Int32) then (je_L h14 y3 (0 : Int32) (fun v16 => (if v16 = (Int32.toInt64 x13) then (r_La_law_185 L xs C23 h14 y1 y2 y3 y4) else (jb (0 : Int32) (some ((0 : Int32), h14)))))) else (r_La_law_185 L xs C23 h14 y1 y2 y3 y4)) else (jb (0 : Int32) (some ((0 : Int32), h14)))))))))))))))))))))))))))), (jr_i L xs (y4 + (1 : Int32)) (fun v17 => (jc_I (r_La_cut h y1 v17) (fun v19 h18 => (jl (v19 : Int32) (fun (x20 : Int32) => (jr_i L xs (y4 + (1 : Int32)) (fun v21 => (jk h18 y2 9 (jc_V (r_Mo_cut h18 y2 v21) (fun h22 => (jk h22 y2 9 (jc_I (r_Mo_thrown h22 y2) (fun v24 h23 => (if v24 = x20 then (r_La_law_575 L xs C23 h23 y1 y2 y3 y4) else (jb (0 : Int32) (some ((0 : Int32), h23)))))))))))))))))), (jr_i L xs (y4 + (1 : Int32)) (fun v25 => (jc_I (r_La_context h y1 v25) (fun v27 h26 => (jl (v27 : Int32) (fun (x28 : Int32) => (jr_i L xs (y4 + (1 : Int32)) (fun v29 => (jk h26 y2 9 (jc_V (r_Mo_context h26 y2 v29) (fun h30 => (jk h30 y2 9 (jc_I (r_Mo_thrown h30 y2) (fun v32 h31 => (if v32 = x28 then (r_La_law_575 L xs C23 h31 y1 y2 y3 y4) else (jb (0 : Int32) (some ((0 : Int32), h31)))))))))))))))))), (jr_i L xs (y4 + (1 : Int32)) (fun v33 => (jr_i L xs (y4 + (2 : Int32)) (fun v34 => (jr_i L xs (y4 + (3 : Int32)) (fun v35 => (jc_I (r_La_put h y1 v33 (((Int32.toInt64 v34) <<< (Int32.toInt64 (32 : Int32) &&& 63)) ||| ((Int32.toInt64 v35) &&& (4294967295 : Int64)))) (fun v37 h36 => (jl (v37 : Int32) (fun (x38 : Int32) => (jr_i L xs (y4 + (1 : Int32)) (fun v39 => (jr_i L xs (y4 + (2 : Int32)) (fun v40 => (jr_i L xs (y4 + (3 : Int32)) (fun v41 => (jk h36 y2 9 (jc_V (r_Mo_put h36 y2 v39 (((Int32.toInt64 v40) <<< (Int32.toInt64 (32 : Int32) &&& 63)) ||| ((Int32.toInt64 v41) &&& (4294967295 : Int64)))) (fun h42 => (jk h42 y2 9 (jc_I (r_Mo_thrown h42 y2) (fun v44 h43 => (if v44 = x38 then (r_La_law_575 L xs C23 h43 y1 y2 y3 y4) else (jb (0 : Int32) (some ((0 : Int32), h43)))))))))))))))))))))))))), (jc_I (r_La_verify h y1 y3) (fun v46 h45 => (jl (v46 : Int32) (fun (x47 : Int32) => (jk h45 y2 9 (jc_I (r_Mo_verify h45 y2) (fun v49 h48 => (jl (v49 : Int32) (fun (x50 : Int32) => (jk h48 y2 9 (jc_I (r_Mo_thrown h48 y2) (fun v52 h51 => (if v52 = x47 then (if x47 = (0 : Int32) then (je_L h51 y3 (0 : Int32) (fun v53 => (if v53 = (Int32.toInt64 x50) then (r_La_law_381 L xs C23 h51 y1 y2 y3 y4) else (jb (0 : Int32) (some ((0 : Int32), h51)))))) else (r_La_law_381 L xs C23 h51 y1 y2 y3 y4)) else (jb (0 : Int32) (some ((0 : Int32), h51)))))))))))))))), (jk h y1 0 (jc_I (r_WJ_fault h y1) (fun v55 h54 => (jk h54 y2 9 (jc_I (r_Mo_fault h54 y2) (fun v57 h56 => (if v55 = v57 then (r_La_law_575 L xs C23 h56 y1 y2 y3 y4) else (jb (0 : Int32) (some ((0 : Int32), h56)))))))))), (jr_i L xs (y4 + (1 : Int32)) (fun v58 => (jr_i L xs (y4 + (2 : Int32)) (fun v59 => (jr_i L xs (y4 + (3 : Int32)) (fun v60 => (jc_I (r_La_state h y1 v58 v59 v60 y3) (fun v62 h61 => (jl (v62 : Int32) (fun (x63 : Int32) => (jr_i L xs (y4 + (1 : Int32)) (fun v64 => (jr_i L xs (y4 + (2 : Int32)) (fun v65 => (jr_i L xs (y4 + (3 : Int32)) (fun v66 => (jk h61 y2 9 (jc_L (r_Mo_state h61 y2 v64 v65 v66) (fun v68 h67 => (jl (v68 : Int64) (fun (x69 : Int64) => (jk h67 y2 9 (jc_I (r_Mo_thrown h67 y2) (fun v71 h70 => (if v71 = x63 then (if x63 = (0 : Int32) then (je_L h70 y3 (0 : Int32) (fun v72 => (if v72 = x69 then (r_La_law_473 L xs C23 h70 y1 y2 y3 y4) else (jb (0 : Int32) (some ((0 : Int32), h70)))))) else (r_La_law_473 L xs C23 h70 y1 y2 y3 y4)) else (jb (0 : Int32) (some ((0 : Int32), h70)))))))))))))))))))))))))))), (jc_I (r_La_run h y1 y3) (fun v74 h73 => (jl (v74 : Int32) (fun (x75 : Int32) => (jk h73 y2 9 (jc_L (r_Mo_run h73 y2) (fun v77 h76 => (jl (v77 : Int64) (fun (x78 : Int64) => (jk h76 y2 9 (jc_I (r_Mo_thrown h76 y2) (fun v80 h79 => (if v80 = x75 then (if x75 = (0 : Int32) then (je_L h79 y3 (0 : Int32) (fun v81 => (if v81 = x78 then (r_La_law_516 L xs C23 h79 y1 y2 y3 y4) else (jb (0 : Int32) (some ((0 : Int32), h79)))))) else (r_La_law_516 L xs C23 h79 y1 y2 y3 y4)) else (jb (0 : Int32) (some ((0 : Int32), h79)))))))))))))))), (jr_i L xs (y4 + (1 : Int32)) (fun v82 => (jc_I (r_La_count h y1 v82 y3) (fun v84 h83 => (jl (v84 : Int32) (fun (x85 : Int32) => (jr_i L xs (y4 + (1 : Int32)) (fun v86 => (jk h83 y2 9 (jc_I (r_Mo_count h83 y2 v86) (fun v88 h87 => (jl (v88 : Int32) (fun (x89 : Int32) => (jk h87 y2 9 (jc_I (r_Mo_thrown h87 y2) (fun v91 h90 => (if v91 = x85 then (if x85 = (0 : Int32) then (je_L h90 y3 (0 : Int32) (fun v92 => (if v92 = (Int32.toInt64 x89) then (r_La_law_572 L xs C23 h90 y1 y2 y3 y4) else (jb (0 : Int32) (some ((0 : Int32), h90)))))) else (r_La_law_572 L xs C23 h90 y1 y2 y3 y4)) else (jb (0 : Int32) (some ((0 : Int32), h90))))))))))))))))))))] (r_La_law_575 L xs C23 h y1 y2 y3 y4)))))
theorem t_La_law_23 {b L : Nat} {xs : Nat → Int32} {C23 : ja_H → Nat → Nat → Nat → Int32 → Option (Int32 × ja_H)} (k23 : ∀ (h : ja_H) (y1 : Nat) (y2 : Nat) (y3 : Nat) (y4 : Int32), ja_D ja_gI (M_La_law b L xs) 23 [some (.retAddr b), some (.ref y1), some (.ref y2), some (.ref y3), some (.int y4), none, none, none] [] h (C23 h y1 y2 y3 y4)) {h : ja_H} {y1 : Nat} {y2 : Nat} {y3 : Nat} {y4 : Int32} : ja_D ja_gI (M_La_law b L xs) 23 [some (.retAddr b), some (.ref y1), some (.ref y2), some (.ref y3), some (.int y4), none, none, none] [] h (q_La_law_23 L xs C23 h y1 y2 y3 y4) := by
  unfold q_La_law_23
  refine jd_iload i_La_law_23 rfl ?_
  refine jd_aload_nX i_La_law_25 rfl ?_
  refine jd_slen rfl i_La_law_26 ?_
  refine jd_iconst 4 i_La_law_27 (by decide) ?_
  refine jd_isub i_La_law_28 ?_
  refine jd_icmp_gt 581 i_La_law_29 (by decide) ?_ ?_
  · refine jd_iconst 1 i_La_law_581 (by decide) ?_
    exact jd_zreturn i_La_law_582 rfl
  · refine jd_aload_nX i_La_law_32 rfl ?_
    refine jd_iload i_La_law_33 rfl ?_
    refine jd_sld rfl i_La_law_35 (fun v1 => ?_)
    refine jd_bipush 15 i_La_law_36 (by decide) ?_
    refine jd_iand i_La_law_38 ?_
    refine jd_ts 575 [0, 1, 2, 3, 4, 5, 6, 7, 8] [88, 188, 224, 260, 340, 384, 397, 476, 519] i_La_law_39 rfl (by decide) (by decide) (by decide) ?_ ⟨?_, ?_, ?_, ?_, ?_, ?_, ?_, ?_, ?_, trivial⟩
    · exact jd_less (t_La_law_575 k23) ⟨rfl, rfl, rfl, rfl, rfl, trivial⟩
    · refine jd_aload_n i_La_law_88 rfl ?_
      refine jd_aload_nX i_La_law_89 rfl ?_
      refine jd_iload i_La_law_90 rfl ?_
      refine jd_iconst 1 i_La_law_92 (by decide) ?_
      refine jd_iadd i_La_law_93 ?_
      refine jd_sld rfl i_La_law_94 (fun v2 => ?_)
      refine jd_aload_nX i_La_law_95 rfl ?_
      refine jd_iload i_La_law_96 rfl ?_
      refine jd_iconst 2 i_La_law_98 (by decide) ?_
      refine jd_iadd i_La_law_99 ?_
      refine jd_sld rfl i_La_law_100 (fun v3 => ?_)
      refine jd_i2l i_La_law_101 ?_
      refine jd_bipush 32 i_La_law_102 (by decide) ?_
      refine jd_lshl i_La_law_104 ?_
      refine jd_aload_nX i_La_law_105 rfl ?_
      refine jd_iload i_La_law_106 rfl ?_
      refine jd_iconst 3 i_La_law_108 (by decide) ?_
      refine jd_iadd i_La_law_109 ?_
      refine jd_sld rfl i_La_law_110 (fun v4 => ?_)
      refine jd_i2l i_La_law_111 ?_
      refine jd_ldc2 i_La_law_112 K_La_50 ?_
      refine jd_land i_La_law_115 ?_
      refine jd_lor i_La_law_116 ?_
      refine jd_aload_n i_La_law_117 rfl ?_
      refine jd_callWI G_La_52 sc_La_word (fun _ e => c_La_word e) rfl ⟨Nat.le_of_ble_eq_true rfl, Nat.le_of_ble_eq_true rfl⟩ rfl (Nat.le_of_ble_eq_true rfl) i_La_law_118 (fun v6 h5 => ?_)
      refine jd_istore (fun x7 => [some (.retAddr b), some (.ref y1), some (.ref y2), some (.ref y3), some (.int y4), some (.int x7), none, none]) i_La_law_121 (Nat.le_of_ble_eq_true rfl) rfl (fun _ => rfl) (fun x7 => ?_)
      refine jd_aload_n i_La_law_123 rfl ?_
      refine jd_aload_nX i_La_law_124 rfl ?_
      refine jd_iload i_La_law_125 rfl ?_
      refine jd_iconst 1 i_La_law_127 (by decide) ?_
      refine jd_iadd i_La_law_128 ?_
      refine jd_sld rfl i_La_law_129 (fun v8 => ?_)
      refine jd_aload_nX i_La_law_130 rfl ?_
      refine jd_iload i_La_law_131 rfl ?_
      refine jd_iconst 2 i_La_law_133 (by decide) ?_
      refine jd_iadd i_La_law_134 ?_
      refine jd_sld rfl i_La_law_135 (fun v9 => ?_)
      refine jd_i2l i_La_law_136 ?_
      refine jd_bipush 32 i_La_law_137 (by decide) ?_
      refine jd_lshl i_La_law_139 ?_
      refine jd_aload_nX i_La_law_140 rfl ?_
      refine jd_iload i_La_law_141 rfl ?_
      refine jd_iconst 3 i_La_law_143 (by decide) ?_
      refine jd_iadd i_La_law_144 ?_
      refine jd_sld rfl i_La_law_145 (fun v10 => ?_)
      refine jd_i2l i_La_law_146 ?_
      refine jd_ldc2 i_La_law_147 K_La_50 ?_
      refine jd_land i_La_law_150 ?_
      refine jd_lor i_La_law_151 ?_
      refine jd_callVI G_La_57 in_Mo_word se_Mo_word rfl (fun _ e => c_Mo_word e) rfl ⟨Nat.le_of_ble_eq_true rfl, Nat.le_of_ble_eq_true rfl⟩ rfl (Nat.le_of_ble_eq_true rfl) i_La_law_152 (fun v12 h11 => ?_)
      refine jd_istore (fun x13 => [some (.retAddr b), some (.ref y1), some (.ref y2), some (.ref y3), some (.int y4), some (.int x7), some (.int x13), none]) i_La_law_155 (Nat.le_of_ble_eq_true rfl) rfl (fun _ => rfl) (fun x13 => ?_)
      refine jd_aload_n i_La_law_157 rfl ?_
      refine jd_callVI G_La_58 in_Mo_thrown se_Mo_thrown rfl (fun _ e => c_Mo_thrown e) rfl ⟨Nat.le_of_ble_eq_true rfl, Nat.le_of_ble_eq_true rfl⟩ rfl (Nat.le_of_ble_eq_true rfl) i_La_law_158 (fun v15 h14 => ?_)
      refine jd_iload i_La_law_161 rfl ?_
      refine jd_icmp_eq 168 i_La_law_163 (by decide) ?_ ?_
      · refine jd_iload i_La_law_168 rfl ?_
        refine jd_if_ne 185 i_La_law_170 (by decide) ?_ ?_
        · exact jd_less (t_La_law_185 k23) ⟨rfl, rfl, rfl, rfl, rfl, trivial⟩
        · refine jd_aload_n i_La_law_173 rfl ?_
          refine jd_iconst 0 i_La_law_174 (by decide) ?_
          refine jd_lald i_La_law_175 (fun v16 => ?_)
          refine jd_iload i_La_law_176 rfl ?_
          refine jd_i2l i_La_law_178 ?_
          refine jd_lcmp_eq 185 i_La_law_179 i_La_law_180 (by decide) ?_ ?_
          · exact jd_less (t_La_law_185 k23) ⟨rfl, rfl, rfl, rfl, rfl, trivial⟩
          · refine jd_iconst 0 i_La_law_183 (by decide) ?_
            exact jd_zreturn i_La_law_184 rfl
      · refine jd_iconst 0 i_La_law_166 (by decide) ?_
        exact jd_zreturn i_La_law_167 rfl
    · refine jd_aload_n i_La_law_188 rfl ?_
      refine jd_aload_nX i_La_law_189 rfl ?_
      refine jd_iload i_La_law_190 rfl ?_
      refine jd_iconst 1 i_La_law_192 (by decide) ?_
      refine jd_iadd i_La_law_193 ?_
      refine jd_sld rfl i_La_law_194 (fun v17 => ?_)
      refine jd_callWI G_La_61 sc_La_cut (fun _ e => c_La_cut e) rfl ⟨Nat.le_of_ble_eq_true rfl, Nat.le_of_ble_eq_true rfl⟩ rfl (Nat.le_of_ble_eq_true rfl) i_La_law_195 (fun v19 h18 => ?_)
      refine jd_istore (fun x20 => [some (.retAddr b), some (.ref y1), some (.ref y2), some (.ref y3), some (.int y4), some (.int x20), none, none]) i_La_law_198 (Nat.le_of_ble_eq_true rfl) rfl (fun _ => rfl) (fun x20 => ?_)
      refine jd_aload_n i_La_law_200 rfl ?_
      refine jd_aload_nX i_La_law_201 rfl ?_
      refine jd_iload i_La_law_202 rfl ?_
      refine jd_iconst 1 i_La_law_204 (by decide) ?_
      refine jd_iadd i_La_law_205 ?_
      refine jd_sld rfl i_La_law_206 (fun v21 => ?_)
      refine jd_callVV G_La_64 in_Mo_cut se_Mo_cut rfl (fun _ e => c_Mo_cut e) rfl ⟨Nat.le_of_ble_eq_true rfl, Nat.le_of_ble_eq_true rfl⟩ rfl (Nat.le_of_ble_eq_true rfl) i_La_law_207 (fun h22 => ?_)
      refine jd_aload_n i_La_law_210 rfl ?_
      refine jd_callVI G_La_58 in_Mo_thrown se_Mo_thrown rfl (fun _ e => c_Mo_thrown e) rfl ⟨Nat.le_of_ble_eq_true rfl, Nat.le_of_ble_eq_true rfl⟩ rfl (Nat.le_of_ble_eq_true rfl) i_La_law_211 (fun v24 h23 => ?_)
      refine jd_iload i_La_law_214 rfl ?_
      refine jd_icmp_eq 221 i_La_law_216 (by decide) ?_ ?_
      · refine jd_goto 575 i_La_law_221 (by decide) ?_
        exact jd_less (t_La_law_575 k23) ⟨rfl, rfl, rfl, rfl, rfl, trivial⟩
      · refine jd_iconst 0 i_La_law_219 (by decide) ?_
        exact jd_zreturn i_La_law_220 rfl
    · refine jd_aload_n i_La_law_224 rfl ?_
      refine jd_aload_nX i_La_law_225 rfl ?_
      refine jd_iload i_La_law_226 rfl ?_
      refine jd_iconst 1 i_La_law_228 (by decide) ?_
      refine jd_iadd i_La_law_229 ?_
      refine jd_sld rfl i_La_law_230 (fun v25 => ?_)
      refine jd_callWI G_La_65 sc_La_context (fun _ e => c_La_context e) rfl ⟨Nat.le_of_ble_eq_true rfl, Nat.le_of_ble_eq_true rfl⟩ rfl (Nat.le_of_ble_eq_true rfl) i_La_law_231 (fun v27 h26 => ?_)
      refine jd_istore (fun x28 => [some (.retAddr b), some (.ref y1), some (.ref y2), some (.ref y3), some (.int y4), some (.int x28), none, none]) i_La_law_234 (Nat.le_of_ble_eq_true rfl) rfl (fun _ => rfl) (fun x28 => ?_)
      refine jd_aload_n i_La_law_236 rfl ?_
      refine jd_aload_nX i_La_law_237 rfl ?_
      refine jd_iload i_La_law_238 rfl ?_
      refine jd_iconst 1 i_La_law_240 (by decide) ?_
      refine jd_iadd i_La_law_241 ?_
      refine jd_sld rfl i_La_law_242 (fun v29 => ?_)
      refine jd_callVV G_La_67 in_Mo_context se_Mo_context rfl (fun _ e => c_Mo_context e) rfl ⟨Nat.le_of_ble_eq_true rfl, Nat.le_of_ble_eq_true rfl⟩ rfl (Nat.le_of_ble_eq_true rfl) i_La_law_243 (fun h30 => ?_)
      refine jd_aload_n i_La_law_246 rfl ?_
      refine jd_callVI G_La_58 in_Mo_thrown se_Mo_thrown rfl (fun _ e => c_Mo_thrown e) rfl ⟨Nat.le_of_ble_eq_true rfl, Nat.le_of_ble_eq_true rfl⟩ rfl (Nat.le_of_ble_eq_true rfl) i_La_law_247 (fun v32 h31 => ?_)
      refine jd_iload i_La_law_250 rfl ?_
      refine jd_icmp_eq 257 i_La_law_252 (by decide) ?_ ?_
      · refine jd_goto 575 i_La_law_257 (by decide) ?_
        exact jd_less (t_La_law_575 k23) ⟨rfl, rfl, rfl, rfl, rfl, trivial⟩
      · refine jd_iconst 0 i_La_law_255 (by decide) ?_
        exact jd_zreturn i_La_law_256 rfl
    · refine jd_aload_n i_La_law_260 rfl ?_
      refine jd_aload_nX i_La_law_261 rfl ?_
      refine jd_iload i_La_law_262 rfl ?_
      refine jd_iconst 1 i_La_law_264 (by decide) ?_
      refine jd_iadd i_La_law_265 ?_
      refine jd_sld rfl i_La_law_266 (fun v33 => ?_)
      refine jd_aload_nX i_La_law_267 rfl ?_
      refine jd_iload i_La_law_268 rfl ?_
      refine jd_iconst 2 i_La_law_270 (by decide) ?_
      refine jd_iadd i_La_law_271 ?_
      refine jd_sld rfl i_La_law_272 (fun v34 => ?_)
      refine jd_i2l i_La_law_273 ?_
      refine jd_bipush 32 i_La_law_274 (by decide) ?_
      refine jd_lshl i_La_law_276 ?_
      refine jd_aload_nX i_La_law_277 rfl ?_
      refine jd_iload i_La_law_278 rfl ?_
      refine jd_iconst 3 i_La_law_280 (by decide) ?_
      refine jd_iadd i_La_law_281 ?_
      refine jd_sld rfl i_La_law_282 (fun v35 => ?_)
      refine jd_i2l i_La_law_283 ?_
      refine jd_ldc2 i_La_law_284 K_La_50 ?_
      refine jd_land i_La_law_287 ?_
      refine jd_lor i_La_law_288 ?_
      refine jd_callWI G_La_68 sc_La_put (fun _ e => c_La_put e) rfl ⟨Nat.le_of_ble_eq_true rfl, Nat.le_of_ble_eq_true rfl⟩ rfl (Nat.le_of_ble_eq_true rfl) i_La_law_289 (fun v37 h36 => ?_)
      refine jd_istore (fun x38 => [some (.retAddr b), some (.ref y1), some (.ref y2), some (.ref y3), some (.int y4), some (.int x38), none, none]) i_La_law_292 (Nat.le_of_ble_eq_true rfl) rfl (fun _ => rfl) (fun x38 => ?_)
      refine jd_aload_n i_La_law_294 rfl ?_
      refine jd_aload_nX i_La_law_295 rfl ?_
      refine jd_iload i_La_law_296 rfl ?_
      refine jd_iconst 1 i_La_law_298 (by decide) ?_
      refine jd_iadd i_La_law_299 ?_
      refine jd_sld rfl i_La_law_300 (fun v39 => ?_)
      refine jd_aload_nX i_La_law_301 rfl ?_
      refine jd_iload i_La_law_302 rfl ?_
      refine jd_iconst 2 i_La_law_304 (by decide) ?_
      refine jd_iadd i_La_law_305 ?_
      refine jd_sld rfl i_La_law_306 (fun v40 => ?_)
      refine jd_i2l i_La_law_307 ?_
      refine jd_bipush 32 i_La_law_308 (by decide) ?_
      refine jd_lshl i_La_law_310 ?_
      refine jd_aload_nX i_La_law_311 rfl ?_
      refine jd_iload i_La_law_312 rfl ?_
      refine jd_iconst 3 i_La_law_314 (by decide) ?_
      refine jd_iadd i_La_law_315 ?_
      refine jd_sld rfl i_La_law_316 (fun v41 => ?_)
      refine jd_i2l i_La_law_317 ?_
      refine jd_ldc2 i_La_law_318 K_La_50 ?_
      refine jd_land i_La_law_321 ?_
      refine jd_lor i_La_law_322 ?_
      refine jd_callVV G_La_71 in_Mo_put se_Mo_put rfl (fun _ e => c_Mo_put e) rfl ⟨Nat.le_of_ble_eq_true rfl, Nat.le_of_ble_eq_true rfl⟩ rfl (Nat.le_of_ble_eq_true rfl) i_La_law_323 (fun h42 => ?_)
      refine jd_aload_n i_La_law_326 rfl ?_
      refine jd_callVI G_La_58 in_Mo_thrown se_Mo_thrown rfl (fun _ e => c_Mo_thrown e) rfl ⟨Nat.le_of_ble_eq_true rfl, Nat.le_of_ble_eq_true rfl⟩ rfl (Nat.le_of_ble_eq_true rfl) i_La_law_327 (fun v44 h43 => ?_)
      refine jd_iload i_La_law_330 rfl ?_
      refine jd_icmp_eq 337 i_La_law_332 (by decide) ?_ ?_
      · refine jd_goto 575 i_La_law_337 (by decide) ?_
        exact jd_less (t_La_law_575 k23) ⟨rfl, rfl, rfl, rfl, rfl, trivial⟩
      · refine jd_iconst 0 i_La_law_335 (by decide) ?_
        exact jd_zreturn i_La_law_336 rfl
    · refine jd_aload_n i_La_law_340 rfl ?_
      refine jd_aload_n i_La_law_341 rfl ?_
      refine jd_callWI G_La_72 sc_La_verify (fun _ e => c_La_verify e) rfl ⟨Nat.le_of_ble_eq_true rfl, Nat.le_of_ble_eq_true rfl⟩ rfl (Nat.le_of_ble_eq_true rfl) i_La_law_342 (fun v46 h45 => ?_)
      refine jd_istore (fun x47 => [some (.retAddr b), some (.ref y1), some (.ref y2), some (.ref y3), some (.int y4), some (.int x47), none, none]) i_La_law_345 (Nat.le_of_ble_eq_true rfl) rfl (fun _ => rfl) (fun x47 => ?_)
      refine jd_aload_n i_La_law_347 rfl ?_
      refine jd_callVI G_La_75 in_Mo_verify se_Mo_verify rfl (fun _ e => c_Mo_verify e) rfl ⟨Nat.le_of_ble_eq_true rfl, Nat.le_of_ble_eq_true rfl⟩ rfl (Nat.le_of_ble_eq_true rfl) i_La_law_348 (fun v49 h48 => ?_)
      refine jd_istore (fun x50 => [some (.retAddr b), some (.ref y1), some (.ref y2), some (.ref y3), some (.int y4), some (.int x47), some (.int x50), none]) i_La_law_351 (Nat.le_of_ble_eq_true rfl) rfl (fun _ => rfl) (fun x50 => ?_)
      refine jd_aload_n i_La_law_353 rfl ?_
      refine jd_callVI G_La_58 in_Mo_thrown se_Mo_thrown rfl (fun _ e => c_Mo_thrown e) rfl ⟨Nat.le_of_ble_eq_true rfl, Nat.le_of_ble_eq_true rfl⟩ rfl (Nat.le_of_ble_eq_true rfl) i_La_law_354 (fun v52 h51 => ?_)
      refine jd_iload i_La_law_357 rfl ?_
      refine jd_icmp_eq 364 i_La_law_359 (by decide) ?_ ?_
      · refine jd_iload i_La_law_364 rfl ?_
        refine jd_if_ne 381 i_La_law_366 (by decide) ?_ ?_
        · exact jd_less (t_La_law_381 k23) ⟨rfl, rfl, rfl, rfl, rfl, trivial⟩
        · refine jd_aload_n i_La_law_369 rfl ?_
          refine jd_iconst 0 i_La_law_370 (by decide) ?_
          refine jd_lald i_La_law_371 (fun v53 => ?_)
          refine jd_iload i_La_law_372 rfl ?_
          refine jd_i2l i_La_law_374 ?_
          refine jd_lcmp_eq 381 i_La_law_375 i_La_law_376 (by decide) ?_ ?_
          · exact jd_less (t_La_law_381 k23) ⟨rfl, rfl, rfl, rfl, rfl, trivial⟩
          · refine jd_iconst 0 i_La_law_379 (by decide) ?_
            exact jd_zreturn i_La_law_380 rfl
      · refine jd_iconst 0 i_La_law_362 (by decide) ?_
        exact jd_zreturn i_La_law_363 rfl
    · refine jd_aload_n i_La_law_384 rfl ?_
      refine jd_callVI G_La_76 in_WJ_fault se_WJ_fault rfl (fun _ e => c_WJ_fault e) rfl ⟨Nat.le_of_ble_eq_true rfl, Nat.le_of_ble_eq_true rfl⟩ rfl (Nat.le_of_ble_eq_true rfl) i_La_law_385 (fun v55 h54 => ?_)
      refine jd_aload_n i_La_law_388 rfl ?_
      refine jd_callVI G_La_79 in_Mo_fault se_Mo_fault rfl (fun _ e => c_Mo_fault e) rfl ⟨Nat.le_of_ble_eq_true rfl, Nat.le_of_ble_eq_true rfl⟩ rfl (Nat.le_of_ble_eq_true rfl) i_La_law_389 (fun v57 h56 => ?_)
      refine jd_icmp_eq 575 i_La_law_392 (by decide) ?_ ?_
      · exact jd_less (t_La_law_575 k23) ⟨rfl, rfl, rfl, rfl, rfl, trivial⟩
      · refine jd_iconst 0 i_La_law_395 (by decide) ?_
        exact jd_zreturn i_La_law_396 rfl
    · refine jd_aload_n i_La_law_397 rfl ?_
      refine jd_aload_nX i_La_law_398 rfl ?_
      refine jd_iload i_La_law_399 rfl ?_
      refine jd_iconst 1 i_La_law_401 (by decide) ?_
      refine jd_iadd i_La_law_402 ?_
      refine jd_sld rfl i_La_law_403 (fun v58 => ?_)
      refine jd_aload_nX i_La_law_404 rfl ?_
      refine jd_iload i_La_law_405 rfl ?_
      refine jd_iconst 2 i_La_law_407 (by decide) ?_
      refine jd_iadd i_La_law_408 ?_
      refine jd_sld rfl i_La_law_409 (fun v59 => ?_)
      refine jd_aload_nX i_La_law_410 rfl ?_
      refine jd_iload i_La_law_411 rfl ?_
      refine jd_iconst 3 i_La_law_413 (by decide) ?_
      refine jd_iadd i_La_law_414 ?_
      refine jd_sld rfl i_La_law_415 (fun v60 => ?_)
      refine jd_aload_n i_La_law_416 rfl ?_
      refine jd_callWI G_La_80 sc_La_state (fun _ e => c_La_state e) rfl ⟨Nat.le_of_ble_eq_true rfl, Nat.le_of_ble_eq_true rfl⟩ rfl (Nat.le_of_ble_eq_true rfl) i_La_law_417 (fun v62 h61 => ?_)
      refine jd_istore (fun x63 => [some (.retAddr b), some (.ref y1), some (.ref y2), some (.ref y3), some (.int y4), some (.int x63), none, none]) i_La_law_420 (Nat.le_of_ble_eq_true rfl) rfl (fun _ => rfl) (fun x63 => ?_)
      refine jd_aload_n i_La_law_422 rfl ?_
      refine jd_aload_nX i_La_law_423 rfl ?_
      refine jd_iload i_La_law_424 rfl ?_
      refine jd_iconst 1 i_La_law_426 (by decide) ?_
      refine jd_iadd i_La_law_427 ?_
      refine jd_sld rfl i_La_law_428 (fun v64 => ?_)
      refine jd_aload_nX i_La_law_429 rfl ?_
      refine jd_iload i_La_law_430 rfl ?_
      refine jd_iconst 2 i_La_law_432 (by decide) ?_
      refine jd_iadd i_La_law_433 ?_
      refine jd_sld rfl i_La_law_434 (fun v65 => ?_)
      refine jd_aload_nX i_La_law_435 rfl ?_
      refine jd_iload i_La_law_436 rfl ?_
      refine jd_iconst 3 i_La_law_438 (by decide) ?_
      refine jd_iadd i_La_law_439 ?_
      refine jd_sld rfl i_La_law_440 (fun v66 => ?_)
      refine jd_callVL G_La_83 in_Mo_state se_Mo_state rfl (fun _ e => c_Mo_state e) rfl ⟨Nat.le_of_ble_eq_true rfl, Nat.le_of_ble_eq_true rfl⟩ rfl (Nat.le_of_ble_eq_true rfl) i_La_law_441 (fun v68 h67 => ?_)
      refine jd_lstore (fun x69 => [some (.retAddr b), some (.ref y1), some (.ref y2), some (.ref y3), some (.int y4), some (.int x63), some (.long x69), none]) i_La_law_444 (Nat.le_of_ble_eq_true rfl) rfl (fun _ => rfl) (fun x69 => ?_)
      refine jd_aload_n i_La_law_446 rfl ?_
      refine jd_callVI G_La_58 in_Mo_thrown se_Mo_thrown rfl (fun _ e => c_Mo_thrown e) rfl ⟨Nat.le_of_ble_eq_true rfl, Nat.le_of_ble_eq_true rfl⟩ rfl (Nat.le_of_ble_eq_true rfl) i_La_law_447 (fun v71 h70 => ?_)
      refine jd_iload i_La_law_450 rfl ?_
      refine jd_icmp_eq 457 i_La_law_452 (by decide) ?_ ?_
      · refine jd_iload i_La_law_457 rfl ?_
        refine jd_if_ne 473 i_La_law_459 (by decide) ?_ ?_
        · exact jd_less (t_La_law_473 k23) ⟨rfl, rfl, rfl, rfl, rfl, trivial⟩
        · refine jd_aload_n i_La_law_462 rfl ?_
          refine jd_iconst 0 i_La_law_463 (by decide) ?_
          refine jd_lald i_La_law_464 (fun v72 => ?_)
          refine jd_lload i_La_law_465 rfl ?_
          refine jd_lcmp_eq 473 i_La_law_467 i_La_law_468 (by decide) ?_ ?_
          · exact jd_less (t_La_law_473 k23) ⟨rfl, rfl, rfl, rfl, rfl, trivial⟩
          · refine jd_iconst 0 i_La_law_471 (by decide) ?_
            exact jd_zreturn i_La_law_472 rfl
      · refine jd_iconst 0 i_La_law_455 (by decide) ?_
        exact jd_zreturn i_La_law_456 rfl
    · refine jd_aload_n i_La_law_476 rfl ?_
      refine jd_aload_n i_La_law_477 rfl ?_
      refine jd_callWI G_La_84 sc_La_run (fun _ e => c_La_run e) rfl ⟨Nat.le_of_ble_eq_true rfl, Nat.le_of_ble_eq_true rfl⟩ rfl (Nat.le_of_ble_eq_true rfl) i_La_law_478 (fun v74 h73 => ?_)
      refine jd_istore (fun x75 => [some (.retAddr b), some (.ref y1), some (.ref y2), some (.ref y3), some (.int y4), some (.int x75), none, none]) i_La_law_481 (Nat.le_of_ble_eq_true rfl) rfl (fun _ => rfl) (fun x75 => ?_)
      refine jd_aload_n i_La_law_483 rfl ?_
      refine jd_callVL G_La_86 in_Mo_run se_Mo_run rfl (fun _ e => c_Mo_run e) rfl ⟨Nat.le_of_ble_eq_true rfl, Nat.le_of_ble_eq_true rfl⟩ rfl (Nat.le_of_ble_eq_true rfl) i_La_law_484 (fun v77 h76 => ?_)
      refine jd_lstore (fun x78 => [some (.retAddr b), some (.ref y1), some (.ref y2), some (.ref y3), some (.int y4), some (.int x75), some (.long x78), none]) i_La_law_487 (Nat.le_of_ble_eq_true rfl) rfl (fun _ => rfl) (fun x78 => ?_)
      refine jd_aload_n i_La_law_489 rfl ?_
      refine jd_callVI G_La_58 in_Mo_thrown se_Mo_thrown rfl (fun _ e => c_Mo_thrown e) rfl ⟨Nat.le_of_ble_eq_true rfl, Nat.le_of_ble_eq_true rfl⟩ rfl (Nat.le_of_ble_eq_true rfl) i_La_law_490 (fun v80 h79 => ?_)
      refine jd_iload i_La_law_493 rfl ?_
      refine jd_icmp_eq 500 i_La_law_495 (by decide) ?_ ?_
      · refine jd_iload i_La_law_500 rfl ?_
        refine jd_if_ne 516 i_La_law_502 (by decide) ?_ ?_
        · exact jd_less (t_La_law_516 k23) ⟨rfl, rfl, rfl, rfl, rfl, trivial⟩
        · refine jd_aload_n i_La_law_505 rfl ?_
          refine jd_iconst 0 i_La_law_506 (by decide) ?_
          refine jd_lald i_La_law_507 (fun v81 => ?_)
          refine jd_lload i_La_law_508 rfl ?_
          refine jd_lcmp_eq 516 i_La_law_510 i_La_law_511 (by decide) ?_ ?_
          · exact jd_less (t_La_law_516 k23) ⟨rfl, rfl, rfl, rfl, rfl, trivial⟩
          · refine jd_iconst 0 i_La_law_514 (by decide) ?_
            exact jd_zreturn i_La_law_515 rfl
      · refine jd_iconst 0 i_La_law_498 (by decide) ?_
        exact jd_zreturn i_La_law_499 rfl
    · refine jd_aload_n i_La_law_519 rfl ?_
      refine jd_aload_nX i_La_law_520 rfl ?_
      refine jd_iload i_La_law_521 rfl ?_
      refine jd_iconst 1 i_La_law_523 (by decide) ?_
      refine jd_iadd i_La_law_524 ?_
      refine jd_sld rfl i_La_law_525 (fun v82 => ?_)
      refine jd_aload_n i_La_law_526 rfl ?_
      refine jd_callWI G_La_87 sc_La_count (fun _ e => c_La_count e) rfl ⟨Nat.le_of_ble_eq_true rfl, Nat.le_of_ble_eq_true rfl⟩ rfl (Nat.le_of_ble_eq_true rfl) i_La_law_527 (fun v84 h83 => ?_)
      refine jd_istore (fun x85 => [some (.retAddr b), some (.ref y1), some (.ref y2), some (.ref y3), some (.int y4), some (.int x85), none, none]) i_La_law_530 (Nat.le_of_ble_eq_true rfl) rfl (fun _ => rfl) (fun x85 => ?_)
      refine jd_aload_n i_La_law_532 rfl ?_
      refine jd_aload_nX i_La_law_533 rfl ?_
      refine jd_iload i_La_law_534 rfl ?_
      refine jd_iconst 1 i_La_law_536 (by decide) ?_
      refine jd_iadd i_La_law_537 ?_
      refine jd_sld rfl i_La_law_538 (fun v86 => ?_)
      refine jd_callVI G_La_90 in_Mo_count se_Mo_count rfl (fun _ e => c_Mo_count e) rfl ⟨Nat.le_of_ble_eq_true rfl, Nat.le_of_ble_eq_true rfl⟩ rfl (Nat.le_of_ble_eq_true rfl) i_La_law_539 (fun v88 h87 => ?_)
      refine jd_istore (fun x89 => [some (.retAddr b), some (.ref y1), some (.ref y2), some (.ref y3), some (.int y4), some (.int x85), some (.int x89), none]) i_La_law_542 (Nat.le_of_ble_eq_true rfl) rfl (fun _ => rfl) (fun x89 => ?_)
      refine jd_aload_n i_La_law_544 rfl ?_
      refine jd_callVI G_La_58 in_Mo_thrown se_Mo_thrown rfl (fun _ e => c_Mo_thrown e) rfl ⟨Nat.le_of_ble_eq_true rfl, Nat.le_of_ble_eq_true rfl⟩ rfl (Nat.le_of_ble_eq_true rfl) i_La_law_545 (fun v91 h90 => ?_)
      refine jd_iload i_La_law_548 rfl ?_
      refine jd_icmp_eq 555 i_La_law_550 (by decide) ?_ ?_
      · refine jd_iload i_La_law_555 rfl ?_
        refine jd_if_ne 572 i_La_law_557 (by decide) ?_ ?_
        · exact jd_less (t_La_law_572 k23) ⟨rfl, rfl, rfl, rfl, rfl, trivial⟩
        · refine jd_aload_n i_La_law_560 rfl ?_
          refine jd_iconst 0 i_La_law_561 (by decide) ?_
          refine jd_lald i_La_law_562 (fun v92 => ?_)
          refine jd_iload i_La_law_563 rfl ?_
          refine jd_i2l i_La_law_565 ?_
          refine jd_lcmp_eq 572 i_La_law_566 i_La_law_567 (by decide) ?_ ?_
          · exact jd_less (t_La_law_572 k23) ⟨rfl, rfl, rfl, rfl, rfl, trivial⟩
          · refine jd_iconst 0 i_La_law_570 (by decide) ?_
            exact jd_zreturn i_La_law_571 rfl
      · refine jd_iconst 0 i_La_law_553 (by decide) ?_
        exact jd_zreturn i_La_law_554 rfl
noncomputable def r_La_law_23 (L : Nat) (xs : Nat → Int32) : Nat → ja_H → Nat → Nat → Nat → Int32 → Option (Int32 × ja_H) := ja_lo (q_La_law_23 L xs) (fun _ _ _ _ _ => none)
theorem s_La_law_23 {b L : Nat} {xs : Nat → Int32} : ∀ (n : Nat) (h : ja_H) (y1 : Nat) (y2 : Nat) (y3 : Nat) (y4 : Int32), ja_D ja_gI (M_La_law b L xs) 23 [some (.retAddr b), some (.ref y1), some (.ref y2), some (.ref y3), some (.int y4), none, none, none] [] h (r_La_law_23 L xs n h y1 y2 y3 y4) := by
  intro n
  induction n with
  | zero => intro h y1 y2 y3 y4 o e; cases e
  | succ n ih => intro h y1 y2 y3 y4; exact t_La_law_23 ih
noncomputable def r_La_law (L : Nat) (xs : Nat → Int32) (h : ja_H) : Option (Int32 × ja_H) := (jw_O h 0 (fun a101 h102 => (jc_V (r_WJ_init h102 a101) (fun h103 => (jl (a101 : Nat) (fun (x104 : Nat) => (jw_O h103 9 (fun a105 h106 => (jc_V (r_Mo_init h106 a105) (fun h107 => (jl (a105 : Nat) (fun (x108 : Nat) => (jw_A h107 1 (1 : Int32) (fun a109 h110 => (jl (a109 : Nat) (fun (x111 : Nat) => (jl ((0 : Int32) : Int32) (fun (x112 : Int32) => (r_La_law_23 L xs ja_fu h110 x104 x108 x111 x112)))))))))))))))))))
theorem e_La_law {b L : Nat} {xs : Nat → Int32} {h : ja_H} : ja_D ja_gI (M_La_law b L xs) 0 [some (.retAddr b), none, none, none, none, none, none, none] [] h (r_La_law L xs h) := by
  unfold r_La_law
  refine jd_new N_La_8 i_La_law_0 (fun a101 h102 => ?_)
  refine jd_dupR i_La_law_3 ?_
  refine jd_callIV G_La_46 in_WJ_init rfl rfl (fun _ e => c_WJ_init e) rfl ⟨Nat.le_of_ble_eq_true rfl, Nat.le_of_ble_eq_true rfl⟩ rfl (Nat.le_of_ble_eq_true rfl) i_La_law_4 (fun h103 => ?_)
  refine jd_astore_n (fun x104 => [some (.retAddr b), some (.ref x104), none, none, none, none, none, none]) i_La_law_7 (Nat.le_of_ble_eq_true rfl) rfl (fun _ => rfl) (fun x104 => ?_)
  refine jd_new N_La_47 i_La_law_8 (fun a105 h106 => ?_)
  refine jd_dupR i_La_law_11 ?_
  refine jd_callIV G_La_49 in_Mo_init rfl rfl (fun _ e => c_Mo_init e) rfl ⟨Nat.le_of_ble_eq_true rfl, Nat.le_of_ble_eq_true rfl⟩ rfl (Nat.le_of_ble_eq_true rfl) i_La_law_12 (fun h107 => ?_)
  refine jd_astore_n (fun x108 => [some (.retAddr b), some (.ref x104), some (.ref x108), none, none, none, none, none]) i_La_law_15 (Nat.le_of_ble_eq_true rfl) rfl (fun _ => rfl) (fun x108 => ?_)
  refine jd_iconst 1 i_La_law_16 (by decide) ?_
  refine jd_newa 1 .long rfl (by decide) ac_long i_La_law_17 (fun a109 h110 => ?_)
  refine jd_astore_n (fun x111 => [some (.retAddr b), some (.ref x104), some (.ref x108), some (.ref x111), none, none, none, none]) i_La_law_19 (Nat.le_of_ble_eq_true rfl) rfl (fun _ => rfl) (fun x111 => ?_)
  refine jd_iconst 0 i_La_law_20 (by decide) ?_
  refine jd_istore (fun x112 => [some (.retAddr b), some (.ref x104), some (.ref x108), some (.ref x111), some (.int x112), none, none, none]) i_La_law_21 (Nat.le_of_ble_eq_true rfl) rfl (fun _ => rfl) (fun x112 => ?_)
  exact jd_less (s_La_law_23 ja_fu _ _ _ _ _) ⟨rfl, rfl, rfl, rfl, rfl, trivial⟩
