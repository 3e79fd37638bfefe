noncomputable def r_Mo_give (h : ja_H) (a0 : Nat) (a1 : Int32) (a2 : Int32) (a3 : Int32) (a4 : Int64) (a6 : Int64) : Option (ja_H) := (jf_R h a0 9 10 (fun a101 => (js_B h a101 ((a1 * (75 : Int32)) + a2) (Int8.toInt32 (Int32.toInt8 a3)) (fun h102 => (jf_R h102 a0 9 11 (fun a103 => (js_L h102 a103 ((a1 * (75 : Int32)) + a2) a4 (fun h104 => (jf_R h104 a0 9 12 (fun a105 => (js_L h104 a105 ((a1 * (75 : Int32)) + a2) a6 (fun h106 => (some h106)))))))))))))
theorem e_Mo_give {h : ja_H} {a0 : Nat} {a1 : Int32} {a2 : Int32} {a3 : Int32} {a4 : Int64} {a6 : Int64} : ja_D ja_gV M_Mo_give 0 [some (.ref a0), some (.int a1), some (.int a2), some (.int a3), some (.long a4), none, some (.long a6), none] [] h (r_Mo_give h a0 a1 a2 a3 a4 a6) := by
  unfold r_Mo_give
  refine jd_aload_n i_Mo_give_0 rfl ?_
  refine jd_getR F_Mo_29 i_Mo_give_1 (fun a101 => ?_)
  refine jd_iload_n i_Mo_give_4 rfl ?_
  refine jd_bipush 75 i_Mo_give_5 (by decide) ?_
  refine jd_imul i_Mo_give_7 ?_
  refine jd_iload_n i_Mo_give_8 rfl ?_
  refine jd_iadd i_Mo_give_9 ?_
  refine jd_iload_n i_Mo_give_10 rfl ?_
  refine jd_i2b i_Mo_give_11 ?_
  refine jd_bast i_Mo_give_12 (fun h102 => ?_)
  refine jd_aload_n i_Mo_give_13 rfl ?_
  refine jd_getR F_Mo_33 i_Mo_give_14 (fun a103 => ?_)
  refine jd_iload_n i_Mo_give_17 rfl ?_
  refine jd_bipush 75 i_Mo_give_18 (by decide) ?_
  refine jd_imul i_Mo_give_20 ?_
  refine jd_iload_n i_Mo_give_21 rfl ?_
  refine jd_iadd i_Mo_give_22 ?_
  refine jd_lload i_Mo_give_23 rfl ?_
  refine jd_last i_Mo_give_25 (fun h104 => ?_)
  refine jd_aload_n i_Mo_give_26 rfl ?_
  refine jd_getR F_Mo_36 i_Mo_give_27 (fun a105 => ?_)
  refine jd_iload_n i_Mo_give_30 rfl ?_
  refine jd_bipush 75 i_Mo_give_31 (by decide) ?_
  refine jd_imul i_Mo_give_33 ?_
  refine jd_iload_n i_Mo_give_34 rfl ?_
  refine jd_iadd i_Mo_give_35 ?_
  refine jd_lload i_Mo_give_36 rfl ?_
  refine jd_last i_Mo_give_38 (fun h106 => ?_)
  exact jd_return i_Mo_give_39 rfl
theorem c_Mo_give {h : ja_H} {a0 : Nat} {a1 : Int32} {a2 : Int32} {a3 : Int32} {a4 : Int64} {a6 : Int64} {o : ja_H} (e : r_Mo_give h a0 a1 a2 a3 a4 a6 = some o) : ja_M (0, 0) y_Mo_give b_Mo_give 8 (none) [.ref a0, .int a1, .int a2, .int a3, .long a4, .long a6] h [] o := jc_of (g := ja_gV) false _ e e_Mo_give rfl (by decide +kernel) (fun q => nomatch q) (Nat.le_of_ble_eq_true rfl) (fun _ q => nomatch q) (Nat.le_of_ble_eq_true rfl)
noncomputable def q_Mo_begin_25 (C25 : ja_H → Nat → Int32 → Option (ja_H)) (h : ja_H) (y0 : Nat) (y1 : Int32) : Option (ja_H) := (if (512 : Int32) ≤ y1 then (jk h y0 9 (jc_V (r_Mo_give h y0 (0 : Int32) (1 : Int32) (2 : Int32) (0 : Int64) (0 : Int64)) (fun h1 => (jk h1 y0 9 (jc_V (r_Mo_give h1 y0 (0 : Int32) (10 : Int32) (3 : Int32) (0 : Int64) (0 : Int64)) (fun h2 => (jf_R h2 y0 9 4 (fun a3 => (js_Z h2 a3 (0 : Int32) (1 : Int32) (fun h4 => (some h4))))))))))) else (jf_R h y0 9 13 (fun a5 => (js_Z h a5 y1 (0 : Int32) (fun h6 => (jl (y1 + 1 : Int32) (fun (x7 : Int32) => (C25 h6 y0 x7))))))))
theorem t_Mo_begin_25 {C25 : ja_H → Nat → Int32 → Option (ja_H)} (k25 : ∀ (h : ja_H) (y0 : Nat) (y1 : Int32), ja_D ja_gV M_Mo_begin 25 [some (.ref y0), some (.int y1)] [] h (C25 h y0 y1)) {h : ja_H} {y0 : Nat} {y1 : Int32} : ja_D ja_gV M_Mo_begin 25 [some (.ref y0), some (.int y1)] [] h (q_Mo_begin_25 C25 h y0 y1) := by
  unfold q_Mo_begin_25
  refine jd_iload_n i_Mo_begin_25 rfl ?_
  refine jd_sipush 512 i_Mo_begin_26 (by decide) ?_
  refine jd_icmp_ge 45 i_Mo_begin_29 (by decide) ?_ ?_
  · refine jd_aload_n i_Mo_begin_45 rfl ?_
    refine jd_iconst 0 i_Mo_begin_46 (by decide) ?_
    refine jd_iconst 1 i_Mo_begin_47 (by decide) ?_
    refine jd_iconst 2 i_Mo_begin_48 (by decide) ?_
    refine jd_lconst 0 i_Mo_begin_49 (by decide) ?_
    refine jd_lconst 0 i_Mo_begin_50 (by decide) ?_
    refine jd_callVV G_Mo_144 in_Mo_give se_Mo_give rfl (fun _ e => c_Mo_give e) rfl ⟨by decide, by decide⟩ rfl (Nat.le_of_ble_eq_true rfl) i_Mo_begin_51 (fun h1 => ?_)
    refine jd_aload_n i_Mo_begin_54 rfl ?_
    refine jd_iconst 0 i_Mo_begin_55 (by decide) ?_
    refine jd_bipush 10 i_Mo_begin_56 (by decide) ?_
    refine jd_iconst 3 i_Mo_begin_58 (by decide) ?_
    refine jd_lconst 0 i_Mo_begin_59 (by decide) ?_
    refine jd_lconst 0 i_Mo_begin_60 (by decide) ?_
    refine jd_callVV G_Mo_144 in_Mo_give se_Mo_give rfl (fun _ e => c_Mo_give e) rfl ⟨by decide, by decide⟩ rfl (Nat.le_of_ble_eq_true rfl) i_Mo_begin_61 (fun h2 => ?_)
    refine jd_aload_n i_Mo_begin_64 rfl ?_
    refine jd_getR F_Mo_17 i_Mo_begin_65 (fun a3 => ?_)
    refine jd_iconst 0 i_Mo_begin_68 (by decide) ?_
    refine jd_iconst 1 i_Mo_begin_69 (by decide) ?_
    refine jd_zast i_Mo_begin_70 (fun h4 => ?_)
    exact jd_return i_Mo_begin_71 rfl
  · refine jd_aload_n i_Mo_begin_32 rfl ?_
    refine jd_getR F_Mo_40 i_Mo_begin_33 (fun a5 => ?_)
    refine jd_iload_n i_Mo_begin_36 rfl ?_
    refine jd_iconst 0 i_Mo_begin_37 (by decide) ?_
    refine jd_zast i_Mo_begin_38 (fun h6 => ?_)
    refine jd_iinc (fun x7 => [some (.ref y0), some (.int x7)]) i_Mo_begin_39 rfl rfl (by decide) rfl (fun _ => rfl) (fun x7 => ?_)
    refine jd_goto 25 i_Mo_begin_42 (by decide) ?_
    exact jd_less (k25 _ _ _) ⟨rfl, rfl, trivial⟩
noncomputable def r_Mo_begin_25 : Nat → ja_H → Nat → Int32 → Option (ja_H) := ja_lo (q_Mo_begin_25) (fun _ _ _ => none)
theorem s_Mo_begin_25 : ∀ (n : Nat) (h : ja_H) (y0 : Nat) (y1 : Int32), ja_D ja_gV M_Mo_begin 25 [some (.ref y0), some (.int y1)] [] h (r_Mo_begin_25 n h y0 y1) := by
  intro n
  induction n with
  | zero => intro h y0 y1 o e; cases e
  | succ n ih => intro h y0 y1; exact t_Mo_begin_25 ih
noncomputable def q_Mo_begin_2 (C2 : ja_H → Nat → Int32 → Option (ja_H)) (h : ja_H) (y0 : Nat) (y1 : Int32) : Option (ja_H) := (if (75 : Int32) ≤ y1 then (jl ((0 : Int32) : Int32) (fun (x1 : Int32) => (r_Mo_begin_25 ja_fu h y0 x1))) else (jk h y0 9 (jc_V (r_Mo_give h y0 (0 : Int32) y1 (0 : Int32) (0 : Int64) (0 : Int64)) (fun h2 => (jl (y1 + 1 : Int32) (fun (x3 : Int32) => (C2 h2 y0 x3)))))))
theorem t_Mo_begin_2 {C2 : ja_H → Nat → Int32 → Option (ja_H)} (k2 : ∀ (h : ja_H) (y0 : Nat) (y1 : Int32), ja_D ja_gV M_Mo_begin 2 [some (.ref y0), some (.int y1)] [] h (C2 h y0 y1)) {h : ja_H} {y0 : Nat} {y1 : Int32} : ja_D ja_gV M_Mo_begin 2 [some (.ref y0), some (.int y1)] [] h (q_Mo_begin_2 C2 h y0 y1) := by
  unfold q_Mo_begin_2
  refine jd_iload_n i_Mo_begin_2 rfl ?_
  refine jd_bipush 75 i_Mo_begin_3 (by decide) ?_
  refine jd_icmp_ge 23 i_Mo_begin_5 (by decide) ?_ ?_
  · refine jd_iconst 0 i_Mo_begin_23 (by decide) ?_
    refine jd_istore_n (fun x1 => [some (.ref y0), some (.int x1)]) i_Mo_begin_24 (by decide) rfl (fun _ => rfl) (fun x1 => ?_)
    exact jd_less (s_Mo_begin_25 ja_fu _ _ _) ⟨rfl, rfl, trivial⟩
  · refine jd_aload_n i_Mo_begin_8 rfl ?_
    refine jd_iconst 0 i_Mo_begin_9 (by decide) ?_
    refine jd_iload_n i_Mo_begin_10 rfl ?_
    refine jd_iconst 0 i_Mo_begin_11 (by decide) ?_
    refine jd_lconst 0 i_Mo_begin_12 (by decide) ?_
    refine jd_lconst 0 i_Mo_begin_13 (by decide) ?_
    refine jd_callVV G_Mo_144 in_Mo_give se_Mo_give rfl (fun _ e => c_Mo_give e) rfl ⟨by decide, by decide⟩ rfl (Nat.le_of_ble_eq_true rfl) i_Mo_begin_14 (fun h2 => ?_)
    refine jd_iinc (fun x3 => [some (.ref y0), some (.int x3)]) i_Mo_begin_17 rfl rfl (by decide) rfl (fun _ => rfl) (fun x3 => ?_)
    refine jd_goto 2 i_Mo_begin_20 (by decide) ?_
    exact jd_less (k2 _ _ _) ⟨rfl, rfl, trivial⟩
noncomputable def r_Mo_begin_2 : Nat → ja_H → Nat → Int32 → Option (ja_H) := ja_lo (q_Mo_begin_2) (fun _ _ _ => none)
theorem s_Mo_begin_2 : ∀ (n : Nat) (h : ja_H) (y0 : Nat) (y1 : Int32), ja_D ja_gV M_Mo_begin 2 [some (.ref y0), some (.int y1)] [] h (r_Mo_begin_2 n h y0 y1) := by
  intro n
  induction n with
  | zero => intro h y0 y1 o e; cases e
  | succ n ih => intro h y0 y1; exact t_Mo_begin_2 ih
noncomputable def r_Mo_begin (h : ja_H) (a0 : Nat) : Option (ja_H) := (jl ((0 : Int32) : Int32) (fun (x101 : Int32) => (r_Mo_begin_2 ja_fu h a0 x101)))
theorem e_Mo_begin {h : ja_H} {a0 : Nat} : ja_D ja_gV M_Mo_begin 0 [some (.ref a0), none] [] h (r_Mo_begin h a0) := by
  unfold r_Mo_begin
  refine jd_iconst 0 i_Mo_begin_0 (by decide) ?_
  refine jd_istore_n (fun x101 => [some (.ref a0), some (.int x101)]) i_Mo_begin_1 (by decide) rfl (fun _ => rfl) (fun x101 => ?_)
  exact jd_less (s_Mo_begin_2 ja_fu _ _ _) ⟨rfl, rfl, trivial⟩
theorem c_Mo_begin {h : ja_H} {a0 : Nat} {o : ja_H} (e : r_Mo_begin h a0 = some o) : ja_M (1, 27) y_Mo_begin b_Mo_begin 2 (none) [.ref a0] h [] o := jc_of (g := ja_gV) false _ e e_Mo_begin rfl (by decide +kernel) (fun q => nomatch q) (Nat.le_of_ble_eq_true rfl) (fun _ q => nomatch q) (Nat.le_of_ble_eq_true rfl)
noncomputable def r_Mo_found (h : ja_H) (a0 : Nat) (a1 : Int32) (a2 : Int32) : Option (Int32 × ja_H) := (if a2 = (0 : Int32) then (jb (0 : Int32) (some ((0 : Int32), h))) else (jp_I h a0 9 6 a2 (fun h101 => (jp_I h101 a0 9 7 a1 (fun h102 => (jb (1 : Int32) (some ((1 : Int32), h102))))))))
theorem e_Mo_found {h : ja_H} {a0 : Nat} {a1 : Int32} {a2 : Int32} : ja_D ja_gI M_Mo_found 0 [some (.ref a0), some (.int a1), some (.int a2)] [] h (r_Mo_found h a0 a1 a2) := by
  unfold r_Mo_found
  refine jd_iload_n i_Mo_found_0 rfl ?_
  refine jd_if_ne 6 i_Mo_found_1 (by decide) ?_ ?_
  · refine jd_aload_n i_Mo_found_6 rfl ?_
    refine jd_iload_n i_Mo_found_7 rfl ?_
    refine jd_putI F_Mo_124 P_Mo_fault i_Mo_found_8 (fun h101 => ?_)
    refine jd_aload_n i_Mo_found_11 rfl ?_
    refine jd_iload_n i_Mo_found_12 rfl ?_
    refine jd_putI F_Mo_20 P_Mo_faultAt i_Mo_found_13 (fun h102 => ?_)
    refine jd_iconst 1 i_Mo_found_16 (by decide) ?_
    exact jd_zreturn i_Mo_found_17 rfl
  · refine jd_iconst 0 i_Mo_found_4 (by decide) ?_
    exact jd_zreturn i_Mo_found_5 rfl
theorem c_Mo_found {h : ja_H} {a0 : Nat} {a1 : Int32} {a2 : Int32} {o : Int32 × ja_H} (e : r_Mo_found h a0 a1 a2 = some o) : ja_M (0, 0) y_Mo_found b_Mo_found 3 (some .boolean) [.ref a0, .int a1, .int a2] h [.int o.1] o.2 := jc_of (g := ja_gI) false _ e e_Mo_found rfl (by decide +kernel) (fun q => nomatch q) (Nat.le_of_ble_eq_true rfl) (fun _ q => nomatch q) (Nat.le_of_ble_eq_true rfl)
noncomputable def r_Mo_is (h : ja_H) (a0 : Nat) (a1 : Int32) (a2 : Int32) : Option (Int32 × ja_H) := (jf_R h a0 9 10 (fun a101 => (je_I h a101 3 ((a1 * (75 : Int32)) + a2) (fun v102 => (some (v102, h))))))
theorem e_Mo_is {h : ja_H} {a0 : Nat} {a1 : Int32} {a2 : Int32} : ja_D ja_gI M_Mo_is 0 [some (.ref a0), some (.int a1), some (.int a2)] [] h (r_Mo_is h a0 a1 a2) := by
  unfold r_Mo_is
  refine jd_aload_n i_Mo_is_0 rfl ?_
  refine jd_getR F_Mo_29 i_Mo_is_1 (fun a101 => ?_)
  refine jd_iload_n i_Mo_is_4 rfl ?_
  refine jd_bipush 75 i_Mo_is_5 (by decide) ?_
  refine jd_imul i_Mo_is_7 ?_
  refine jd_iload_n i_Mo_is_8 rfl ?_
  refine jd_iadd i_Mo_is_9 ?_
  refine jd_bald i_Mo_is_10 (fun v102 => ?_)
  exact jd_ireturn i_Mo_is_11 rfl
theorem c_Mo_is {h : ja_H} {a0 : Nat} {a1 : Int32} {a2 : Int32} {o : Int32 × ja_H} (e : r_Mo_is h a0 a1 a2 = some o) : ja_M (0, 0) y_Mo_is b_Mo_is 3 (some .int) [.ref a0, .int a1, .int a2] h [.int o.1] o.2 := jc_of (g := ja_gI) false _ e e_Mo_is rfl (by decide +kernel) (fun q => nomatch q) (Nat.le_of_ble_eq_true rfl) (fun _ q => nomatch q) (Nat.le_of_ble_eq_true rfl)
noncomputable def r_Mo_least (h : ja_H) (a0 : Nat) (a1 : Int32) (a2 : Int32) : Option (Int64 × ja_H) := (jf_R h a0 9 11 (fun a101 => (je_L h a101 ((a1 * (75 : Int32)) + a2) (fun v102 => (some (v102, h))))))
theorem e_Mo_least {h : ja_H} {a0 : Nat} {a1 : Int32} {a2 : Int32} : ja_D ja_gL M_Mo_least 0 [some (.ref a0), some (.int a1), some (.int a2)] [] h (r_Mo_least h a0 a1 a2) := by
  unfold r_Mo_least
  refine jd_aload_n i_Mo_least_0 rfl ?_
  refine jd_getR F_Mo_33 i_Mo_least_1 (fun a101 => ?_)
  refine jd_iload_n i_Mo_least_4 rfl ?_
  refine jd_bipush 75 i_Mo_least_5 (by decide) ?_
  refine jd_imul i_Mo_least_7 ?_
  refine jd_iload_n i_Mo_least_8 rfl ?_
  refine jd_iadd i_Mo_least_9 ?_
  refine jd_lald i_Mo_least_10 (fun v102 => ?_)
  exact jd_lreturn i_Mo_least_11 rfl
theorem c_Mo_least {h : ja_H} {a0 : Nat} {a1 : Int32} {a2 : Int32} {o : Int64 × ja_H} (e : r_Mo_least h a0 a1 a2 = some o) : ja_M (0, 0) y_Mo_least b_Mo_least 3 (some .long) [.ref a0, .int a1, .int a2] h [.long o.1] o.2 := jc_of (g := ja_gL) false _ e e_Mo_least rfl (by decide +kernel) (fun q => nomatch q) (Nat.le_of_ble_eq_true rfl) (fun _ q => nomatch q) (Nat.le_of_ble_eq_true rfl)
noncomputable def r_Mo_most (h : ja_H) (a0 : Nat) (a1 : Int32) (a2 : Int32) : Option (Int64 × ja_H) := (jf_R h a0 9 12 (fun a101 => (je_L h a101 ((a1 * (75 : Int32)) + a2) (fun v102 => (some (v102, h))))))
theorem e_Mo_most {h : ja_H} {a0 : Nat} {a1 : Int32} {a2 : Int32} : ja_D ja_gL M_Mo_most 0 [some (.ref a0), some (.int a1), some (.int a2)] [] h (r_Mo_most h a0 a1 a2) := by
  unfold r_Mo_most
  refine jd_aload_n i_Mo_most_0 rfl ?_
  refine jd_getR F_Mo_36 i_Mo_most_1 (fun a101 => ?_)
  refine jd_iload_n i_Mo_most_4 rfl ?_
  refine jd_bipush 75 i_Mo_most_5 (by decide) ?_
  refine jd_imul i_Mo_most_7 ?_
  refine jd_iload_n i_Mo_most_8 rfl ?_
  refine jd_iadd i_Mo_most_9 ?_
  refine jd_lald i_Mo_most_10 (fun v102 => ?_)
  exact jd_lreturn i_Mo_most_11 rfl
theorem c_Mo_most {h : ja_H} {a0 : Nat} {a1 : Int32} {a2 : Int32} {o : Int64 × ja_H} (e : r_Mo_most h a0 a1 a2 = some o) : ja_M (0, 0) y_Mo_most b_Mo_most 3 (some .long) [.ref a0, .int a1, .int a2] h [.long o.1] o.2 := jc_of (g := ja_gL) false _ e e_Mo_most rfl (by decide +kernel) (fun q => nomatch q) (Nat.le_of_ble_eq_true rfl) (fun _ q => nomatch q) (Nat.le_of_ble_eq_true rfl)
noncomputable def q_Mo_copy_40 (C40 : ja_H → Nat → Int32 → Int32 → Int32 → Option (ja_H)) (h : ja_H) (y0 : Nat) (y1 : Int32) (y2 : Int32) (y3 : Int32) : Option (ja_H) := (if (512 : Int32) ≤ y3 then (some h) else (jf_R h y0 9 13 (fun a1 => (jf_R h y0 9 13 (fun a2 => (je_I h a2 2 ((y1 * (512 : Int32)) + y3) (fun v3 => (js_Z h a1 ((y2 * (512 : Int32)) + y3) v3 (fun h4 => (jl (y3 + 1 : Int32) (fun (x5 : Int32) => (C40 h4 y0 y1 y2 x5))))))))))))
theorem t_Mo_copy_40 {C40 : ja_H → Nat → Int32 → Int32 → Int32 → Option (ja_H)} (k40 : ∀ (h : ja_H) (y0 : Nat) (y1 : Int32) (y2 : Int32) (y3 : Int32), ja_D ja_gV M_Mo_copy 40 [some (.ref y0), some (.int y1), some (.int y2), some (.int y3)] [] h (C40 h y0 y1 y2 y3)) {h : ja_H} {y0 : Nat} {y1 : Int32} {y2 : Int32} {y3 : Int32} : ja_D ja_gV M_Mo_copy 40 [some (.ref y0), some (.int y1), some (.int y2), some (.int y3)] [] h (q_Mo_copy_40 C40 h y0 y1 y2 y3) := by
  unfold q_Mo_copy_40
  refine jd_iload_n i_Mo_copy_40 rfl ?_
  refine jd_sipush 512 i_Mo_copy_41 (by decide) ?_
  refine jd_icmp_ge 77 i_Mo_copy_44 (by decide) ?_ ?_
  · exact jd_return i_Mo_copy_77 rfl
  · refine jd_aload_n i_Mo_copy_47 rfl ?_
    refine jd_getR F_Mo_40 i_Mo_copy_48 (fun a1 => ?_)
    refine jd_iload_n i_Mo_copy_51 rfl ?_
    refine jd_sipush 512 i_Mo_copy_52 (by decide) ?_
    refine jd_imul i_Mo_copy_55 ?_
    refine jd_iload_n i_Mo_copy_56 rfl ?_
    refine jd_iadd i_Mo_copy_57 ?_
    refine jd_aload_n i_Mo_copy_58 rfl ?_
    refine jd_getR F_Mo_40 i_Mo_copy_59 (fun a2 => ?_)
    refine jd_iload_n i_Mo_copy_62 rfl ?_
    refine jd_sipush 512 i_Mo_copy_63 (by decide) ?_
    refine jd_imul i_Mo_copy_66 ?_
    refine jd_iload_n i_Mo_copy_67 rfl ?_
    refine jd_iadd i_Mo_copy_68 ?_
    refine jd_zald i_Mo_copy_69 (fun v3 => ?_)
    refine jd_zast i_Mo_copy_70 (fun h4 => ?_)
    refine jd_iinc (fun x5 => [some (.ref y0), some (.int y1), some (.int y2), some (.int x5)]) i_Mo_copy_71 rfl rfl (by decide) rfl (fun _ => rfl) (fun x5 => ?_)
    refine jd_goto 40 i_Mo_copy_74 (by decide) ?_
    exact jd_less (k40 _ _ _ _ _) ⟨rfl, rfl, rfl, rfl, trivial⟩
noncomputable def r_Mo_copy_40 : Nat → ja_H → Nat → Int32 → Int32 → Int32 → Option (ja_H) := ja_lo (q_Mo_copy_40) (fun _ _ _ _ _ => none)
theorem s_Mo_copy_40 : ∀ (n : Nat) (h : ja_H) (y0 : Nat) (y1 : Int32) (y2 : Int32) (y3 : Int32), ja_D ja_gV M_Mo_copy 40 [some (.ref y0), some (.int y1), some (.int y2), some (.int y3)] [] h (r_Mo_copy_40 n h y0 y1 y2 y3) := by
  intro n
  induction n with
  | zero => intro h y0 y1 y2 y3 o e; cases e
  | succ n ih => intro h y0 y1 y2 y3; exact t_Mo_copy_40 ih
noncomputable def q_Mo_copy_2 (C2 : ja_H → Nat → Int32 → Int32 → Int32 → Option (ja_H)) (h : ja_H) (y0 : Nat) (y1 : Int32) (y2 : Int32) (y3 : Int32) : Option (ja_H) := (if (75 : Int32) ≤ y3 then (jl ((0 : Int32) : Int32) (fun (x1 : Int32) => (r_Mo_copy_40 ja_fu h y0 y1 y2 x1))) else (jk h y0 9 (jc_I (r_Mo_is h y0 y1 y3) (fun v3 h2 => (jk h2 y0 9 (jc_L (r_Mo_least h2 y0 y1 y3) (fun v5 h4 => (jk h4 y0 9 (jc_L (r_Mo_most h4 y0 y1 y3) (fun v7 h6 => (jk h6 y0 9 (jc_V (r_Mo_give h6 y0 y2 y3 v3 v5 v7) (fun h8 => (jl (y3 + 1 : Int32) (fun (x9 : Int32) => (C2 h8 y0 y1 y2 x9))))))))))))))))
theorem t_Mo_copy_2 {C2 : ja_H → Nat → Int32 → Int32 → Int32 → Option (ja_H)} (k2 : ∀ (h : ja_H) (y0 : Nat) (y1 : Int32) (y2 : Int32) (y3 : Int32), ja_D ja_gV M_Mo_copy 2 [some (.ref y0), some (.int y1), some (.int y2), some (.int y3)] [] h (C2 h y0 y1 y2 y3)) {h : ja_H} {y0 : Nat} {y1 : Int32} {y2 : Int32} {y3 : Int32} : ja_D ja_gV M_Mo_copy 2 [some (.ref y0), some (.int y1), some (.int y2), some (.int y3)] [] h (q_Mo_copy_2 C2 h y0 y1 y2 y3) := by
  unfold q_Mo_copy_2
  refine jd_iload_n i_Mo_copy_2 rfl ?_
  refine jd_bipush 75 i_Mo_copy_3 (by decide) ?_
  refine jd_icmp_ge 38 i_Mo_copy_5 (by decide) ?_ ?_
  · refine jd_iconst 0 i_Mo_copy_38 (by decide) ?_
    refine jd_istore_n (fun x1 => [some (.ref y0), some (.int y1), some (.int y2), some (.int x1)]) i_Mo_copy_39 (by decide) rfl (fun _ => rfl) (fun x1 => ?_)
    exact jd_less (s_Mo_copy_40 ja_fu _ _ _ _ _) ⟨rfl, rfl, rfl, rfl, trivial⟩
  · refine jd_aload_n i_Mo_copy_8 rfl ?_
    refine jd_iload_n i_Mo_copy_9 rfl ?_
    refine jd_iload_n i_Mo_copy_10 rfl ?_
    refine jd_aload_n i_Mo_copy_11 rfl ?_
    refine jd_iload_n i_Mo_copy_12 rfl ?_
    refine jd_iload_n i_Mo_copy_13 rfl ?_
    refine jd_callVI G_Mo_140 in_Mo_is se_Mo_is rfl (fun _ e => c_Mo_is e) rfl ⟨by decide, by decide⟩ rfl (Nat.le_of_ble_eq_true rfl) i_Mo_copy_14 (fun v3 h2 => ?_)
    refine jd_aload_n i_Mo_copy_17 rfl ?_
    refine jd_iload_n i_Mo_copy_18 rfl ?_
    refine jd_iload_n i_Mo_copy_19 rfl ?_
    refine jd_callVL G_Mo_148 in_Mo_least se_Mo_least rfl (fun _ e => c_Mo_least e) rfl ⟨by decide, by decide⟩ rfl (Nat.le_of_ble_eq_true rfl) i_Mo_copy_20 (fun v5 h4 => ?_)
    refine jd_aload_n i_Mo_copy_23 rfl ?_
    refine jd_iload_n i_Mo_copy_24 rfl ?_
    refine jd_iload_n i_Mo_copy_25 rfl ?_
    refine jd_callVL G_Mo_152 in_Mo_most se_Mo_most rfl (fun _ e => c_Mo_most e) rfl ⟨by decide, by decide⟩ rfl (Nat.le_of_ble_eq_true rfl) i_Mo_copy_26 (fun v7 h6 => ?_)
    refine jd_callVV G_Mo_144 in_Mo_give se_Mo_give rfl (fun _ e => c_Mo_give e) rfl ⟨by decide, by decide⟩ rfl (Nat.le_of_ble_eq_true rfl) i_Mo_copy_29 (fun h8 => ?_)
    refine jd_iinc (fun x9 => [some (.ref y0), some (.int y1), some (.int y2), some (.int x9)]) i_Mo_copy_32 rfl rfl (by decide) rfl (fun _ => rfl) (fun x9 => ?_)
    refine jd_goto 2 i_Mo_copy_35 (by decide) ?_
    exact jd_less (k2 _ _ _ _ _) ⟨rfl, rfl, rfl, rfl, trivial⟩
noncomputable def r_Mo_copy_2 : Nat → ja_H → Nat → Int32 → Int32 → Int32 → Option (ja_H) := ja_lo (q_Mo_copy_2) (fun _ _ _ _ _ => none)
theorem s_Mo_copy_2 : ∀ (n : Nat) (h : ja_H) (y0 : Nat) (y1 : Int32) (y2 : Int32) (y3 : Int32), ja_D ja_gV M_Mo_copy 2 [some (.ref y0), some (.int y1), some (.int y2), some (.int y3)] [] h (r_Mo_copy_2 n h y0 y1 y2 y3) := by
  intro n
  induction n with
  | zero => intro h y0 y1 y2 y3 o e; cases e
  | succ n ih => intro h y0 y1 y2 y3; exact t_Mo_copy_2 ih
noncomputable def r_Mo_copy (h : ja_H) (a0 : Nat) (a1 : Int32) (a2 : Int32) : Option (ja_H) := (jl ((0 : Int32) : Int32) (fun (x101 : Int32) => (r_Mo_copy_2 ja_fu h a0 a1 a2 x101)))
theorem e_Mo_copy {h : ja_H} {a0 : Nat} {a1 : Int32} {a2 : Int32} : ja_D ja_gV M_Mo_copy 0 [some (.ref a0), some (.int a1), some (.int a2), none] [] h (r_Mo_copy h a0 a1 a2) := by
  unfold r_Mo_copy
  refine jd_iconst 0 i_Mo_copy_0 (by decide) ?_
  refine jd_istore_n (fun x101 => [some (.ref a0), some (.int a1), some (.int a2), some (.int x101)]) i_Mo_copy_1 (by decide) rfl (fun _ => rfl) (fun x101 => ?_)
  exact jd_less (s_Mo_copy_2 ja_fu _ _ _ _ _) ⟨rfl, rfl, rfl, rfl, trivial⟩
theorem c_Mo_copy {h : ja_H} {a0 : Nat} {a1 : Int32} {a2 : Int32} {o : ja_H} (e : r_Mo_copy h a0 a1 a2 = some o) : ja_M (1, 27) y_Mo_copy b_Mo_copy 4 (none) [.ref a0, .int a1, .int a2] h [] o := jc_of (g := ja_gV) false _ e e_Mo_copy rfl (by decide +kernel) (fun q => nomatch q) (Nat.le_of_ble_eq_true rfl) (fun _ q => nomatch q) (Nat.le_of_ble_eq_true rfl)
noncomputable def r_Mo_pointer_15 (h : ja_H) (z0 : Int32) : Option (Int32 × ja_H) := (jb z0 (some (z0, h)))
theorem t_Mo_pointer_15 {h : ja_H} {z0 : Int32} : ja_D ja_gI M_Mo_pointer 15 [none, none, none] [.int z0] h (r_Mo_pointer_15 h z0) := by
  unfold r_Mo_pointer_15
  exact jd_zreturn i_Mo_pointer_15 rfl
noncomputable def r_Mo_pointer (h : ja_H) (a0 : Nat) (a1 : Int32) (a2 : Int32) : Option (Int32 × ja_H) := (jk h a0 9 (jc_I (r_Mo_is h a0 a1 a2) (fun v102 h101 => (if v102 < (2 : Int32) then (r_Mo_pointer_15 h101 (0 : Int32)) else (r_Mo_pointer_15 h101 (1 : Int32))))))
theorem e_Mo_pointer {h : ja_H} {a0 : Nat} {a1 : Int32} {a2 : Int32} : ja_D ja_gI M_Mo_pointer 0 [some (.ref a0), some (.int a1), some (.int a2)] [] h (r_Mo_pointer h a0 a1 a2) := by
  unfold r_Mo_pointer
  refine jd_aload_n i_Mo_pointer_0 rfl ?_
  refine jd_iload_n i_Mo_pointer_1 rfl ?_
  refine jd_iload_n i_Mo_pointer_2 rfl ?_
  refine jd_callVI G_Mo_140 in_Mo_is se_Mo_is rfl (fun _ e => c_Mo_is e) rfl ⟨by decide, by decide⟩ rfl (Nat.le_of_ble_eq_true rfl) i_Mo_pointer_3 (fun v102 h101 => ?_)
  refine jd_iconst 2 i_Mo_pointer_6 (by decide) ?_
  refine jd_icmp_lt 14 i_Mo_pointer_7 (by decide) ?_ ?_
  · refine jd_iconst 0 i_Mo_pointer_14 (by decide) ?_
    exact jd_less (t_Mo_pointer_15) trivial
  · refine jd_iconst 1 i_Mo_pointer_10 (by decide) ?_
    refine jd_goto 15 i_Mo_pointer_11 (by decide) ?_
    exact jd_less (t_Mo_pointer_15) trivial
theorem c_Mo_pointer {h : ja_H} {a0 : Nat} {a1 : Int32} {a2 : Int32} {o : Int32 × ja_H} (e : r_Mo_pointer h a0 a1 a2 = some o) : ja_M (1, 22) y_Mo_pointer b_Mo_pointer 3 (some .boolean) [.ref a0, .int a1, .int a2] h [.int o.1] o.2 := jc_of (g := ja_gI) false _ e e_Mo_pointer rfl (by decide +kernel) (fun q => nomatch q) (Nat.le_of_ble_eq_true rfl) (fun _ q => nomatch q) (Nat.le_of_ble_eq_true rfl)
noncomputable def r_Mo_comes_243 (C67 : ja_H → Nat → Int32 → Int32 → Int32 → Option (ja_H)) (h : ja_H) (y0 : Nat) (y1 : Int32) (y2 : Int32) (y3 : Int32) : Option (ja_H) := (jl (y3 + 1 : Int32) (fun (x1 : Int32) => (C67 h y0 y1 y2 x1)))
theorem t_Mo_comes_243 {C67 : ja_H → Nat → Int32 → Int32 → Int32 → Option (ja_H)} (k67 : ∀ (h : ja_H) (y0 : Nat) (y1 : Int32) (y2 : Int32) (y3 : Int32), ja_D ja_gV M_Mo_comes 67 [some (.ref y0), some (.int y1), some (.int y2), some (.int y3), none, none, none] [] h (C67 h y0 y1 y2 y3)) {h : ja_H} {y0 : Nat} {y1 : Int32} {y2 : Int32} {y3 : Int32} : ja_D ja_gV M_Mo_comes 243 [some (.ref y0), some (.int y1), some (.int y2), some (.int y3), none, none, none] [] h (r_Mo_comes_243 C67 h y0 y1 y2 y3) := by
  unfold r_Mo_comes_243
  refine jd_iinc (fun x1 => [some (.ref y0), some (.int y1), some (.int y2), some (.int x1), none, none, none]) i_Mo_comes_243 rfl rfl (by decide) rfl (fun _ => rfl) (fun x1 => ?_)
  refine jd_goto 67 i_Mo_comes_246 (by decide) ?_
  exact jd_less (k67 _ _ _ _ _) ⟨rfl, rfl, rfl, rfl, trivial⟩
noncomputable def q_Mo_comes_167 (C67 : ja_H → Nat → Int32 → Int32 → Int32 → Option (ja_H)) (C167 : ja_H → Nat → Int32 → Int32 → Int32 → Int32 → Option (ja_H)) (h : ja_H) (y0 : Nat) (y1 : Int32) (y2 : Int32) (y3 : Int32) (y6 : Int32) : Option (ja_H) := (if (8 : Int32) ≤ y6 then (r_Mo_comes_243 C67 h y0 y1 y2 y3) else (jf_R h y0 9 13 (fun a1 => (js_Z h a1 (((y2 * (512 : Int32)) + ((8 : Int32) * (y3 - (11 : Int32)))) + y6) (0 : Int32) (fun h2 => (jl (y6 + 1 : Int32) (fun (x3 : Int32) => (C167 h2 y0 y1 y2 y3 x3))))))))
theorem t_Mo_comes_167 {C67 : ja_H → Nat → Int32 → Int32 → Int32 → Option (ja_H)} {C167 : ja_H → Nat → Int32 → Int32 → Int32 → Int32 → Option (ja_H)} (k67 : ∀ (h : ja_H) (y0 : Nat) (y1 : Int32) (y2 : Int32) (y3 : Int32), ja_D ja_gV M_Mo_comes 67 [some (.ref y0), some (.int y1), some (.int y2), some (.int y3), none, none, none] [] h (C67 h y0 y1 y2 y3)) (k167 : ∀ (h : ja_H) (y0 : Nat) (y1 : Int32) (y2 : Int32) (y3 : Int32) (y6 : Int32), ja_D ja_gV M_Mo_comes 167 [some (.ref y0), some (.int y1), some (.int y2), some (.int y3), none, none, some (.int y6)] [] h (C167 h y0 y1 y2 y3 y6)) {h : ja_H} {y0 : Nat} {y1 : Int32} {y2 : Int32} {y3 : Int32} {y6 : Int32} : ja_D ja_gV M_Mo_comes 167 [some (.ref y0), some (.int y1), some (.int y2), some (.int y3), none, none, some (.int y6)] [] h (q_Mo_comes_167 C67 C167 h y0 y1 y2 y3 y6) := by
  unfold q_Mo_comes_167
  refine jd_iload i_Mo_comes_167 rfl ?_
  refine jd_bipush 8 i_Mo_comes_169 (by decide) ?_
  refine jd_icmp_ge 202 i_Mo_comes_171 (by decide) ?_ ?_
  · refine jd_goto 243 i_Mo_comes_202 (by decide) ?_
    exact jd_less (t_Mo_comes_243 k67) ⟨rfl, rfl, rfl, rfl, trivial⟩
  · refine jd_aload_n i_Mo_comes_174 rfl ?_
    refine jd_getR F_Mo_40 i_Mo_comes_175 (fun a1 => ?_)
    refine jd_iload_n i_Mo_comes_178 rfl ?_
    refine jd_sipush 512 i_Mo_comes_179 (by decide) ?_
    refine jd_imul i_Mo_comes_182 ?_
    refine jd_bipush 8 i_Mo_comes_183 (by decide) ?_
    refine jd_iload_n i_Mo_comes_185 rfl ?_
    refine jd_bipush 11 i_Mo_comes_186 (by decide) ?_
    refine jd_isub i_Mo_comes_188 ?_
    refine jd_imul i_Mo_comes_189 ?_
    refine jd_iadd i_Mo_comes_190 ?_
    refine jd_iload i_Mo_comes_191 rfl ?_
    refine jd_iadd i_Mo_comes_193 ?_
    refine jd_iconst 0 i_Mo_comes_194 (by decide) ?_
    refine jd_zast i_Mo_comes_195 (fun h2 => ?_)
    refine jd_iinc (fun x3 => [some (.ref y0), some (.int y1), some (.int y2), some (.int y3), none, none, some (.int x3)]) i_Mo_comes_196 rfl rfl (by decide) rfl (fun _ => rfl) (fun x3 => ?_)
    refine jd_goto 167 i_Mo_comes_199 (by decide) ?_
    exact jd_less (k167 _ _ _ _ _ _) ⟨rfl, rfl, rfl, rfl, rfl, trivial⟩
noncomputable def r_Mo_comes_167 (C67 : ja_H → Nat → Int32 → Int32 → Int32 → Option (ja_H)) : Nat → ja_H → Nat → Int32 → Int32 → Int32 → Int32 → Option (ja_H) := ja_lo (q_Mo_comes_167 C67) (fun _ _ _ _ _ _ => none)
theorem s_Mo_comes_167 {C67 : ja_H → Nat → Int32 → Int32 → Int32 → Option (ja_H)} (k67 : ∀ (h : ja_H) (y0 : Nat) (y1 : Int32) (y2 : Int32) (y3 : Int32), ja_D ja_gV M_Mo_comes 67 [some (.ref y0), some (.int y1), some (.int y2), some (.int y3), none, none, none] [] h (C67 h y0 y1 y2 y3)) : ∀ (n : Nat) (h : ja_H) (y0 : Nat) (y1 : Int32) (y2 : Int32) (y3 : Int32) (y6 : Int32), ja_D ja_gV M_Mo_comes 167 [some (.ref y0), some (.int y1), some (.int y2), some (.int y3), none, none, some (.int y6)] [] h (r_Mo_comes_167 C67 n h y0 y1 y2 y3 y6) := by
  intro n
  induction n with
  | zero => intro h y0 y1 y2 y3 y6 o e; cases e
  | succ n ih => intro h y0 y1 y2 y3 y6; exact t_Mo_comes_167 k67 ih
noncomputable def r_Mo_comes_144 (C67 : ja_H → Nat → Int32 → Int32 → Int32 → Option (ja_H)) (h : ja_H) (y0 : Nat) (y1 : Int32) (y2 : Int32) (y3 : Int32) (y4 : Int32) : Option (ja_H) := (jk h y0 9 (jc_V (r_Mo_give h y0 y2 y3 (0 : Int32) (0 : Int64) (0 : Int64)) (fun h1 => (if y3 ≤ (10 : Int32) then (r_Mo_comes_243 C67 h1 y0 y1 y2 y3) else (if y4 = (0 : Int32) then (r_Mo_comes_243 C67 h1 y0 y1 y2 y3) else (jl ((0 : Int32) : Int32) (fun (x2 : Int32) => (r_Mo_comes_167 C67 ja_fu h1 y0 y1 y2 y3 x2))))))))
theorem t_Mo_comes_144 {C67 : ja_H → Nat → Int32 → Int32 → Int32 → Option (ja_H)} (k67 : ∀ (h : ja_H) (y0 : Nat) (y1 : Int32) (y2 : Int32) (y3 : Int32), ja_D ja_gV M_Mo_comes 67 [some (.ref y0), some (.int y1), some (.int y2), some (.int y3), none, none, none] [] h (C67 h y0 y1 y2 y3)) {h : ja_H} {y0 : Nat} {y1 : Int32} {y2 : Int32} {y3 : Int32} {y4 : Int32} : ja_D ja_gV M_Mo_comes 144 [some (.ref y0), some (.int y1), some (.int y2), some (.int y3), some (.int y4), none, none] [] h (r_Mo_comes_144 C67 h y0 y1 y2 y3 y4) := by
  unfold r_Mo_comes_144
  refine jd_aload_n i_Mo_comes_144 rfl ?_
  refine jd_iload_n i_Mo_comes_145 rfl ?_
  refine jd_iload_n i_Mo_comes_146 rfl ?_
  refine jd_iconst 0 i_Mo_comes_147 (by decide) ?_
  refine jd_lconst 0 i_Mo_comes_148 (by decide) ?_
  refine jd_lconst 0 i_Mo_comes_149 (by decide) ?_
  refine jd_callVV G_Mo_144 in_Mo_give se_Mo_give rfl (fun _ e => c_Mo_give e) rfl ⟨by decide, by decide⟩ rfl (Nat.le_of_ble_eq_true rfl) i_Mo_comes_150 (fun h1 => ?_)
  refine jd_iload_n i_Mo_comes_153 rfl ?_
  refine jd_bipush 10 i_Mo_comes_154 (by decide) ?_
  refine jd_icmp_le 243 i_Mo_comes_156 (by decide) ?_ ?_
  · exact jd_less (t_Mo_comes_243 k67) ⟨rfl, rfl, rfl, rfl, trivial⟩
  · refine jd_iload i_Mo_comes_159 rfl ?_
    refine jd_if_eq 243 i_Mo_comes_161 (by decide) ?_ ?_
    · exact jd_less (t_Mo_comes_243 k67) ⟨rfl, rfl, rfl, rfl, trivial⟩
    · refine jd_iconst 0 i_Mo_comes_164 (by decide) ?_
      refine jd_istore (fun x2 => [some (.ref y0), some (.int y1), some (.int y2), some (.int y3), some (.int y4), none, some (.int x2)]) i_Mo_comes_165 (by decide) rfl (fun _ => rfl) (fun x2 => ?_)
      exact jd_less (s_Mo_comes_167 k67 ja_fu _ _ _ _ _ _) ⟨rfl, rfl, rfl, rfl, rfl, trivial⟩
noncomputable def r_Mo_comes_139 (C67 : ja_H → Nat → Int32 → Int32 → Int32 → Option (ja_H)) (h : ja_H) (y0 : Nat) (y1 : Int32) (y2 : Int32) (y3 : Int32) (y4 : Int32) (y5 : Int32) : Option (ja_H) := (if y5 = (0 : Int32) then (r_Mo_comes_144 C67 h y0 y1 y2 y3 y4) else (jk h y0 9 (jc_L (r_Mo_least h y0 y2 y3) (fun v2 h1 => (jk h1 y0 9 (jc_L (r_Mo_least h1 y0 y1 y3) (fun v4 h3 => (jc_L (r_Mt_min_J h3 v2 v4) (fun v6 h5 => (jk h5 y0 9 (jc_L (r_Mo_most h5 y0 y2 y3) (fun v8 h7 => (jk h7 y0 9 (jc_L (r_Mo_most h7 y0 y1 y3) (fun v10 h9 => (jc_L (r_Mt_max_J h9 v8 v10) (fun v12 h11 => (jk h11 y0 9 (jc_V (r_Mo_give h11 y0 y2 y3 y5 v6 v12) (fun h13 => (r_Mo_comes_243 C67 h13 y0 y1 y2 y3)))))))))))))))))))))
theorem t_Mo_comes_139 {C67 : ja_H → Nat → Int32 → Int32 → Int32 → Option (ja_H)} (k67 : ∀ (h : ja_H) (y0 : Nat) (y1 : Int32) (y2 : Int32) (y3 : Int32), ja_D ja_gV M_Mo_comes 67 [some (.ref y0), some (.int y1), some (.int y2), some (.int y3), none, none, none] [] h (C67 h y0 y1 y2 y3)) {h : ja_H} {y0 : Nat} {y1 : Int32} {y2 : Int32} {y3 : Int32} {y4 : Int32} {y5 : Int32} : ja_D ja_gV M_Mo_comes 139 [some (.ref y0), some (.int y1), some (.int y2), some (.int y3), some (.int y4), some (.int y5), none] [] h (r_Mo_comes_139 C67 h y0 y1 y2 y3 y4 y5) := by
  unfold r_Mo_comes_139
  refine jd_iload i_Mo_comes_139 rfl ?_
  refine jd_if_ne 205 i_Mo_comes_141 (by decide) ?_ ?_
  · refine jd_aload_n i_Mo_comes_205 rfl ?_
    refine jd_iload_n i_Mo_comes_206 rfl ?_
    refine jd_iload_n i_Mo_comes_207 rfl ?_
    refine jd_iload i_Mo_comes_208 rfl ?_
    refine jd_aload_n i_Mo_comes_210 rfl ?_
    refine jd_iload_n i_Mo_comes_211 rfl ?_
    refine jd_iload_n i_Mo_comes_212 rfl ?_
    refine jd_callVL G_Mo_148 in_Mo_least se_Mo_least rfl (fun _ e => c_Mo_least e) rfl ⟨by decide, by decide⟩ rfl (Nat.le_of_ble_eq_true rfl) i_Mo_comes_213 (fun v2 h1 => ?_)
    refine jd_aload_n i_Mo_comes_216 rfl ?_
    refine jd_iload_n i_Mo_comes_217 rfl ?_
    refine jd_iload_n i_Mo_comes_218 rfl ?_
    refine jd_callVL G_Mo_148 in_Mo_least se_Mo_least rfl (fun _ e => c_Mo_least e) rfl ⟨by decide, by decide⟩ rfl (Nat.le_of_ble_eq_true rfl) i_Mo_comes_219 (fun v4 h3 => ?_)
    refine jd_callSL G_Mo_162 sc_Mt_min_J (fun _ e => c_Mt_min_J e) rfl ⟨by decide, by decide⟩ rfl (Nat.le_of_ble_eq_true rfl) i_Mo_comes_222 (fun v6 h5 => ?_)
    refine jd_aload_n i_Mo_comes_225 rfl ?_
    refine jd_iload_n i_Mo_comes_226 rfl ?_
    refine jd_iload_n i_Mo_comes_227 rfl ?_
    refine jd_callVL G_Mo_152 in_Mo_most se_Mo_most rfl (fun _ e => c_Mo_most e) rfl ⟨by decide, by decide⟩ rfl (Nat.le_of_ble_eq_true rfl) i_Mo_comes_228 (fun v8 h7 => ?_)
    refine jd_aload_n i_Mo_comes_231 rfl ?_
    refine jd_iload_n i_Mo_comes_232 rfl ?_
    refine jd_iload_n i_Mo_comes_233 rfl ?_
    refine jd_callVL G_Mo_152 in_Mo_most se_Mo_most rfl (fun _ e => c_Mo_most e) rfl ⟨by decide, by decide⟩ rfl (Nat.le_of_ble_eq_true rfl) i_Mo_comes_234 (fun v10 h9 => ?_)
    refine jd_callSL G_Mo_168 sc_Mt_max_J (fun _ e => c_Mt_max_J e) rfl ⟨by decide, by decide⟩ rfl (Nat.le_of_ble_eq_true rfl) i_Mo_comes_237 (fun v12 h11 => ?_)
    refine jd_callVV G_Mo_144 in_Mo_give se_Mo_give rfl (fun _ e => c_Mo_give e) rfl ⟨by decide, by decide⟩ rfl (Nat.le_of_ble_eq_true rfl) i_Mo_comes_240 (fun h13 => ?_)
    exact jd_less (t_Mo_comes_243 k67) ⟨rfl, rfl, rfl, rfl, trivial⟩
  · exact jd_less (t_Mo_comes_144 k67) ⟨rfl, rfl, rfl, rfl, rfl, trivial⟩
noncomputable def r_Mo_comes_96 (C67 : ja_H → Nat → Int32 → Int32 → Int32 → Option (ja_H)) (h : ja_H) (y0 : Nat) (y1 : Int32) (y2 : Int32) (y3 : Int32) (z0 : Int32) : Option (ja_H) := (jl (z0 : Int32) (fun (x1 : Int32) => (jk h y0 9 (jc_I (r_Mo_is h y0 y2 y3) (fun v3 h2 => (jl (v3 : Int32) (fun (x4 : Int32) => (jk h2 y0 9 (jc_I (r_Mo_is h2 y0 y1 y3) (fun v6 h5 => (if x4 = v6 then (if x4 = (3 : Int32) then (jk h5 y0 9 (jc_L (r_Mo_least h5 y0 y2 y3) (fun v8 h7 => (jk h7 y0 9 (jc_L (r_Mo_least h7 y0 y1 y3) (fun v10 h9 => (if v8 = v10 then (r_Mo_comes_139 C67 h9 y0 y1 y2 y3 x1 x4) else (r_Mo_comes_144 C67 h9 y0 y1 y2 y3 x1)))))))) else (r_Mo_comes_139 C67 h5 y0 y1 y2 y3 x1 x4)) else (r_Mo_comes_144 C67 h5 y0 y1 y2 y3 x1))))))))))))
theorem t_Mo_comes_96 {C67 : ja_H → Nat → Int32 → Int32 → Int32 → Option (ja_H)} (k67 : ∀ (h : ja_H) (y0 : Nat) (y1 : Int32) (y2 : Int32) (y3 : Int32), ja_D ja_gV M_Mo_comes 67 [some (.ref y0), some (.int y1), some (.int y2), some (.int y3), none, none, none] [] h (C67 h y0 y1 y2 y3)) {h : ja_H} {y0 : Nat} {y1 : Int32} {y2 : Int32} {y3 : Int32} {z0 : Int32} : ja_D ja_gV M_Mo_comes 96 [some (.ref y0), some (.int y1), some (.int y2), some (.int y3), none, none, none] [.int z0] h (r_Mo_comes_96 C67 h y0 y1 y2 y3 z0) := by
  unfold r_Mo_comes_96
  refine jd_istore (fun x1 => [some (.ref y0), some (.int y1), some (.int y2), some (.int y3), some (.int x1), none, none]) i_Mo_comes_96 (by decide) rfl (fun _ => rfl) (fun x1 => ?_)
  refine jd_aload_n i_Mo_comes_98 rfl ?_
  refine jd_iload_n i_Mo_comes_99 rfl ?_
  refine jd_iload_n i_Mo_comes_100 rfl ?_
  refine jd_callVI G_Mo_140 in_Mo_is se_Mo_is rfl (fun _ e => c_Mo_is e) rfl ⟨by decide, by decide⟩ rfl (Nat.le_of_ble_eq_true rfl) i_Mo_comes_101 (fun v3 h2 => ?_)
  refine jd_istore (fun x4 => [some (.ref y0), some (.int y1), some (.int y2), some (.int y3), some (.int x1), some (.int x4), none]) i_Mo_comes_104 (by decide) rfl (fun _ => rfl) (fun x4 => ?_)
  refine jd_iload i_Mo_comes_106 rfl ?_
  refine jd_aload_n i_Mo_comes_108 rfl ?_
  refine jd_iload_n i_Mo_comes_109 rfl ?_
  refine jd_iload_n i_Mo_comes_110 rfl ?_
  refine jd_callVI G_Mo_140 in_Mo_is se_Mo_is rfl (fun _ e => c_Mo_is e) rfl ⟨by decide, by decide⟩ rfl (Nat.le_of_ble_eq_true rfl) i_Mo_comes_111 (fun v6 h5 => ?_)
  refine jd_icmp_ne 144 i_Mo_comes_114 (by decide) ?_ ?_
  · exact jd_less (t_Mo_comes_144 k67) ⟨rfl, rfl, rfl, rfl, rfl, trivial⟩
  · refine jd_iload i_Mo_comes_117 rfl ?_
    refine jd_iconst 3 i_Mo_comes_119 (by decide) ?_
    refine jd_icmp_ne 139 i_Mo_comes_120 (by decide) ?_ ?_
    · exact jd_less (t_Mo_comes_139 k67) ⟨rfl, rfl, rfl, rfl, rfl, rfl, trivial⟩
    · refine jd_aload_n i_Mo_comes_123 rfl ?_
      refine jd_iload_n i_Mo_comes_124 rfl ?_
      refine jd_iload_n i_Mo_comes_125 rfl ?_
      refine jd_callVL G_Mo_148 in_Mo_least se_Mo_least rfl (fun _ e => c_Mo_least e) rfl ⟨by decide, by decide⟩ rfl (Nat.le_of_ble_eq_true rfl) i_Mo_comes_126 (fun v8 h7 => ?_)
      refine jd_aload_n i_Mo_comes_129 rfl ?_
      refine jd_iload_n i_Mo_comes_130 rfl ?_
      refine jd_iload_n i_Mo_comes_131 rfl ?_
      refine jd_callVL G_Mo_148 in_Mo_least se_Mo_least rfl (fun _ e => c_Mo_least e) rfl ⟨by decide, by decide⟩ rfl (Nat.le_of_ble_eq_true rfl) i_Mo_comes_132 (fun v10 h9 => ?_)
      refine jd_lcmp_ne 144 i_Mo_comes_135 i_Mo_comes_136 (by decide) ?_ ?_
      · exact jd_less (t_Mo_comes_144 k67) ⟨rfl, rfl, rfl, rfl, rfl, trivial⟩
      · exact jd_less (t_Mo_comes_139 k67) ⟨rfl, rfl, rfl, rfl, rfl, rfl, trivial⟩
noncomputable def r_Mo_comes_91 (C67 : ja_H → Nat → Int32 → Int32 → Int32 → Option (ja_H)) (h : ja_H) (y0 : Nat) (y1 : Int32) (y2 : Int32) (y3 : Int32) : Option (ja_H) := (r_Mo_comes_96 C67 h y0 y1 y2 y3 (1 : Int32))
theorem t_Mo_comes_91 {C67 : ja_H → Nat → Int32 → Int32 → Int32 → Option (ja_H)} (k67 : ∀ (h : ja_H) (y0 : Nat) (y1 : Int32) (y2 : Int32) (y3 : Int32), ja_D ja_gV M_Mo_comes 67 [some (.ref y0), some (.int y1), some (.int y2), some (.int y3), none, none, none] [] h (C67 h y0 y1 y2 y3)) {h : ja_H} {y0 : Nat} {y1 : Int32} {y2 : Int32} {y3 : Int32} : ja_D ja_gV M_Mo_comes 91 [some (.ref y0), some (.int y1), some (.int y2), some (.int y3), none, none, none] [] h (r_Mo_comes_91 C67 h y0 y1 y2 y3) := by
  unfold r_Mo_comes_91
  refine jd_iconst 1 i_Mo_comes_91 (by decide) ?_
  refine jd_goto 96 i_Mo_comes_92 (by decide) ?_
  exact jd_less (t_Mo_comes_96 k67) ⟨rfl, rfl, rfl, rfl, trivial⟩
noncomputable def q_Mo_comes_67 (C67 : ja_H → Nat → Int32 → Int32 → Int32 → Option (ja_H)) (h : ja_H) (y0 : Nat) (y1 : Int32) (y2 : Int32) (y3 : Int32) : Option (ja_H) := (if (75 : Int32) ≤ y3 then (some h) else (jk h y0 9 (jc_I (r_Mo_pointer h y0 y2 y3) (fun v2 h1 => (if v2 = (0 : Int32) then (jk h1 y0 9 (jc_I (r_Mo_pointer h1 y0 y1 y3) (fun v4 h3 => (if v4 = (0 : Int32) then (r_Mo_comes_96 C67 h3 y0 y1 y2 y3 (0 : Int32)) else (r_Mo_comes_91 C67 h3 y0 y1 y2 y3))))) else (r_Mo_comes_91 C67 h1 y0 y1 y2 y3))))))
theorem t_Mo_comes_67 {C67 : ja_H → Nat → Int32 → Int32 → Int32 → Option (ja_H)} (k67 : ∀ (h : ja_H) (y0 : Nat) (y1 : Int32) (y2 : Int32) (y3 : Int32), ja_D ja_gV M_Mo_comes 67 [some (.ref y0), some (.int y1), some (.int y2), some (.int y3), none, none, none] [] h (C67 h y0 y1 y2 y3)) {h : ja_H} {y0 : Nat} {y1 : Int32} {y2 : Int32} {y3 : Int32} : ja_D ja_gV M_Mo_comes 67 [some (.ref y0), some (.int y1), some (.int y2), some (.int y3), none, none, none] [] h (q_Mo_comes_67 C67 h y0 y1 y2 y3) := by
  unfold q_Mo_comes_67
  refine jd_iload_n i_Mo_comes_67 rfl ?_
  refine jd_bipush 75 i_Mo_comes_68 (by decide) ?_
  refine jd_icmp_ge 249 i_Mo_comes_70 (by decide) ?_ ?_
  · exact jd_return i_Mo_comes_249 rfl
  · refine jd_aload_n i_Mo_comes_73 rfl ?_
    refine jd_iload_n i_Mo_comes_74 rfl ?_
    refine jd_iload_n i_Mo_comes_75 rfl ?_
    refine jd_callVI G_Mo_159 in_Mo_pointer se_Mo_pointer rfl (fun _ e => c_Mo_pointer e) rfl ⟨by decide, by decide⟩ rfl (Nat.le_of_ble_eq_true rfl) i_Mo_comes_76 (fun v2 h1 => ?_)
    refine jd_if_ne 91 i_Mo_comes_79 (by decide) ?_ ?_
    · exact jd_less (t_Mo_comes_91 k67) ⟨rfl, rfl, rfl, rfl, trivial⟩
    · refine jd_aload_n i_Mo_comes_82 rfl ?_
      refine jd_iload_n i_Mo_comes_83 rfl ?_
      refine jd_iload_n i_Mo_comes_84 rfl ?_
      refine jd_callVI G_Mo_159 in_Mo_pointer se_Mo_pointer rfl (fun _ e => c_Mo_pointer e) rfl ⟨by decide, by decide⟩ rfl (Nat.le_of_ble_eq_true rfl) i_Mo_comes_85 (fun v4 h3 => ?_)
      refine jd_if_eq 95 i_Mo_comes_88 (by decide) ?_ ?_
      · refine jd_iconst 0 i_Mo_comes_95 (by decide) ?_
        exact jd_less (t_Mo_comes_96 k67) ⟨rfl, rfl, rfl, rfl, trivial⟩
      · exact jd_less (t_Mo_comes_91 k67) ⟨rfl, rfl, rfl, rfl, trivial⟩
noncomputable def r_Mo_comes_67 : Nat → ja_H → Nat → Int32 → Int32 → Int32 → Option (ja_H) := ja_lo (q_Mo_comes_67) (fun _ _ _ _ _ => none)
theorem s_Mo_comes_67 : ∀ (n : Nat) (h : ja_H) (y0 : Nat) (y1 : Int32) (y2 : Int32) (y3 : Int32), ja_D ja_gV M_Mo_comes 67 [some (.ref y0), some (.int y1), some (.int y2), some (.int y3), none, none, none] [] h (r_Mo_comes_67 n h y0 y1 y2 y3) := by
  intro n
  induction n with
  | zero => intro h y0 y1 y2 y3 o e; cases e
  | succ n ih => intro h y0 y1 y2 y3; exact t_Mo_comes_67 ih
noncomputable def q_Mo_comes_25 (C25 : ja_H → Nat → Int32 → Int32 → Int32 → Option (ja_H)) (h : ja_H) (y0 : Nat) (y1 : Int32) (y2 : Int32) (y3 : Int32) : Option (ja_H) := (if (512 : Int32) ≤ y3 then (jl ((0 : Int32) : Int32) (fun (x1 : Int32) => (r_Mo_comes_67 ja_fu h y0 y1 y2 x1))) else (jf_R h y0 9 13 (fun a2 => (je_I h a2 2 ((y2 * (512 : Int32)) + y3) (fun v3 => (jf_R h y0 9 13 (fun a4 => (je_I h a4 2 ((y1 * (512 : Int32)) + y3) (fun v5 => (js_Z h a2 ((y2 * (512 : Int32)) + y3) (v3 &&& v5) (fun h6 => (jl (y3 + 1 : Int32) (fun (x7 : Int32) => (C25 h6 y0 y1 y2 x7))))))))))))))
theorem t_Mo_comes_25 {C25 : ja_H → Nat → Int32 → Int32 → Int32 → Option (ja_H)} (k25 : ∀ (h : ja_H) (y0 : Nat) (y1 : Int32) (y2 : Int32) (y3 : Int32), ja_D ja_gV M_Mo_comes 25 [some (.ref y0), some (.int y1), some (.int y2), some (.int y3), none, none, none] [] h (C25 h y0 y1 y2 y3)) {h : ja_H} {y0 : Nat} {y1 : Int32} {y2 : Int32} {y3 : Int32} : ja_D ja_gV M_Mo_comes 25 [some (.ref y0), some (.int y1), some (.int y2), some (.int y3), none, none, none] [] h (q_Mo_comes_25 C25 h y0 y1 y2 y3) := by
  unfold q_Mo_comes_25
  refine jd_iload_n i_Mo_comes_25 rfl ?_
  refine jd_sipush 512 i_Mo_comes_26 (by decide) ?_
  refine jd_icmp_ge 65 i_Mo_comes_29 (by decide) ?_ ?_
  · refine jd_iconst 0 i_Mo_comes_65 (by decide) ?_
    refine jd_istore_n (fun x1 => [some (.ref y0), some (.int y1), some (.int y2), some (.int x1), none, none, none]) i_Mo_comes_66 (by decide) rfl (fun _ => rfl) (fun x1 => ?_)
    exact jd_less (s_Mo_comes_67 ja_fu _ _ _ _ _) ⟨rfl, rfl, rfl, rfl, trivial⟩
  · refine jd_aload_n i_Mo_comes_32 rfl ?_
    refine jd_getR F_Mo_40 i_Mo_comes_33 (fun a2 => ?_)
    refine jd_iload_n i_Mo_comes_36 rfl ?_
    refine jd_sipush 512 i_Mo_comes_37 (by decide) ?_
    refine jd_imul i_Mo_comes_40 ?_
    refine jd_iload_n i_Mo_comes_41 rfl ?_
    refine jd_iadd i_Mo_comes_42 ?_
    refine jd_dup2 i_Mo_comes_43 ?_
    refine jd_zald i_Mo_comes_44 (fun v3 => ?_)
    refine jd_aload_n i_Mo_comes_45 rfl ?_
    refine jd_getR F_Mo_40 i_Mo_comes_46 (fun a4 => ?_)
    refine jd_iload_n i_Mo_comes_49 rfl ?_
    refine jd_sipush 512 i_Mo_comes_50 (by decide) ?_
    refine jd_imul i_Mo_comes_53 ?_
    refine jd_iload_n i_Mo_comes_54 rfl ?_
    refine jd_iadd i_Mo_comes_55 ?_
    refine jd_zald i_Mo_comes_56 (fun v5 => ?_)
    refine jd_iand i_Mo_comes_57 ?_
    refine jd_zast i_Mo_comes_58 (fun h6 => ?_)
    refine jd_iinc (fun x7 => [some (.ref y0), some (.int y1), some (.int y2), some (.int x7), none, none, none]) i_Mo_comes_59 rfl rfl (by decide) rfl (fun _ => rfl) (fun x7 => ?_)
    refine jd_goto 25 i_Mo_comes_62 (by decide) ?_
    exact jd_less (k25 _ _ _ _ _) ⟨rfl, rfl, rfl, rfl, trivial⟩
noncomputable def r_Mo_comes_25 : Nat → ja_H → Nat → Int32 → Int32 → Int32 → Option (ja_H) := ja_lo (q_Mo_comes_25) (fun _ _ _ _ _ => none)
theorem s_Mo_comes_25 : ∀ (n : Nat) (h : ja_H) (y0 : Nat) (y1 : Int32) (y2 : Int32) (y3 : Int32), ja_D ja_gV M_Mo_comes 25 [some (.ref y0), some (.int y1), some (.int y2), some (.int y3), none, none, none] [] h (r_Mo_comes_25 n h y0 y1 y2 y3) := by
  intro n
  induction n with
  | zero => intro h y0 y1 y2 y3 o e; cases e
  | succ n ih => intro h y0 y1 y2 y3; exact t_Mo_comes_25 ih
noncomputable def r_Mo_comes (h : ja_H) (a0 : Nat) (a1 : Int32) (a2 : Int32) : Option (ja_H) := (jf_R h a0 9 4 (fun a101 => (je_I h a101 2 a2 (fun v102 => (if v102 = (0 : Int32) then (jf_R h a0 9 4 (fun a104 => (js_Z h a104 a2 (1 : Int32) (fun h105 => (jk h105 a0 9 (jc_V (r_Mo_copy h105 a0 a1 a2) (fun h106 => (some h106)))))))) else (jl ((0 : Int32) : Int32) (fun (x103 : Int32) => (r_Mo_comes_25 ja_fu h a0 a1 a2 x103))))))))
theorem e_Mo_comes {h : ja_H} {a0 : Nat} {a1 : Int32} {a2 : Int32} : ja_D ja_gV M_Mo_comes 0 [some (.ref a0), some (.int a1), some (.int a2), none, none, none, none] [] h (r_Mo_comes h a0 a1 a2) := by
  unfold r_Mo_comes
  refine jd_aload_n i_Mo_comes_0 rfl ?_
  refine jd_getR F_Mo_17 i_Mo_comes_1 (fun a101 => ?_)
  refine jd_iload_n i_Mo_comes_4 rfl ?_
  refine jd_zald i_Mo_comes_5 (fun v102 => ?_)
  refine jd_if_ne 23 i_Mo_comes_6 (by decide) ?_ ?_
  · refine jd_iconst 0 i_Mo_comes_23 (by decide) ?_
    refine jd_istore_n (fun x103 => [some (.ref a0), some (.int a1), some (.int a2), some (.int x103), none, none, none]) i_Mo_comes_24 (by decide) rfl (fun _ => rfl) (fun x103 => ?_)
    exact jd_less (s_Mo_comes_25 ja_fu _ _ _ _ _) ⟨rfl, rfl, rfl, rfl, trivial⟩
  · refine jd_aload_n i_Mo_comes_9 rfl ?_
    refine jd_getR F_Mo_17 i_Mo_comes_10 (fun a104 => ?_)
    refine jd_iload_n i_Mo_comes_13 rfl ?_
    refine jd_iconst 1 i_Mo_comes_14 (by decide) ?_
    refine jd_zast i_Mo_comes_15 (fun h105 => ?_)
    refine jd_aload_n i_Mo_comes_16 rfl ?_
    refine jd_iload_n i_Mo_comes_17 rfl ?_
    refine jd_iload_n i_Mo_comes_18 rfl ?_
    refine jd_callVV G_Mo_155 in_Mo_copy se_Mo_copy rfl (fun _ e => c_Mo_copy e) rfl ⟨by decide, by decide⟩ rfl (Nat.le_of_ble_eq_true rfl) i_Mo_comes_19 (fun h106 => ?_)
    exact jd_return i_Mo_comes_22 rfl
theorem c_Mo_comes {h : ja_H} {a0 : Nat} {a1 : Int32} {a2 : Int32} {o : ja_H} (e : r_Mo_comes h a0 a1 a2 = some o) : ja_M (2, 50) y_Mo_comes b_Mo_comes 7 (none) [.ref a0, .int a1, .int a2] h [] o := jc_of (g := ja_gV) false _ e e_Mo_comes rfl (by decide +kernel) (fun q => nomatch q) (Nat.le_of_ble_eq_true rfl) (fun _ q => nomatch q) (Nat.le_of_ble_eq_true rfl)
noncomputable def r_Mo_access_123 (h : ja_H) (z0 : Int32) : Option (Int32 × ja_H) := (some (z0, h))
theorem t_Mo_access_123 {h : ja_H} {z0 : Int32} : ja_D ja_gI M_Mo_access 123 [none, none, none, none, none, none, none, none, none, none] [.int z0] h (r_Mo_access_123 h z0) := by
  unfold r_Mo_access_123
  exact jd_ireturn i_Mo_access_123 rfl
noncomputable def r_Mo_access_117 (h : ja_H) : Option (Int32 × ja_H) := (r_Mo_access_123 h (11 : Int32))
theorem t_Mo_access_117 {h : ja_H} : ja_D ja_gI M_Mo_access 117 [none, none, none, none, none, none, none, none, none, none] [] h (r_Mo_access_117 h) := by
  unfold r_Mo_access_117
  refine jd_bipush 11 i_Mo_access_117 (by decide) ?_
  refine jd_goto 123 i_Mo_access_119 (by decide) ?_
  exact jd_less (t_Mo_access_123) trivial
noncomputable def r_Mo_access_100 (h : ja_H) (z0 : Int32) : Option (Int32 × ja_H) := (some (z0, h))
theorem t_Mo_access_100 {h : ja_H} {z0 : Int32} : ja_D ja_gI M_Mo_access 100 [none, none, none, none, none, none, none, none, none, none] [.int z0] h (r_Mo_access_100 h z0) := by
  unfold r_Mo_access_100
  exact jd_ireturn i_Mo_access_100 rfl
noncomputable def r_Mo_access_94 (h : ja_H) : Option (Int32 × ja_H) := (r_Mo_access_100 h (11 : Int32))
theorem t_Mo_access_94 {h : ja_H} : ja_D ja_gI M_Mo_access 94 [none, none, none, none, none, none, none, none, none, none] [] h (r_Mo_access_94 h) := by
  unfold r_Mo_access_94
  refine jd_bipush 11 i_Mo_access_94 (by decide) ?_
  refine jd_goto 100 i_Mo_access_96 (by decide) ?_
  exact jd_less (t_Mo_access_100) trivial
noncomputable def r_Mo_access (h : ja_H) (a0 : Nat) (a1 : Int32) (a2 : Int32) (a3 : Int32) : Option (Int32 × ja_H) := (jk h a0 9 (jc_I (r_Mo_is h a0 a1 a2) (fun v102 h101 => (jl (v102 : Int32) (fun (x103 : Int32) => (jk h101 a0 9 (jc_I (r_Mo_op h101 a0 a1) (fun v105 h104 => (jc_I (r_Mo_size h104 v105) (fun v107 h106 => (jl (v107 : Int32) (fun (x108 : Int32) => (jk h106 a0 9 (jc_L (r_Mo_least h106 a0 a1 a2) (fun v110 h109 => (jk h109 a0 9 (jc_I (r_Mo_off h109 a0 a1) (fun v112 h111 => (jl ((v110 + (Int32.toInt64 v112)) : Int64) (fun (x113 : Int64) => (jk h111 a0 9 (jc_L (r_Mo_most h111 a0 a1 a2) (fun v115 h114 => (jk h114 a0 9 (jc_I (r_Mo_off h114 a0 a1) (fun v117 h116 => (jl (((v115 + (Int32.toInt64 v117)) + (Int32.toInt64 x108)) : Int64) (fun (x118 : Int64) => (if x103 = (1 : Int32) then (some ((9 : Int32), h116)) else (if x103 = (2 : Int32) then (if a3 = (0 : Int32) then (if x113 < (0 : Int64) then (r_Mo_access_94 h116) else (jf_I h116 a0 9 9 (fun v119 => (if x118 ≤ (Int32.toInt64 v119) then (r_Mo_access_100 h116 (0 : Int32)) else (r_Mo_access_94 h116))))) else (r_Mo_access_100 h116 (10 : Int32))) else (if x113 < (-512 : Int64) then (r_Mo_access_117 h116) else (if x118 ≤ (0 : Int64) then (r_Mo_access_123 h116 (0 : Int32)) else (r_Mo_access_117 h116)))))))))))))))))))))))))))))))))
theorem e_Mo_access {h : ja_H} {a0 : Nat} {a1 : Int32} {a2 : Int32} {a3 : Int32} : ja_D ja_gI M_Mo_access 0 [some (.ref a0), some (.int a1), some (.int a2), some (.int a3), none, none, none, none, none, none] [] h (r_Mo_access h a0 a1 a2 a3) := by
  unfold r_Mo_access
  refine jd_aload_n i_Mo_access_0 rfl ?_
  refine jd_iload_n i_Mo_access_1 rfl ?_
  refine jd_iload_n i_Mo_access_2 rfl ?_
  refine jd_callVI G_Mo_140 in_Mo_is se_Mo_is rfl (fun _ e => c_Mo_is e) rfl ⟨by decide, by decide⟩ rfl (Nat.le_of_ble_eq_true rfl) i_Mo_access_3 (fun v102 h101 => ?_)
  refine jd_istore (fun x103 => [some (.ref a0), some (.int a1), some (.int a2), some (.int a3), some (.int x103), none, none, none, none, none]) i_Mo_access_6 (by decide) rfl (fun _ => rfl) (fun x103 => ?_)
  refine jd_aload_n i_Mo_access_8 rfl ?_
  refine jd_iload_n i_Mo_access_9 rfl ?_
  refine jd_callVI G_Mo_78 in_Mo_op se_Mo_op rfl (fun _ e => c_Mo_op e) rfl ⟨by decide, by decide⟩ rfl (Nat.le_of_ble_eq_true rfl) i_Mo_access_10 (fun v105 h104 => ?_)
  refine jd_callSI G_Mo_247 sc_Mo_size (fun _ e => c_Mo_size e) rfl ⟨by decide, by decide⟩ rfl (Nat.le_of_ble_eq_true rfl) i_Mo_access_13 (fun v107 h106 => ?_)
  refine jd_istore (fun x108 => [some (.ref a0), some (.int a1), some (.int a2), some (.int a3), some (.int x103), some (.int x108), none, none, none, none]) i_Mo_access_16 (by decide) rfl (fun _ => rfl) (fun x108 => ?_)
  refine jd_aload_n i_Mo_access_18 rfl ?_
  refine jd_iload_n i_Mo_access_19 rfl ?_
  refine jd_iload_n i_Mo_access_20 rfl ?_
  refine jd_callVL G_Mo_148 in_Mo_least se_Mo_least rfl (fun _ e => c_Mo_least e) rfl ⟨by decide, by decide⟩ rfl (Nat.le_of_ble_eq_true rfl) i_Mo_access_21 (fun v110 h109 => ?_)
  refine jd_aload_n i_Mo_access_24 rfl ?_
  refine jd_iload_n i_Mo_access_25 rfl ?_
  refine jd_callVI G_Mo_119 in_Mo_off se_Mo_off rfl (fun _ e => c_Mo_off e) rfl ⟨by decide, by decide⟩ rfl (Nat.le_of_ble_eq_true rfl) i_Mo_access_26 (fun v112 h111 => ?_)
  refine jd_i2l i_Mo_access_29 ?_
  refine jd_ladd i_Mo_access_30 ?_
  refine jd_lstore (fun x113 => [some (.ref a0), some (.int a1), some (.int a2), some (.int a3), some (.int x103), some (.int x108), some (.long x113), none, none, none]) i_Mo_access_31 (by decide) rfl (fun _ => rfl) (fun x113 => ?_)
  refine jd_aload_n i_Mo_access_33 rfl ?_
  refine jd_iload_n i_Mo_access_34 rfl ?_
  refine jd_iload_n i_Mo_access_35 rfl ?_
  refine jd_callVL G_Mo_152 in_Mo_most se_Mo_most rfl (fun _ e => c_Mo_most e) rfl ⟨by decide, by decide⟩ rfl (Nat.le_of_ble_eq_true rfl) i_Mo_access_36 (fun v115 h114 => ?_)
  refine jd_aload_n i_Mo_access_39 rfl ?_
  refine jd_iload_n i_Mo_access_40 rfl ?_
  refine jd_callVI G_Mo_119 in_Mo_off se_Mo_off rfl (fun _ e => c_Mo_off e) rfl ⟨by decide, by decide⟩ rfl (Nat.le_of_ble_eq_true rfl) i_Mo_access_41 (fun v117 h116 => ?_)
  refine jd_i2l i_Mo_access_44 ?_
  refine jd_ladd i_Mo_access_45 ?_
  refine jd_iload i_Mo_access_46 rfl ?_
  refine jd_i2l i_Mo_access_48 ?_
  refine jd_ladd i_Mo_access_49 ?_
  refine jd_lstore (fun x118 => [some (.ref a0), some (.int a1), some (.int a2), some (.int a3), some (.int x103), some (.int x108), some (.long x113), none, some (.long x118), none]) i_Mo_access_50 (by decide) rfl (fun _ => rfl) (fun x118 => ?_)
  refine jd_iload i_Mo_access_52 rfl ?_
  refine jd_iconst 1 i_Mo_access_54 (by decide) ?_
  refine jd_icmp_ne 61 i_Mo_access_55 (by decide) ?_ ?_
  · refine jd_iload i_Mo_access_61 rfl ?_
    refine jd_iconst 2 i_Mo_access_63 (by decide) ?_
    refine jd_icmp_ne 101 i_Mo_access_64 (by decide) ?_ ?_
    · refine jd_lload i_Mo_access_101 rfl ?_
      refine jd_ldc2 i_Mo_access_103 K_Mo_250 ?_
      refine jd_lcmp_lt 117 i_Mo_access_106 i_Mo_access_107 (by decide) ?_ ?_
      · exact jd_less (t_Mo_access_117) trivial
      · refine jd_lload i_Mo_access_110 rfl ?_
        refine jd_lconst 0 i_Mo_access_112 (by decide) ?_
        refine jd_lcmp_le 122 i_Mo_access_113 i_Mo_access_114 (by decide) ?_ ?_
        · refine jd_iconst 0 i_Mo_access_122 (by decide) ?_
          exact jd_less (t_Mo_access_123) trivial
        · exact jd_less (t_Mo_access_117) trivial
    · refine jd_iload_n i_Mo_access_67 rfl ?_
      refine jd_if_eq 76 i_Mo_access_68 (by decide) ?_ ?_
      · refine jd_lload i_Mo_access_76 rfl ?_
        refine jd_lconst 0 i_Mo_access_78 (by decide) ?_
        refine jd_lcmp_lt 94 i_Mo_access_79 i_Mo_access_80 (by decide) ?_ ?_
        · exact jd_less (t_Mo_access_94) trivial
        · refine jd_lload i_Mo_access_83 rfl ?_
          refine jd_aload_n i_Mo_access_85 rfl ?_
          refine jd_getI F_Mo_75 i_Mo_access_86 (fun v119 => ?_)
          refine jd_i2l i_Mo_access_89 ?_
          refine jd_lcmp_le 99 i_Mo_access_90 i_Mo_access_91 (by decide) ?_ ?_
          · refine jd_iconst 0 i_Mo_access_99 (by decide) ?_
            exact jd_less (t_Mo_access_100) trivial
          · exact jd_less (t_Mo_access_94) trivial
      · refine jd_bipush 10 i_Mo_access_71 (by decide) ?_
        refine jd_goto 100 i_Mo_access_73 (by decide) ?_
        exact jd_less (t_Mo_access_100) trivial
  · refine jd_bipush 9 i_Mo_access_58 (by decide) ?_
    exact jd_ireturn i_Mo_access_60 rfl
theorem c_Mo_access {h : ja_H} {a0 : Nat} {a1 : Int32} {a2 : Int32} {a3 : Int32} {o : Int32 × ja_H} (e : r_Mo_access h a0 a1 a2 a3 = some o) : ja_M (1, 22) y_Mo_access b_Mo_access 10 (some .int) [.ref a0, .int a1, .int a2, .int a3] h [.int o.1] o.2 := jc_of (g := ja_gI) false _ e e_Mo_access rfl (by decide +kernel) (fun q => nomatch q) (Nat.le_of_ble_eq_true rfl) (fun _ q => nomatch q) (Nat.le_of_ble_eq_true rfl)
noncomputable def r_Mo_read_234 (h : ja_H) : Option (Int32 × ja_H) := (some ((12 : Int32), h))
theorem t_Mo_read_234 {h : ja_H} : ja_D ja_gI M_Mo_read 234 [none, none, none, none, none, none, none, none, none, none, none, none] [] h (r_Mo_read_234 h) := by
  unfold r_Mo_read_234
  refine jd_bipush 12 i_Mo_read_234 (by decide) ?_
  exact jd_ireturn i_Mo_read_236 rfl
noncomputable def q_Mo_read_192 (C192 : ja_H → Nat → Int32 → Int32 → Int64 → Int64 → Int32 → Int32 → Option (Int32 × ja_H)) (h : ja_H) (y0 : Nat) (y1 : Int32) (y4 : Int32) (y5 : Int64) (y7 : Int64) (y9 : Int32) (y11 : Int32) : Option (Int32 × ja_H) := (if (y9 + y4) ≤ y11 then (jk h y0 9 (jc_I (r_Mo_d h y0 y1) (fun v2 h1 => (jk h1 y0 9 (jc_V (r_Mo_give h1 y0 (1024 : Int32) v2 (1 : Int32) y7 y5) (fun h3 => (some ((0 : Int32), h3)))))))) else (jz_I (8 : Int32) (jk h y0 9 (jc_I (r_Mo_pointer h y0 y1 ((11 : Int32) + (y11 / (8 : Int32)))) (fun v5 h4 => (if v5 = (0 : Int32) then (jf_R h4 y0 9 13 (fun a6 => (je_I h4 a6 2 ((y1 * (512 : Int32)) + y11) (fun v7 => (if v7 = (0 : Int32) then (r_Mo_read_234 h4) else (jl (y11 + 1 : Int32) (fun (x8 : Int32) => (C192 h4 y0 y1 y4 y5 y7 y9 x8)))))))) else (r_Mo_read_234 h4)))))))
theorem t_Mo_read_192 {C192 : ja_H → Nat → Int32 → Int32 → Int64 → Int64 → Int32 → Int32 → Option (Int32 × ja_H)} (k192 : ∀ (h : ja_H) (y0 : Nat) (y1 : Int32) (y4 : Int32) (y5 : Int64) (y7 : Int64) (y9 : Int32) (y11 : Int32), ja_D ja_gI M_Mo_read 192 [some (.ref y0), some (.int y1), none, none, some (.int y4), some (.long y5), none, some (.long y7), none, some (.int y9), none, some (.int y11)] [] h (C192 h y0 y1 y4 y5 y7 y9 y11)) {h : ja_H} {y0 : Nat} {y1 : Int32} {y4 : Int32} {y5 : Int64} {y7 : Int64} {y9 : Int32} {y11 : Int32} : ja_D ja_gI M_Mo_read 192 [some (.ref y0), some (.int y1), none, none, some (.int y4), some (.long y5), none, some (.long y7), none, some (.int y9), none, some (.int y11)] [] h (q_Mo_read_192 C192 h y0 y1 y4 y5 y7 y9 y11) := by
  unfold q_Mo_read_192
  refine jd_iload i_Mo_read_192 rfl ?_
  refine jd_iload i_Mo_read_194 rfl ?_
  refine jd_iload i_Mo_read_196 rfl ?_
  refine jd_iadd i_Mo_read_198 ?_
  refine jd_icmp_ge 243 i_Mo_read_199 (by decide) ?_ ?_
  · refine jd_aload_n i_Mo_read_243 rfl ?_
    refine jd_sipush 1024 i_Mo_read_244 (by decide) ?_
    refine jd_aload_n i_Mo_read_247 rfl ?_
    refine jd_iload_n i_Mo_read_248 rfl ?_
    refine jd_callVI G_Mo_107 in_Mo_d se_Mo_d rfl (fun _ e => c_Mo_d e) rfl ⟨by decide, by decide⟩ rfl (Nat.le_of_ble_eq_true rfl) i_Mo_read_249 (fun v2 h1 => ?_)
    refine jd_iconst 1 i_Mo_read_252 (by decide) ?_
    refine jd_lload i_Mo_read_253 rfl ?_
    refine jd_lload i_Mo_read_255 rfl ?_
    refine jd_callVV G_Mo_144 in_Mo_give se_Mo_give rfl (fun _ e => c_Mo_give e) rfl ⟨by decide, by decide⟩ rfl (Nat.le_of_ble_eq_true rfl) i_Mo_read_257 (fun h3 => ?_)
    refine jd_iconst 0 i_Mo_read_260 (by decide) ?_
    exact jd_ireturn i_Mo_read_261 rfl
  · refine jd_aload_n i_Mo_read_202 rfl ?_
    refine jd_iload_n i_Mo_read_203 rfl ?_
    refine jd_bipush 11 i_Mo_read_204 (by decide) ?_
    refine jd_iload i_Mo_read_206 rfl ?_
    refine jd_bipush 8 i_Mo_read_208 (by decide) ?_
    refine jd_idiv i_Mo_read_210 ?_
    refine jd_iadd i_Mo_read_211 ?_
    refine jd_callVI G_Mo_159 in_Mo_pointer se_Mo_pointer rfl (fun _ e => c_Mo_pointer e) rfl ⟨by decide, by decide⟩ rfl (Nat.le_of_ble_eq_true rfl) i_Mo_read_212 (fun v5 h4 => ?_)
    refine jd_if_ne 234 i_Mo_read_215 (by decide) ?_ ?_
    · exact jd_less (t_Mo_read_234) trivial
    · refine jd_aload_n i_Mo_read_218 rfl ?_
      refine jd_getR F_Mo_40 i_Mo_read_219 (fun a6 => ?_)
      refine jd_iload_n i_Mo_read_222 rfl ?_
      refine jd_sipush 512 i_Mo_read_223 (by decide) ?_
      refine jd_imul i_Mo_read_226 ?_
      refine jd_iload i_Mo_read_227 rfl ?_
      refine jd_iadd i_Mo_read_229 ?_
      refine jd_zald i_Mo_read_230 (fun v7 => ?_)
      refine jd_if_ne 237 i_Mo_read_231 (by decide) ?_ ?_
      · refine jd_iinc (fun x8 => [some (.ref y0), some (.int y1), none, none, some (.int y4), some (.long y5), none, some (.long y7), none, some (.int y9), none, some (.int x8)]) i_Mo_read_237 rfl rfl (by decide) rfl (fun _ => rfl) (fun x8 => ?_)
        refine jd_goto 192 i_Mo_read_240 (by decide) ?_
        exact jd_less (k192 _ _ _ _ _ _ _ _) ⟨rfl, rfl, rfl, rfl, rfl, rfl, rfl, trivial⟩
      · exact jd_less (t_Mo_read_234) trivial
noncomputable def r_Mo_read_192 : Nat → ja_H → Nat → Int32 → Int32 → Int64 → Int64 → Int32 → Int32 → Option (Int32 × ja_H) := ja_lo (q_Mo_read_192) (fun _ _ _ _ _ _ _ _ => none)
theorem s_Mo_read_192 : ∀ (n : Nat) (h : ja_H) (y0 : Nat) (y1 : Int32) (y4 : Int32) (y5 : Int64) (y7 : Int64) (y9 : Int32) (y11 : Int32), ja_D ja_gI M_Mo_read 192 [some (.ref y0), some (.int y1), none, none, some (.int y4), some (.long y5), none, some (.long y7), none, some (.int y9), none, some (.int y11)] [] h (r_Mo_read_192 n h y0 y1 y4 y5 y7 y9 y11) := by
  intro n
  induction n with
  | zero => intro h y0 y1 y4 y5 y7 y9 y11 o e; cases e
  | succ n ih => intro h y0 y1 y4 y5 y7 y9 y11; exact t_Mo_read_192 ih
noncomputable def r_Mo_read_188 (h : ja_H) (y0 : Nat) (y1 : Int32) (y4 : Int32) (y5 : Int64) (y7 : Int64) (y9 : Int32) : Option (Int32 × ja_H) := (jl (y9 : Int32) (fun (x1 : Int32) => (r_Mo_read_192 ja_fu h y0 y1 y4 y5 y7 y9 x1)))
theorem t_Mo_read_188 {h : ja_H} {y0 : Nat} {y1 : Int32} {y4 : Int32} {y5 : Int64} {y7 : Int64} {y9 : Int32} : ja_D ja_gI M_Mo_read 188 [some (.ref y0), some (.int y1), none, none, some (.int y4), some (.long y5), none, some (.long y7), none, some (.int y9), none, none] [] h (r_Mo_read_188 h y0 y1 y4 y5 y7 y9) := by
  unfold r_Mo_read_188
  refine jd_iload i_Mo_read_188 rfl ?_
  refine jd_istore (fun x1 => [some (.ref y0), some (.int y1), none, none, some (.int y4), some (.long y5), none, some (.long y7), none, some (.int y9), none, some (.int x1)]) i_Mo_read_190 (by decide) rfl (fun _ => rfl) (fun x1 => ?_)
  exact jd_less (s_Mo_read_192 ja_fu _ _ _ _ _ _ _ _) ⟨rfl, rfl, rfl, rfl, rfl, rfl, rfl, trivial⟩
noncomputable def r_Mo_read_68 (h : ja_H) (y0 : Nat) (y1 : Int32) (y2 : Int32) (y4 : Int32) (y5 : Int64) (z0 : Int64) : Option (Int32 × ja_H) := (jl (z0 : Int64) (fun (x1 : Int64) => (jk h y0 9 (jc_I (r_Mo_is h y0 y1 y2) (fun v3 h2 => (if v3 = (2 : Int32) then (jk h2 y0 9 (jc_I (r_Mo_d h2 y0 y1) (fun v22 h21 => (jk h21 y0 9 (jc_V (r_Mo_give h21 y0 (1024 : Int32) v22 (1 : Int32) x1 y5) (fun h23 => (some ((0 : Int32), h23)))))))) else (jk h2 y0 9 (jc_L (r_Mo_least h2 y0 y1 y2) (fun v5 h4 => (jk h4 y0 9 (jc_I (r_Mo_off h4 y0 y1) (fun v7 h6 => (jl ((((Int64.toInt32 v5) + v7) + (512 : Int32)) : Int32) (fun (x8 : Int32) => (jz_I (8 : Int32) (jl (((11 : Int32) + (x8 / (8 : Int32))) : Int32) (fun (x9 : Int32) => (if y4 = (8 : Int32) then (jz_I (8 : Int32) (if (x8 - x8 / (8 : Int32) * (8 : Int32)) = (0 : Int32) then (jk h6 y0 9 (jc_I (r_Mo_is h6 y0 y1 x9) (fun v11 h10 => (if v11 = (0 : Int32) then (r_Mo_read_188 h10 y0 y1 y4 y5 x1 x8) else (jk h10 y0 9 (jc_I (r_Mo_d h10 y0 y1) (fun v13 h12 => (jk h12 y0 9 (jc_I (r_Mo_is h12 y0 y1 x9) (fun v15 h14 => (jk h14 y0 9 (jc_L (r_Mo_least h14 y0 y1 x9) (fun v17 h16 => (jk h16 y0 9 (jc_L (r_Mo_most h16 y0 y1 x9) (fun v19 h18 => (jk h18 y0 9 (jc_V (r_Mo_give h18 y0 (1024 : Int32) v13 v15 v17 v19) (fun h20 => (some ((0 : Int32), h20))))))))))))))))))))) else (r_Mo_read_188 h6 y0 y1 y4 y5 x1 x8))) else (r_Mo_read_188 h6 y0 y1 y4 y5 x1 x8)))))))))))))))))))
theorem t_Mo_read_68 {h : ja_H} {y0 : Nat} {y1 : Int32} {y2 : Int32} {y4 : Int32} {y5 : Int64} {z0 : Int64} : ja_D ja_gI M_Mo_read 68 [some (.ref y0), some (.int y1), some (.int y2), none, some (.int y4), some (.long y5), none, none, none, none, none, none] [.long z0] h (r_Mo_read_68 h y0 y1 y2 y4 y5 z0) := by
  unfold r_Mo_read_68
  refine jd_lstore (fun x1 => [some (.ref y0), some (.int y1), some (.int y2), none, some (.int y4), some (.long y5), none, some (.long x1), none, none, none, none]) i_Mo_read_68 (by decide) rfl (fun _ => rfl) (fun x1 => ?_)
  refine jd_aload_n i_Mo_read_70 rfl ?_
  refine jd_iload_n i_Mo_read_71 rfl ?_
  refine jd_iload_n i_Mo_read_72 rfl ?_
  refine jd_callVI G_Mo_140 in_Mo_is se_Mo_is rfl (fun _ e => c_Mo_is e) rfl ⟨by decide, by decide⟩ rfl (Nat.le_of_ble_eq_true rfl) i_Mo_read_73 (fun v3 h2 => ?_)
  refine jd_iconst 2 i_Mo_read_76 (by decide) ?_
  refine jd_icmp_ne 99 i_Mo_read_77 (by decide) ?_ ?_
  · refine jd_aload_n i_Mo_read_99 rfl ?_
    refine jd_iload_n i_Mo_read_100 rfl ?_
    refine jd_iload_n i_Mo_read_101 rfl ?_
    refine jd_callVL G_Mo_148 in_Mo_least se_Mo_least rfl (fun _ e => c_Mo_least e) rfl ⟨by decide, by decide⟩ rfl (Nat.le_of_ble_eq_true rfl) i_Mo_read_102 (fun v5 h4 => ?_)
    refine jd_l2i i_Mo_read_105 ?_
    refine jd_aload_n i_Mo_read_106 rfl ?_
    refine jd_iload_n i_Mo_read_107 rfl ?_
    refine jd_callVI G_Mo_119 in_Mo_off se_Mo_off rfl (fun _ e => c_Mo_off e) rfl ⟨by decide, by decide⟩ rfl (Nat.le_of_ble_eq_true rfl) i_Mo_read_108 (fun v7 h6 => ?_)
    refine jd_iadd i_Mo_read_111 ?_
    refine jd_sipush 512 i_Mo_read_112 (by decide) ?_
    refine jd_iadd i_Mo_read_115 ?_
    refine jd_istore (fun x8 => [some (.ref y0), some (.int y1), some (.int y2), none, some (.int y4), some (.long y5), none, some (.long x1), none, some (.int x8), none, none]) i_Mo_read_116 (by decide) rfl (fun _ => rfl) (fun x8 => ?_)
    refine jd_bipush 11 i_Mo_read_118 (by decide) ?_
    refine jd_iload i_Mo_read_120 rfl ?_
    refine jd_bipush 8 i_Mo_read_122 (by decide) ?_
    refine jd_idiv i_Mo_read_124 ?_
    refine jd_iadd i_Mo_read_125 ?_
    refine jd_istore (fun x9 => [some (.ref y0), some (.int y1), some (.int y2), none, some (.int y4), some (.long y5), none, some (.long x1), none, some (.int x8), some (.int x9), none]) i_Mo_read_126 (by decide) rfl (fun _ => rfl) (fun x9 => ?_)
    refine jd_iload i_Mo_read_128 rfl ?_
    refine jd_bipush 8 i_Mo_read_130 (by decide) ?_
    refine jd_icmp_ne 188 i_Mo_read_132 (by decide) ?_ ?_
    · exact jd_less (t_Mo_read_188) ⟨rfl, rfl, rfl, rfl, rfl, rfl, trivial⟩
    · refine jd_iload i_Mo_read_135 rfl ?_
      refine jd_bipush 8 i_Mo_read_137 (by decide) ?_
      refine jd_irem i_Mo_read_139 ?_
      refine jd_if_ne 188 i_Mo_read_140 (by decide) ?_ ?_
      · exact jd_less (t_Mo_read_188) ⟨rfl, rfl, rfl, rfl, rfl, rfl, trivial⟩
      · refine jd_aload_n i_Mo_read_143 rfl ?_
        refine jd_iload_n i_Mo_read_144 rfl ?_
        refine jd_iload i_Mo_read_145 rfl ?_
        refine jd_callVI G_Mo_140 in_Mo_is se_Mo_is rfl (fun _ e => c_Mo_is e) rfl ⟨by decide, by decide⟩ rfl (Nat.le_of_ble_eq_true rfl) i_Mo_read_147 (fun v11 h10 => ?_)
        refine jd_if_eq 188 i_Mo_read_150 (by decide) ?_ ?_
        · exact jd_less (t_Mo_read_188) ⟨rfl, rfl, rfl, rfl, rfl, rfl, trivial⟩
        · refine jd_aload_n i_Mo_read_153 rfl ?_
          refine jd_sipush 1024 i_Mo_read_154 (by decide) ?_
          refine jd_aload_n i_Mo_read_157 rfl ?_
          refine jd_iload_n i_Mo_read_158 rfl ?_
          refine jd_callVI G_Mo_107 in_Mo_d se_Mo_d rfl (fun _ e => c_Mo_d e) rfl ⟨by decide, by decide⟩ rfl (Nat.le_of_ble_eq_true rfl) i_Mo_read_159 (fun v13 h12 => ?_)
          refine jd_aload_n i_Mo_read_162 rfl ?_
          refine jd_iload_n i_Mo_read_163 rfl ?_
          refine jd_iload i_Mo_read_164 rfl ?_
          refine jd_callVI G_Mo_140 in_Mo_is se_Mo_is rfl (fun _ e => c_Mo_is e) rfl ⟨by decide, by decide⟩ rfl (Nat.le_of_ble_eq_true rfl) i_Mo_read_166 (fun v15 h14 => ?_)
          refine jd_aload_n i_Mo_read_169 rfl ?_
          refine jd_iload_n i_Mo_read_170 rfl ?_
          refine jd_iload i_Mo_read_171 rfl ?_
          refine jd_callVL G_Mo_148 in_Mo_least se_Mo_least rfl (fun _ e => c_Mo_least e) rfl ⟨by decide, by decide⟩ rfl (Nat.le_of_ble_eq_true rfl) i_Mo_read_173 (fun v17 h16 => ?_)
          refine jd_aload_n i_Mo_read_176 rfl ?_
          refine jd_iload_n i_Mo_read_177 rfl ?_
          refine jd_iload i_Mo_read_178 rfl ?_
          refine jd_callVL G_Mo_152 in_Mo_most se_Mo_most rfl (fun _ e => c_Mo_most e) rfl ⟨by decide, by decide⟩ rfl (Nat.le_of_ble_eq_true rfl) i_Mo_read_180 (fun v19 h18 => ?_)
          refine jd_callVV G_Mo_144 in_Mo_give se_Mo_give rfl (fun _ e => c_Mo_give e) rfl ⟨by decide, by decide⟩ rfl (Nat.le_of_ble_eq_true rfl) i_Mo_read_183 (fun h20 => ?_)
          refine jd_iconst 0 i_Mo_read_186 (by decide) ?_
          exact jd_ireturn i_Mo_read_187 rfl
  · refine jd_aload_n i_Mo_read_80 rfl ?_
    refine jd_sipush 1024 i_Mo_read_81 (by decide) ?_
    refine jd_aload_n i_Mo_read_84 rfl ?_
    refine jd_iload_n i_Mo_read_85 rfl ?_
    refine jd_callVI G_Mo_107 in_Mo_d se_Mo_d rfl (fun _ e => c_Mo_d e) rfl ⟨by decide, by decide⟩ rfl (Nat.le_of_ble_eq_true rfl) i_Mo_read_86 (fun v22 h21 => ?_)
    refine jd_iconst 1 i_Mo_read_89 (by decide) ?_
    refine jd_lload i_Mo_read_90 rfl ?_
    refine jd_lload i_Mo_read_92 rfl ?_
    refine jd_callVV G_Mo_144 in_Mo_give se_Mo_give rfl (fun _ e => c_Mo_give e) rfl ⟨by decide, by decide⟩ rfl (Nat.le_of_ble_eq_true rfl) i_Mo_read_94 (fun h23 => ?_)
    refine jd_iconst 0 i_Mo_read_97 (by decide) ?_
    exact jd_ireturn i_Mo_read_98 rfl
noncomputable def r_Mo_read_52 (h : ja_H) (y0 : Nat) (y1 : Int32) (y2 : Int32) (y4 : Int32) (z0 : Int64) : Option (Int32 × ja_H) := (jl (z0 : Int64) (fun (x1 : Int64) => (if y4 = (8 : Int32) then (r_Mo_read_68 h y0 y1 y2 y4 x1 (-9223372036854775808 : Int64)) else (r_Mo_read_68 h y0 y1 y2 y4 x1 (0 : Int64)))))
theorem t_Mo_read_52 {h : ja_H} {y0 : Nat} {y1 : Int32} {y2 : Int32} {y4 : Int32} {z0 : Int64} : ja_D ja_gI M_Mo_read 52 [some (.ref y0), some (.int y1), some (.int y2), none, some (.int y4), none, none, none, none, none, none, none] [.long z0] h (r_Mo_read_52 h y0 y1 y2 y4 z0) := by
  unfold r_Mo_read_52
  refine jd_lstore (fun x1 => [some (.ref y0), some (.int y1), some (.int y2), none, some (.int y4), some (.long x1), none, none, none, none, none, none]) i_Mo_read_52 (by decide) rfl (fun _ => rfl) (fun x1 => ?_)
  refine jd_iload i_Mo_read_54 rfl ?_
  refine jd_bipush 8 i_Mo_read_56 (by decide) ?_
  refine jd_icmp_ne 67 i_Mo_read_58 (by decide) ?_ ?_
  · refine jd_lconst 0 i_Mo_read_67 (by decide) ?_
    exact jd_less (t_Mo_read_68) ⟨rfl, rfl, rfl, rfl, rfl, trivial⟩
  · refine jd_ldc2 i_Mo_read_61 K_Mo_207 ?_
    refine jd_goto 68 i_Mo_read_64 (by decide) ?_
    exact jd_less (t_Mo_read_68) ⟨rfl, rfl, rfl, rfl, rfl, trivial⟩
noncomputable def r_Mo_read (h : ja_H) (a0 : Nat) (a1 : Int32) : Option (Int32 × ja_H) := (jk h a0 9 (jc_I (r_Mo_s h a0 a1) (fun v102 h101 => (jl (v102 : Int32) (fun (x103 : Int32) => (jk h101 a0 9 (jc_I (r_Mo_access h101 a0 a1 x103 (0 : Int32)) (fun v105 h104 => (jl (v105 : Int32) (fun (x106 : Int32) => (jk h104 a0 9 (jc_I (r_Mo_op h104 a0 a1) (fun v108 h107 => (jc_I (r_Mo_size h107 v108) (fun v110 h109 => (jl (v110 : Int32) (fun (x111 : Int32) => (if x106 = (0 : Int32) then (if x111 = (8 : Int32) then (r_Mo_read_52 h109 a0 a1 x103 x111 (9223372036854775807 : Int64)) else (r_Mo_read_52 h109 a0 a1 x103 x111 (((1 : Int64) <<< (Int32.toInt64 ((8 : Int32) * x111) &&& 63)) - (1 : Int64)))) else (some (x106, h109))))))))))))))))))))
theorem e_Mo_read {h : ja_H} {a0 : Nat} {a1 : Int32} : ja_D ja_gI M_Mo_read 0 [some (.ref a0), some (.int a1), none, none, none, none, none, none, none, none, none, none] [] h (r_Mo_read h a0 a1) := by
  unfold r_Mo_read
  refine jd_aload_n i_Mo_read_0 rfl ?_
  refine jd_iload_n i_Mo_read_1 rfl ?_
  refine jd_callVI G_Mo_110 in_Mo_s se_Mo_s rfl (fun _ e => c_Mo_s e) rfl ⟨by decide, by decide⟩ rfl (Nat.le_of_ble_eq_true rfl) i_Mo_read_2 (fun v102 h101 => ?_)
  refine jd_istore_n (fun x103 => [some (.ref a0), some (.int a1), some (.int x103), none, none, none, none, none, none, none, none, none]) i_Mo_read_5 (by decide) rfl (fun _ => rfl) (fun x103 => ?_)
  refine jd_aload_n i_Mo_read_6 rfl ?_
  refine jd_iload_n i_Mo_read_7 rfl ?_
  refine jd_iload_n i_Mo_read_8 rfl ?_
  refine jd_iconst 0 i_Mo_read_9 (by decide) ?_
  refine jd_callVI G_Mo_252 in_Mo_access se_Mo_access rfl (fun _ e => c_Mo_access e) rfl ⟨by decide, by decide⟩ rfl (Nat.le_of_ble_eq_true rfl) i_Mo_read_10 (fun v105 h104 => ?_)
  refine jd_istore_n (fun x106 => [some (.ref a0), some (.int a1), some (.int x103), some (.int x106), none, none, none, none, none, none, none, none]) i_Mo_read_13 (by decide) rfl (fun _ => rfl) (fun x106 => ?_)
  refine jd_aload_n i_Mo_read_14 rfl ?_
  refine jd_iload_n i_Mo_read_15 rfl ?_
  refine jd_callVI G_Mo_78 in_Mo_op se_Mo_op rfl (fun _ e => c_Mo_op e) rfl ⟨by decide, by decide⟩ rfl (Nat.le_of_ble_eq_true rfl) i_Mo_read_16 (fun v108 h107 => ?_)
  refine jd_callSI G_Mo_247 sc_Mo_size (fun _ e => c_Mo_size e) rfl ⟨by decide, by decide⟩ rfl (Nat.le_of_ble_eq_true rfl) i_Mo_read_19 (fun v110 h109 => ?_)
  refine jd_istore (fun x111 => [some (.ref a0), some (.int a1), some (.int x103), some (.int x106), some (.int x111), none, none, none, none, none, none, none]) i_Mo_read_22 (by decide) rfl (fun _ => rfl) (fun x111 => ?_)
  refine jd_iload_n i_Mo_read_24 rfl ?_
  refine jd_if_eq 30 i_Mo_read_25 (by decide) ?_ ?_
  · refine jd_iload i_Mo_read_30 rfl ?_
    refine jd_bipush 8 i_Mo_read_32 (by decide) ?_
    refine jd_icmp_ne 43 i_Mo_read_34 (by decide) ?_ ?_
    · refine jd_lconst 1 i_Mo_read_43 (by decide) ?_
      refine jd_bipush 8 i_Mo_read_44 (by decide) ?_
      refine jd_iload i_Mo_read_46 rfl ?_
      refine jd_imul i_Mo_read_48 ?_
      refine jd_lshl i_Mo_read_49 ?_
      refine jd_lconst 1 i_Mo_read_50 (by decide) ?_
      refine jd_lsub i_Mo_read_51 ?_
      exact jd_less (t_Mo_read_52) ⟨rfl, rfl, rfl, rfl, trivial⟩
    · refine jd_ldc2 i_Mo_read_37 K_Mo_209 ?_
      refine jd_goto 52 i_Mo_read_40 (by decide) ?_
      exact jd_less (t_Mo_read_52) ⟨rfl, rfl, rfl, rfl, trivial⟩
  · refine jd_iload_n i_Mo_read_28 rfl ?_
    exact jd_ireturn i_Mo_read_29 rfl
theorem c_Mo_read {h : ja_H} {a0 : Nat} {a1 : Int32} {o : Int32 × ja_H} (e : r_Mo_read h a0 a1 = some o) : ja_M (2, 51) y_Mo_read b_Mo_read 12 (some .int) [.ref a0, .int a1] h [.int o.1] o.2 := jc_of (g := ja_gI) false _ e e_Mo_read rfl (by decide +kernel) (fun q => nomatch q) (Nat.le_of_ble_eq_true rfl) (fun _ q => nomatch q) (Nat.le_of_ble_eq_true rfl)
