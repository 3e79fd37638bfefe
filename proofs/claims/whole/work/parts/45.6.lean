section R2
variable {h g : ja_H} {n m L p a : Nat} {xs : Nat → Int32} {T : Nat → Option sg_S} {C : Int32}
def jc_v (h : ja_H) (C : Int32) (a : Nat) : Int32 := match a with
  | 0 => h.2.1 25 2
  | 1 => h.2.1 25 9
  | 2 => h.2.1 25 14
  | 3 => C
  | _ => h.2.1 25 15
theorem lm_61 (b : jv_B h) (ha : a < 5) : r_Mo_count_61 h 25 (nI a) C = some (jc_v h C a, h) := by
  have b0 : nI 0 = 0 := rfl
  have b1 : nI 1 = 1 := rfl
  have b2 : nI 2 = 2 := rfl
  have b3 : nI 3 = 3 := rfl
  have b4 : nI 4 = 4 := rfl
  obtain ⟨c0, c1, c2, c3⟩ := i4
  rcases (show a = 0 ∨ a = 1 ∨ a = 2 ∨ a = 3 ∨ a = 4 by omega) with rfl | rfl | rfl | rfl | rfl
  · rw [r_Mo_count_61, b0, if_pos rfl, jI_25 b, r_Mo_count_109]
    rfl
  · rw [r_Mo_count_61, b1, if_neg i10, if_pos rfl, jI_25 b, r_Mo_count_109]
    rfl
  · rw [r_Mo_count_61, b2, if_neg i20, if_neg i21, if_pos rfl, jI_25 b, r_Mo_count_109]
    rfl
  · rw [r_Mo_count_61, b3, if_neg i30, if_neg i31, if_neg i32, if_pos rfl, r_Mo_count_109]
    rfl
  · rw [r_Mo_count_61, b4, if_neg c0, if_neg c1, if_neg c2, if_neg c3, jI_25 b, r_Mo_count_109]
    rfl
theorem lm_cv (b : jv_B h) (n1 : n ≤ 1024) (hn : h.2.1 25 2 = nI n) (h5 : h.2.1 25 5 = 1) (t : mT h n T) (ha : a < 5) : r_Mo_count h 25 (nI a) = some (jc_v (ja_sI h 25 0 0) (nI (cn T 0 n)) a, ja_sI h 25 0 0) := by
  have b1 : jv_B (ja_sI h 25 0 0) := b
  have l4 : nI a ≤ 4 := (jn_le (b := 4) (by omega) (by omega)).mpr (by omega)
  have e := mo_cnt (h := ja_sI h 25 0 0) (y := nI a) b1 n1 (by rw [ja_rI, if_neg (by omega)]; exact hn) (by rw [ja_rI, if_neg (by omega)]; exact h5) (mT_25 t) n 0 ja_fu 0 (by omega) (by rw [ja_fu_eq]; omega)
  have e' : r_Mo_count_28 ja_fu (ja_sI h 25 0 0) 25 (nI a) 0 0 = _ := e
  rw [r_Mo_count, if_neg (jn_neg (by omega)), if_pos l4, r_Mo_count_15, jk_25 b, lw_fails0 b, jcI, if_pos rfl, jlE, jlE, e', Int32.zero_add, lm_61 b1 ha]
theorem lw_cv (X : jv_X n m h) (hv : h.2.1 0 5 = 1) (ha : a < 5) : r_WJ_count h 0 (nI a) = some ([.int (jc_v h (h.2.1 8 8) a)], h) := by
  obtain ⟨⟨b, hn, hm, w1, w2, w3, w4, w5, w6, w7, w8, w9, w10, w11, w12⟩, _, _⟩ := X
  have b0 : nI 0 = 0 := rfl
  have b1 : nI 1 = 1 := rfl
  have b2 : nI 2 = 2 := rfl
  have b3 : nI 3 = 3 := rfl
  have b4 : nI 4 = 4 := rfl
  obtain ⟨c0, c1, c2, c3⟩ := i4
  rw [r_WJ_count]
  rcases (show a = 0 ∨ a = 1 ∨ a = 2 ∨ a = 3 ∨ a = 4 by omega) with rfl | rfl | rfl | rfl | rfl
  · simp only [jsw, b0, if_true, jR_0_0 b, jI_1 b, jc_v, w1, w2]
  · simp only [jsw, b1, if_neg i10, if_true, jR_0_1 b, jI_3 b, jc_v, w3, w4]
  · simp only [jsw, b2, if_neg i20, if_neg i21, if_true, jR_0_4 b, jI_19 b, jc_v, w11]
  · simp only [jsw, b3, if_neg i30, if_neg i31, if_neg i32, if_true, jI_0 b, hv, if_neg i10, jR_0_3 b, jI_8 b, r_WJ_count_78, jc_v]
  · simp only [jsw, b4, if_neg c0, if_neg c1, if_neg c2, if_neg c3, if_true, jR_0_4 b, jI_19 b, jc_v, w12]
theorem ls_count (X : jv_X n m h) (hp : p + 3 < L) (hL : L ≤ 2048) (he : xs p &&& 15 = 8) : jv_T L xs h p (jv_Q h) := by
  by_cases hv : h.2.1 0 5 = 0
  · exact jv_TQ X (ls_count_nv X.1 hv hp hL he)
  have hX := X
  obtain ⟨⟨B, hn, hm, w1, w2, w3, w4, w5, w6, w7, w8, w9, w10, w11, w12⟩, ⟨c, A⟩, v⟩ := X
  have h1 : h.2.1 0 5 = 1 := w9.resolve_left hv
  obtain ⟨v0, v1, v2, v3, v4, v5, v6⟩ := v h1
  obtain ⟨_, f2, _, _⟩ := vr_fin hn v0 v1
  by_cases hy : xs (p + 1) < 0 ∨ ¬ xs (p + 1) ≤ 4
  · refine ⟨ja_sI (ja_lost h 1 6) 25 0 1, fun C => lq_count (h1 := ja_lost h 1 6) (v := 1) (b := 0) hp hL he B B ?_ (lm_count_bad B hy) (by rw [ja_rI]; rfl) (fun e => absurd e i10), jv_XP hX⟩
    simp only [r_La_count, jk_0 B, lw_count_bad hy, jt_I, jth, if_true]
  · have q1 : ¬ xs (p + 1) < 0 := fun q => hy (Or.inl q)
    have q2 : xs (p + 1) ≤ 4 := Classical.byContradiction fun q => hy (Or.inr q)
    obtain ⟨ea, hal⟩ := jn_of (Int32.not_lt.mp q1)
    generalize (xs (p + 1)).toNatClampNeg = a at ea hal
    have ha : a < 5 := by
      rw [ea] at q2
      have := (jn_le (b := 4) hal (by omega)).mp q2
      omega
    generalize hz : (jc_v h (h.2.1 8 8) a).toInt64 = z
    have B1 : jv_B (ja_sL h 40 0 z) := B
    have B2 : jv_B (ja_sI (ja_sL h 40 0 z) 25 0 0) := B
    have mt : mT (ja_sL h 40 0 z) n (vr (h.2.2.1 2) n (h.2.1 3 1)).2.2.1 := mT_c v3 (fun _ => rfl) (fun _ => rfl) (fun _ => rfl) (fun b => by rw [ja_rL, if_neg (by omega)]) (fun b => by rw [ja_rL, if_neg (by omega)])
    have c2 := lm_cv (h := ja_sL h 40 0 z) (a := a) B1 hn w2 (w8.trans h1) mt ha
    have em : jc_v (ja_sI (ja_sL h 40 0 z) 25 0 0) (nI (cn (vr (h.2.2.1 2) n (h.2.1 3 1)).2.2.1 0 n)) a = jc_v h (h.2.1 8 8) a := by
      rw [v4, f2]
      rcases (show a = 0 ∨ a = 1 ∨ a = 2 ∨ a = 3 ∨ a = 4 by omega) with rfl | rfl | rfl | rfl | rfl <;> rfl
    rw [em] at c2
    refine ⟨ja_sI (ja_sL h 40 0 z) 25 0 0, fun C => lq_count (h1 := ja_sL h 40 0 z) (v := 0) (b := jc_v h (h.2.1 8 8) a) hp hL he B1 B2 ?_ (by rw [ea]; exact c2) (by rw [ja_rI]; rfl) (fun _ => by rw [ja_rIL, ja_rL, hz]; rfl), n, m, ?_, Nat.le_succ _, Nat.le_add_right _ _⟩
    · simp only [r_La_count, jk_0 B, ea, lw_cv hX h1 ha, jt_I, jW_40 B jx0, hz]
      rfl
    · have gI : ∀ x y, ¬ (x = 25 ∧ y = 0) → (ja_sI (ja_sL h 40 0 z) 25 0 0).2.1 x y = h.2.1 x y := fun x y q => by
        rw [ja_rI, if_neg q]
        rfl
      refine jv_XF hX rfl rfl (fun x y q => gI x y (fun w => q (by unfold ex_I; omega))) (fun x y q => ?_) ?_ ?_
      · rw [ja_rIL, ja_rL, if_neg (fun w => q (by unfold ex_L; omega))]
      · rw [gI 25 14 (by omega), gI 19 5 (by omega)]
        exact w11
      · rw [gI 25 15 (by omega), gI 19 6 (by omega)]
        exact w12
end R2
