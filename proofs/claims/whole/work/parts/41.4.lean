section LSTEP
variable {L p : Nat} {xs : Nat → Int32} {h : ja_H}
def jv_P (n m : Nat) (h h' : ja_H) : Prop := ∃ n' m', jv_W n' m' h' ∧ jv_g h h' ∧ (h'.2.1 0 5 = 0 ∨ (n' = n ∧ m' = m ∧ jv_F h h'))
theorem jv_Wlost {n m : Nat} {e : Int32} (hW : jv_W n m h) : jv_W n m (ja_sI (ja_lost h 1 6) 25 0 e) := by
  obtain ⟨B, hn, hm, w1, w2, w3, w4, w5, w6, w7, w8, w9, w10, w11, w12⟩ := hW
  exact ⟨B, hn, hm, w1, w2, w3, w4, w5, w6, w7, w8, w9, w10, w11, w12⟩
theorem jv_Plost {n m : Nat} {e : Int32} (hW : jv_W n m h) : jv_P n m h (ja_sI (ja_lost h 1 6) 25 0 e) := by
  refine ⟨n, m, jv_Wlost hW, ⟨rfl, Nat.le_refl _, Nat.le_refl _, rfl⟩, Or.inr ⟨rfl, rfl, rfl, rfl, fun a b _ _ h3 => ?_, fun a b _ => rfl⟩⟩
  rw [ja_rI, if_neg h3]; rfl
theorem ls_cut {n m : Nat} (hW : jv_W n m h) (hp : p + 3 < L) (hL : L ≤ 2048) (he : xs p &&& 15 = 1) : jv_T L xs h p (jv_P n m h) := by
  have hW0 := hW
  obtain ⟨B, hn, hm, w1, w2, w3, w4, w5, w6, w7, w8, w9, w10, w11, w12⟩ := hW
  by_cases hk : xs (p + 1) < 0 ∨ ¬ xs (p + 1) ≤ h.2.1 1 1
  · have hk2 : xs (p + 1) < 0 ∨ ¬ xs (p + 1) ≤ (ja_lost h 1 6).2.1 25 2 := by
      rw [ja_lI, w2, ← w1]; exact hk
    refine ⟨ja_sI (ja_lost h 1 6) 25 0 1, fun C => lq_cut (h1 := ja_lost h 1 6) (v := 1) hp hL he B B ?_ (lm_cut_bad B hk2) (by rw [ja_rI]; rfl), jv_Plost hW0⟩
    simp only [r_La_cut, jk_0 B, lw_cut_bad B hk, jt_V, jth, if_true]
  · have h1 : ¬ xs (p + 1) < 0 := fun q => hk (Or.inl q)
    have h2 : xs (p + 1) ≤ h.2.1 1 1 := Classical.byContradiction fun q => hk (Or.inr q)
    obtain ⟨ea, hal⟩ := jn_of (Int32.not_lt.mp h1)
    generalize (xs (p + 1)).toNatClampNeg = a at ea hal
    have han : a ≤ n := by
      rw [ea, w1] at h2
      exact (jn_le (by omega) (by omega)).mp h2
    generalize hh1 : ja_sI (ja_sI h 1 1 (xs (p + 1))) 0 5 0 = H1
    have B1 : jv_B H1 := by rw [← hh1]; exact B
    have c1 : r_La_cut h 0 (xs (p + 1)) = some (0, H1) := by
      simp only [r_La_cut, jk_0 B, lw_cut_ok B h1 h2, jt_V, hh1]
    have c2 : r_Mo_cut H1 25 (xs (p + 1)) = _ := lm_cut_ok B1 h1 (by rw [← hh1]; simp only [ja_rI]; simpa [w2, w1] using h2)
    generalize hh2 : ja_sI (ja_sI (ja_sI H1 25 0 0) 25 2 (xs (p + 1))) 25 5 0 = H2 at c2
    have B2 : jv_B H2 := by rw [← hh2]; exact B1
    have rI : ∀ x y, H2.2.1 x y = if x = 25 ∧ y = 5 then 0 else if x = 25 ∧ y = 2 then nI a else if x = 25 ∧ y = 0 then 0 else if x = 0 ∧ y = 5 then 0 else if x = 1 ∧ y = 1 then nI a else h.2.1 x y := by
      intro x y
      rw [← hh2, ← hh1, ← ea]
      simp only [ja_rI]
    have rL : H2.2.2 = h.2.2 := by rw [← hh2, ← hh1]; rfl
    refine ⟨H2, fun C => lq_cut (h1 := H1) (v := 0) hp hL he B1 B2 c1 c2 (by rw [rI]; rfl), a, m, ⟨B2, by omega, hm, by rw [rI]; rfl, by rw [rI]; rfl, by rw [rI]; exact w3, by rw [rI]; exact w4, fun k hk => by rw [rL]; exact w5 k hk, fun k hk => by rw [rI, rI]; exact w6 k hk, fun k h1 h2 => by rw [rI]; exact w7 k h1 h2, by rw [rI, rI]; rfl, Or.inl (by rw [rI]; rfl), by rw [rI, rI]; exact w10, by rw [rI, rI]; exact w11, by rw [rI, rI]; exact w12⟩, ?_, Or.inl (by rw [rI]; rfl)⟩
    rw [← hh2, ← hh1]
    exact ⟨rfl, Nat.le_succ _, Nat.le_add_right _ _, rfl⟩
theorem ls_fault {n m : Nat} (hW : jv_W n m h) (hp : p + 3 < L) (hL : L ≤ 2048) (he : xs p &&& 15 = 5) : jv_T L xs h p (jv_P n m h) := by
  obtain ⟨B, hn, hm, w1, w2, w3, w4, w5, w6, w7, w8, w9, w10, w11, w12⟩ := hW
  refine ⟨ja_sI h 25 0 0, fun C => lq_fault hp hL he B B (lw_fault B) (by rw [lm_fault B, w10]), n, m, ⟨B, hn, hm, w1, w2, w3, w4, w5, w6, w7, w8, w9, w10, w11, w12⟩, ⟨rfl, Nat.le_succ _, Nat.le_add_right _ _, rfl⟩, Or.inr ⟨rfl, rfl, rfl, rfl, fun a b _ _ h3 => ?_, fun a b _ => rfl⟩⟩
  rw [ja_rI, if_neg h3]
theorem ls_other {n m : Nat} {z : Int32} (hW : jv_W n m h) (hp : p + 3 < L) (hL : L ≤ 2048) (he : xs p &&& 15 = z) (a0 : ¬ z = 0) (a1 : ¬ z = 1) (a2 : ¬ z = 2) (a3 : ¬ z = 3) (a4 : ¬ z = 4) (a5 : ¬ z = 5) (a6 : ¬ z = 6) (a7 : ¬ z = 7) (a8 : ¬ z = 8) : jv_T L xs h p (jv_P n m h) :=
  ⟨h, fun C => lq_other hp hL he a0 a1 a2 a3 a4 a5 a6 a7 a8, n, m, hW, ⟨rfl, Nat.le_succ _, Nat.le_add_right _ _, rfl⟩, Or.inr ⟨rfl, rfl, rfl, rfl, fun _ _ _ _ _ => rfl, fun _ _ _ => rfl⟩⟩
theorem ls_put {n m : Nat} (hW : jv_W n m h) (hp : p + 3 < L) (hL : L ≤ 2048) (he : xs p &&& 15 = 3) : jv_T L xs h p (jv_P n m h) := by
  have hW0 := hW
  obtain ⟨B, hn, hm, w1, w2, w3, w4, w5, w6, w7, w8, w9, w10, w11, w12⟩ := hW
  by_cases hk : xs (p + 1) < 0 ∨ ¬ xs (p + 1) < h.2.1 3 1
  · have hk2 : xs (p + 1) < 0 ∨ ¬ xs (p + 1) < (ja_lost h 1 6).2.1 25 9 := by
      rw [ja_lI, w4, ← w3]; exact hk
    refine ⟨ja_sI (ja_lost h 1 6) 25 0 1, fun C => lq_put (h1 := ja_lost h 1 6) (v := 1) hp hL he B B ?_ (lm_put_bad B hk2) (by rw [ja_rI]; rfl), jv_Plost hW0⟩
    simp only [r_La_put, jk_0 B, lw_put_bad B hk, jt_V, jth, if_true]
  · have h1 : ¬ xs (p + 1) < 0 := fun q => hk (Or.inl q)
    have h2 : xs (p + 1) < h.2.1 3 1 := Classical.byContradiction fun q => hk (Or.inr q)
    obtain ⟨ea, hal⟩ := jn_of (Int32.not_lt.mp h1)
    generalize (xs (p + 1)).toNatClampNeg = a at ea hal
    have han : a < m := by
      rw [ea, w3] at h2
      exact (jn_lt (by omega) (by omega)).mp h2
    generalize hv : jw_long (xs (p + 2)) (xs (p + 3)) = v
    generalize hh1 : ja_oI h 4 (jp_r (h.2.1 4) (jo_b v) a a m) = H1
    have B1 : jv_B H1 := by rw [← hh1]; exact B
    have c1 : r_La_put h 0 (xs (p + 1)) v = some (0, H1) := by
      simp only [r_La_put, jk_0 B, ea, lw_put_ok B han hm w3, jt_V, hh1]
    have c2 := lm_put_ok (v := v) B1 han hm (by rw [← hh1, ja_oIr, if_neg (by omega), w4])
    rw [← ea] at c2
    generalize hh2 : ja_oI (ja_sI H1 25 0 0) 29 (jp_r (H1.2.1 29) (jo_m v) a a m) = H2 at c2
    have B2 : jv_B H2 := by rw [← hh2]; exact B1
    have r29 : H1.2.1 29 = h.2.1 29 := by
      funext y
      rw [← hh1, ja_oIr, if_neg (by omega)]
    have rI : ∀ x y, H2.2.1 x y = if x = 29 then jp_r (h.2.1 29) (jo_m v) a a m y else if x = 25 ∧ y = 0 then 0 else if x = 4 then jp_r (h.2.1 4) (jo_b v) a a m y else h.2.1 x y := by
      intro x y
      rw [← hh2, r29, ← hh1]
      simp only [ja_rI, ja_oIr]
    have rL : H2.2.2 = h.2.2 := by rw [← hh2, ← hh1]; rfl
    have r1 : H2.1 = h.1 := by rw [← hh2, ← hh1]; rfl
    refine ⟨H2, fun C => lq_put (h1 := H1) (v := 0) hp hL he B1 B2 (by rw [hv]; exact c1) (by rw [hv]; exact c2) (by rw [rI]; rfl), n, m, ⟨B2, hn, hm, by rw [rI]; exact w1, by rw [rI]; exact w2, by rw [rI]; exact w3, by rw [rI]; exact w4, fun k hk => by rw [rL]; exact w5 k hk, ?_, ?_, by rw [rI, rI]; exact w8, by rw [rI]; exact w9, by rw [rI, rI]; exact w10, by rw [rI, rI]; exact w11, by rw [rI, rI]; exact w12⟩, ⟨r1, by rw [rL]; exact Nat.le_succ _, by rw [rL]; exact Nat.le_add_right _ _, by rw [rL]⟩, Or.inr ⟨rfl, rfl, r1, by rw [rL], ?_, fun a b _ => by rw [rL]⟩⟩
    · intro k hk
      rw [rI, rI, if_pos rfl, if_neg (by omega), if_neg (by omega), if_pos rfl]
      simp only [jp_r]
      by_cases h9 : a ≤ k ∧ k < a + 8 ∧ k < m
      · rw [if_pos h9, if_pos h9, jo_bm]
      · rw [if_neg h9, if_neg h9]
        exact w6 k hk
    · intro k hk1 hk2
      rw [rI, if_neg (by omega), if_neg (by omega), if_pos rfl]
      simp only [jp_r]
      rw [if_neg (by omega)]
      exact w7 k hk1 hk2
    · intro x y h1 h2 h3
      rw [rI, if_neg h2, if_neg h3, if_neg h1]
theorem ls_context {n m : Nat} (hW : jv_W n m h) (hp : p + 3 < L) (hL : L ≤ 2048) (he : xs p &&& 15 = 2) : jv_T L xs h p (jv_P n m h) := by
  have hW0 := hW
  obtain ⟨B, hn, hm, w1, w2, w3, w4, w5, w6, w7, w8, w9, w10, w11, w12⟩ := hW
  by_cases hk : xs (p + 1) < 0 ∨ ¬ xs (p + 1) ≤ 256
  · refine ⟨ja_sI (ja_lost h 1 6) 25 0 1, fun C => lq_context (h1 := ja_lost h 1 6) (v := 1) hp hL he B B ?_ (lm_context_bad B hk) (by rw [ja_rI]; rfl), jv_Plost hW0⟩
    simp only [r_La_context, jk_0 B, lw_context_bad hk, jt_V, jth, if_true]
  · have h1 : ¬ xs (p + 1) < 0 := fun q => hk (Or.inl q)
    have h2 : xs (p + 1) ≤ 256 := Classical.byContradiction fun q => hk (Or.inr q)
    obtain ⟨ea, hal⟩ := jn_of (Int32.not_lt.mp h1)
    generalize (xs (p + 1)).toNatClampNeg = a at ea hal
    have han : a ≤ 256 := by
      rw [ea] at h2
      exact (jn_le (b := 256) (by omega) (by omega)).mp h2
    by_cases hs : a = m
    · subst hs
      have c1 : r_La_context h 0 (xs (p + 1)) = some (0, h) := by
        simp only [r_La_context, jk_0 B, ea, lw_context_same B han w3, jt_V]
      have c2 := lm_context_ok B han hm w4
      rw [if_pos rfl] at c2
      generalize hh2 : ja_sI (ja_oI (ja_sI h 25 0 0) 29 (jz_r (h.2.1 29) a 256)) 25 9 (nI a) = H2 at c2
      rw [← ea] at c2
      have B2 : jv_B H2 := by rw [← hh2]; exact B
      have rI : ∀ x y, H2.2.1 x y = if x = 25 ∧ y = 9 then nI a else if x = 29 then jz_r (h.2.1 29) a 256 y else if x = 25 ∧ y = 0 then 0 else h.2.1 x y := by
        intro x y
        rw [← hh2]
        simp only [ja_rI, ja_oIr]
      have rL : H2.2.2 = h.2.2 := by rw [← hh2]; rfl
      have r1 : H2.1 = h.1 := by rw [← hh2]; rfl
      refine ⟨H2, fun C => lq_context (h1 := h) (v := 0) hp hL he B B2 c1 c2 (by rw [rI]; rfl), n, a, ⟨B2, hn, hm, by rw [rI]; exact w1, by rw [rI]; exact w2, by rw [rI]; exact w3, by rw [rI]; rfl, fun k hk => by rw [rL]; exact w5 k hk, ?_, fun k h1 h2 => by rw [rI]; exact w7 k h1 h2, by rw [rI, rI]; exact w8, by rw [rI]; exact w9, by rw [rI, rI]; exact w10, by rw [rI, rI]; exact w11, by rw [rI, rI]; exact w12⟩, ⟨r1, by rw [rL]; exact Nat.le_succ _, by rw [rL]; exact Nat.le_add_right _ _, by rw [rL]⟩, Or.inr ⟨rfl, rfl, r1, by rw [rL], ?_, fun a b _ => by rw [rL]⟩⟩
      · intro k hk
        rw [rI, rI, if_neg (by omega), if_pos rfl, if_neg (by omega), if_neg (by omega), if_neg (by omega)]
        simp only [jz_r]
        by_cases h9 : a ≤ k ∧ k < 256
        · rw [if_pos h9, w7 k h9.1 hk]; rfl
        · rw [if_neg h9]
          exact w6 k hk
      · intro x y h1 h2 h3
        rw [rI, if_neg h2, if_neg h3]
        by_cases h9 : x = 25 ∧ y = 9
        · rw [if_pos h9, h9.1, h9.2, w4]
        · rw [if_neg h9]
    · generalize hh1 : ja_sI (ja_sI (ja_oI h 4 (jz_r (h.2.1 4) a m)) 3 1 (nI a)) 0 5 0 = H1
      have B1 : jv_B H1 := by rw [← hh1]; exact B
      have c1 : r_La_context h 0 (xs (p + 1)) = some (0, H1) := by
        simp only [r_La_context, jk_0 B, ea, lw_context_other B han hm w3 hs, jt_V, hh1]
      have r29 : H1.2.1 29 = h.2.1 29 := by
        funext y
        rw [← hh1]
        simp only [ja_rI, ja_oIr]
        simp
      have c2 := lm_context_ok B1 han hm (by rw [← hh1]; simp only [ja_rI, ja_oIr]; simpa using w4)
      rw [if_neg hs] at c2
      generalize hh2 : ja_sI (ja_sI (ja_oI (ja_sI H1 25 0 0) 29 (jz_r (H1.2.1 29) a 256)) 25 5 0) 25 9 (nI a) = H2 at c2
      rw [← ea] at c2
      have B2 : jv_B H2 := by rw [← hh2]; exact B1
      have rI : ∀ x y, H2.2.1 x y = if x = 25 ∧ y = 9 then nI a else if x = 25 ∧ y = 5 then 0 else if x = 29 then jz_r (h.2.1 29) a 256 y else if x = 25 ∧ y = 0 then 0 else if x = 0 ∧ y = 5 then 0 else if x = 3 ∧ y = 1 then nI a else if x = 4 then jz_r (h.2.1 4) a m y else h.2.1 x y := by
        intro x y
        rw [← hh2, r29, ← hh1]
        simp only [ja_rI, ja_oIr]
      have rL : H2.2.2 = h.2.2 := by rw [← hh2, ← hh1]; rfl
      have r1 : H2.1 = h.1 := by rw [← hh2, ← hh1]; rfl
      refine ⟨H2, fun C => lq_context (h1 := H1) (v := 0) hp hL he B1 B2 c1 c2 (by rw [rI]; rfl), n, a, ⟨B2, hn, han, by rw [rI]; exact w1, by rw [rI]; exact w2, by rw [rI]; rfl, by rw [rI]; rfl, fun k hk => by rw [rL]; exact w5 k hk, ?_, ?_, by rw [rI, rI]; rfl, Or.inl (by rw [rI]; rfl), by rw [rI, rI]; exact w10, by rw [rI, rI]; exact w11, by rw [rI, rI]; exact w12⟩, ⟨r1, by rw [rL]; exact Nat.le_succ _, by rw [rL]; exact Nat.le_add_right _ _, by rw [rL]⟩, Or.inl (by rw [rI]; rfl)⟩
      · intro k hk
        rw [rI, rI]
        simp only [jz_r]
        simp
        by_cases h9 : a ≤ k
        · rw [if_pos ⟨h9, hk⟩]
          by_cases h8 : k < m
          · rw [if_pos ⟨h9, h8⟩]; rfl
          · rw [if_neg (by omega), w7 k (by omega) hk]; rfl
        · rw [if_neg (by omega), if_neg (by omega)]
          exact w6 k hk
      · intro k hk1 hk2
        have e9 : H2.2.1 4 k = if a ≤ k ∧ k < m then 0 else h.2.1 4 k := by
          rw [rI]
          rfl
        rw [e9]
        by_cases h8 : k < m
        · rw [if_pos ⟨hk1, h8⟩]
        · rw [if_neg (by omega), w7 k (by omega) hk2]
end LSTEP
