def jv_W (n m : Nat) (h : ja_H) : Prop := jv_B h ∧ n ≤ 1024 ∧ m ≤ 256 ∧ h.2.1 1 1 = nI n ∧ h.2.1 25 2 = nI n ∧ h.2.1 3 1 = nI m ∧ h.2.1 25 9 = nI m ∧ (∀ k, k < 1024 → h.2.2.1 2 k = h.2.2.1 26 k) ∧ (∀ k, k < 256 → h.2.1 29 k = h.2.1 4 k &&& 255) ∧ (∀ k, m ≤ k → k < 256 → h.2.1 4 k = 0) ∧ h.2.1 25 5 = h.2.1 0 5 ∧ (h.2.1 0 5 = 0 ∨ h.2.1 0 5 = 1) ∧ h.2.1 25 7 = h.2.1 0 6 ∧ h.2.1 25 14 = h.2.1 19 5 ∧ h.2.1 25 15 = h.2.1 19 6
def jv_F (h h' : ja_H) : Prop := h'.1 = h.1 ∧ h'.2.2.2.1 = h.2.2.2.1 ∧ (∀ a b, a ≠ 4 → a ≠ 29 → ¬ (a = 25 ∧ b = 0) → h'.2.1 a b = h.2.1 a b) ∧ (∀ a b, a ≠ 40 → h'.2.2.1 a b = h.2.2.1 a b)
def jv_g (h h' : ja_H) : Prop := h'.1 = h.1 ∧ h'.2.2.2.2.1 ≤ h.2.2.2.2.1 + 1 ∧ h'.2.2.2.2.2 ≤ h.2.2.2.2.2 + 6 ∧ h'.2.2.2.1 = h.2.2.2.1
def jv_T (L : Nat) (xs : Nat → Int32) (h : ja_H) (p : Nat) (P : ja_H → Prop) : Prop := ∃ h', (∀ C, q_La_law_23 L xs C h 0 25 40 (nI p) = C h' 0 25 40 (nI (p + 4))) ∧ P h'
theorem jr_at {α : Type} {L p : Nat} {xs : Nat → Int32} {K : Int32 → Option α} (hp : p < L) (hL : L ≤ 2048) : jr_i L xs (nI p) K = K (xs p) := by
  simp only [jr_i, if_pos (jn_jx hp (by omega)), jn_clamp (n := p) (by omega)]
theorem jr_le {L p : Nat} (hp : p + 3 < L) (hL : L ≤ 2048) : ¬ Int32.ofNat L - 4 < nI p := by
  have e : Int32.ofNat L - 4 = nI (L - 4) := by
    have : nI (L - 4) + nI 4 = Int32.ofNat L := by
      rw [jn_add, show L - 4 + 4 = L by omega]; rfl
    rw [← this]
    show nI (L - 4) + 4 - 4 = nI (L - 4)
    rw [Int32.add_sub_cancel]
  rw [e, jn_lt (by omega) (by omega)]
  omega
section LWORD
variable {L p : Nat} {xs : Nat → Int32} {h : ja_H}
def jw_long (a b : Int32) : Int64 := ((Int32.toInt64 a) <<< (Int32.toInt64 (32 : Int32) &&& 63)) ||| ((Int32.toInt64 b) &&& (4294967295 : Int64))
theorem lt_word_bad {k : Int32} {w : Int64} (B : jv_B h) (hk : k < 0 ∨ h.2.1 1 1 < k ∨ ¬ k < 1024) : r_La_word h 0 k w 40 = some (1, ja_lost h 1 6) := by
  simp only [r_La_word, jk_0 B, lw_word_bad B hk, jt_I, jth, if_true]
theorem jx0 : jx (0 : Int32) 1 := by decide
theorem lt_word_ok {k : Int32} {w : Int64} (B : jv_B h) (h1 : ¬ k < 0) (h2 : ¬ h.2.1 1 1 < k) (h3 : k < 1024) : r_La_word h 0 k w 40 = some (0, ja_sL (ja_sI (ja_sI (ja_sL h 2 k.toNatClampNeg w) 1 1 (if h.2.1 1 1 < k + 1 then k + 1 else h.2.1 1 1)) 0 5 0) 40 0 (Int32.toInt64 (if h.2.1 1 1 < k + 1 then k + 1 else h.2.1 1 1))) := by
  generalize hv : (if h.2.1 1 1 < k + 1 then k + 1 else h.2.1 1 1) = v
  have B1 : jv_B (ja_sI (ja_sI (ja_sL h 2 k.toNatClampNeg w) 1 1 v) 0 5 0) := B
  simp only [r_La_word, jk_0 B, lw_word_ok B h1 h2 h3, hv, jt_I, jW_40 B1 jx0]
  rfl
theorem lq_add1 {p : Nat} : nI p + 1 = nI (p + 1) := by rw [show (1 : Int32) = nI 1 from rfl, jn_add]
theorem lq_add2 {p : Nat} : nI p + 2 = nI (p + 2) := by rw [show (2 : Int32) = nI 2 from rfl, jn_add]
theorem lq_add3 {p : Nat} : nI p + 3 = nI (p + 3) := by rw [show (3 : Int32) = nI 3 from rfl, jn_add]
theorem lq_add4 {p : Nat} : nI p + 4 = nI (p + 4) := by rw [show (4 : Int32) = nI 4 from rfl, jn_add]
theorem lq_word {C : ja_H → Nat → Nat → Nat → Int32 → Option (Int32 × ja_H)} {v b : Int32} {h1 h2 : ja_H} (hp : p + 3 < L) (hL : L ≤ 2048) (he : xs p &&& 15 = 0) (B : jv_B h1) (B2 : jv_B h2) (e1 : r_La_word h 0 (xs (p + 1)) (jw_long (xs (p + 2)) (xs (p + 3))) 40 = some (v, h1)) (e2 : r_Mo_word h1 25 (xs (p + 1)) (jw_long (xs (p + 2)) (xs (p + 3))) = some (b, h2)) (e3 : h2.2.1 25 0 = v) (e4 : v = 0 → h2.2.2.1 40 0 = b.toInt64) : q_La_law_23 L xs C h 0 25 40 (nI p) = C h2 0 25 40 (nI (p + 4)) := by
  unfold jw_long at e1 e2
  simp only [q_La_law_23, if_neg (jr_le hp hL), jr_at (p := p) (by omega) hL, he, jsw, if_true, lq_add1, lq_add2, lq_add3, jr_at (p := p + 1) (by omega) hL, jr_at (p := p + 2) (by omega) hL, jr_at (p := p + 3) (by omega) hL, e1, jcI, jlE, jk_25 B, e2, jk_25 B2, lw_thrown B2, e3, r_La_law_185, r_La_law_575, lq_add4]
  by_cases hv : v = 0
  · rw [if_pos hv, jE_40 B2 jx0]
    have e5 : h2.2.2.1 40 (Int32.toNatClampNeg 0) = b.toInt64 := e4 hv
    rw [if_pos e5]
  · rw [if_neg hv]
theorem ls_word {n m : Nat} (hW : jv_W n m h) (hp : p + 3 < L) (hL : L ≤ 2048) (he : xs p &&& 15 = 0) : jv_T L xs h p (fun h' => ∃ n', jv_W n' m h' ∧ jv_g h h' ∧ (h'.2.1 0 5 = 0 ∨ (n' = n ∧ jv_F h h'))) := by
  obtain ⟨B, hn, hm, w1, w2, w3, w4, w5, w6, w7, w8, w9, w10, w11, w12⟩ := hW
  by_cases hk : xs (p + 1) < 0 ∨ h.2.1 1 1 < xs (p + 1) ∨ ¬ xs (p + 1) < 1024
  · have Bl : jv_B (ja_lost h 1 6) := B
    have hk2 : xs (p + 1) < 0 ∨ (ja_lost h 1 6).2.1 25 2 < xs (p + 1) ∨ ¬ xs (p + 1) < 1024 := by
      rw [ja_lI, w2, ← w1]; exact hk
    refine ⟨ja_sI (ja_lost h 1 6) 25 0 1, fun C => lq_word (h1 := ja_lost h 1 6) hp hL he B B (lt_word_bad B hk) (lm_word_bad Bl hk2) (by rw [ja_rI]; rfl) (fun e => absurd e ne10), n, ?_, ⟨rfl, Nat.le_refl _, Nat.le_refl _, rfl⟩, Or.inr ⟨rfl, rfl, rfl, fun a b _ _ h3 => ?_, fun a b _ => rfl⟩⟩
    · refine ⟨B, hn, hm, w1, w2, w3, w4, w5, ?_, w7, w8, w9, w10, w11, w12⟩
      intro k hk
      exact w6 k hk
    · rw [ja_rI, if_neg h3]; rfl
  · have h1 : ¬ xs (p + 1) < 0 := fun q => hk (Or.inl q)
    have h2 : ¬ h.2.1 1 1 < xs (p + 1) := fun q => hk (Or.inr (Or.inl q))
    have h3 : xs (p + 1) < 1024 := Classical.byContradiction fun q => hk (Or.inr (Or.inr q))
    obtain ⟨ea, hal⟩ := jn_of (Int32.not_lt.mp h1)
    generalize (xs (p + 1)).toNatClampNeg = a at ea hal
    have ha : a < 1024 := by
      rw [ea] at h3
      exact (jn_lt (b := 1024) hal (by omega)).mp h3
    have han : a ≤ n := by
      rw [ea, w1, jn_lt (by omega) (by omega)] at h2
      omega
    obtain ⟨n', en, hn', hne⟩ : ∃ n', (if nI n < nI a + 1 then nI a + 1 else nI n) = nI n' ∧ n' ≤ 1024 ∧ n' = if a = n then n + 1 else n := by
      rw [lq_add1]
      by_cases h9 : a = n
      · exact ⟨n + 1, by rw [h9, if_pos ((jn_lt (by omega) (by omega)).mpr (by omega))], by omega, by rw [if_pos h9]⟩
      · exact ⟨n, by rw [if_neg (fun q => by have := (jn_lt (by omega) (by omega)).mp q; omega)], hn, by rw [if_neg h9]⟩
    generalize hw9 : jw_long (xs (p + 2)) (xs (p + 3)) = w
    have c1 := lt_word_ok (w := w) B h1 h2 h3
    rw [w1, ea, en, jn_clamp hal] at c1
    generalize hh1 : ja_sL (ja_sI (ja_sI (ja_sL h 2 a w) 1 1 (nI n')) 0 5 0) 40 0 (nI n').toInt64 = H1 at c1
    have B1 : jv_B H1 := by rw [← hh1]; exact B
    have r1 : H1.2.1 25 2 = nI n := by rw [← hh1]; simp only [ja_rLI, ja_rI]; simpa using w2
    have c2 := lm_word_ok (h := H1) (w := w) B1 h1 (by rw [r1, ← w1]; exact h2) h3
    rw [r1, ea, jn_clamp hal] at c2
    have e9 : (nI a = nI n) = (a = n) := propext (jn_inj (by omega) (by omega))
    have e8 : (if nI a = nI n then nI n + 1 else nI n) = nI n' := by
      rw [hne, lq_add1]
      by_cases h9 : a = n
      · rw [if_pos (by rw [h9]), if_pos h9]
      · rw [if_neg (fun q => h9 ((jn_inj (by omega) (by omega)).mp q)), if_neg h9]
    have e7 : (if nI a = nI n then ja_sI (ja_sL (ja_sI H1 25 0 0) 26 a w) 25 2 (nI n + 1) else ja_sL (ja_sI H1 25 0 0) 26 a w) = ja_sI (ja_sL (ja_sI H1 25 0 0) 26 a w) 25 2 (nI n') := by
      by_cases h9 : a = n
      · rw [if_pos (by rw [h9]), hne, if_pos h9, lq_add1]
      · rw [if_neg (fun q => h9 ((jn_inj (by omega) (by omega)).mp q)), hne, if_neg h9]
        refine (ja_sI_same ?_).symm
        simp only [ja_rLI, ja_rI]
        simpa using r1
    rw [e8, e7] at c2
    generalize hh2 : ja_sI (ja_sI (ja_sL (ja_sI H1 25 0 0) 26 a w) 25 2 (nI n')) 25 5 0 = H2 at c2
    have B2 : jv_B H2 := by rw [← hh2]; exact B1
    have rI : ∀ x y, H2.2.1 x y = if x = 25 ∧ y = 5 then 0 else if x = 25 ∧ y = 2 then nI n' else if x = 25 ∧ y = 0 then 0 else if x = 0 ∧ y = 5 then 0 else if x = 1 ∧ y = 1 then nI n' else h.2.1 x y := by
      intro x y
      rw [← hh2, ← hh1]
      simp only [ja_rI, ja_rLI]
    have rL : ∀ x y, H2.2.2.1 x y = if x = 26 ∧ y = a then w else if x = 40 ∧ y = 0 then (nI n').toInt64 else if x = 2 ∧ y = a then w else h.2.2.1 x y := by
      intro x y
      rw [← hh2, ← hh1]
      simp only [ja_rIL, ja_rL]
    refine ⟨H2, fun C => lq_word (h1 := H1) (v := 0) (b := nI n') hp hL he B1 B2 (by rw [hw9, ea]; exact c1) (by rw [hw9, ea]; exact c2) (by rw [rI]; rfl) (fun _ => by rw [rL]; rfl), n', ⟨B2, hn', hm, by rw [rI]; rfl, by rw [rI]; rfl, by rw [rI]; exact w3, by rw [rI]; exact w4, ?_, ?_, ?_, by rw [rI, rI]; rfl, Or.inl (by rw [rI]; rfl), by rw [rI, rI]; exact w10, by rw [rI, rI]; exact w11, by rw [rI, rI]; exact w12⟩, ?_, Or.inl (by rw [rI]; rfl)⟩
    · intro k hk
      rw [rL, rL]
      by_cases h9 : k = a
      · simp [h9]
      · simpa [h9] using w5 k hk
    · intro k hk
      rw [rI, rI]
      exact w6 k hk
    · intro k hk1 hk2
      rw [rI]
      exact w7 k hk1 hk2
    · rw [← hh2, ← hh1]
      exact ⟨rfl, Nat.le_succ _, Nat.le_add_right _ _, rfl⟩
end LWORD
