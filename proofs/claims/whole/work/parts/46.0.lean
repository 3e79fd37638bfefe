section LW
variable {h : ja_H} {c n m L p : Nat} {xs : Nat → Int32}
def ls_R : Prop := ∀ (n m L p : Nat) (xs : Nat → Int32) (h : ja_H), jv_X n m h → h.2.1 0 5 = 1 → p + 3 < L → L ≤ 2048 → xs p &&& 15 = 7 → jv_T L xs h p (jv_Q h)
theorem ls_word' (X : jv_X n m h) (hp : p + 3 < L) (hL : L ≤ 2048) (he : xs p &&& 15 = 0) : jv_T L xs h p (jv_Q h) := by
  obtain ⟨h', e, n', hW, hg, hor⟩ := ls_word X.1 hp hL he
  refine ⟨h', e, jv_QP X ⟨n', m, hW, hg, ?_⟩⟩
  rcases hor with q | ⟨q1, q2⟩
  · exact Or.inl q
  · exact Or.inr ⟨q1, rfl, q2⟩
theorem ls_turn (R : ls_R) (X : jv_X n m h) (hp : p + 3 < L) (hL : L ≤ 2048) : jv_T L xs h p (jv_Q h) := by
  generalize hz : xs p &&& 15 = z
  by_cases a0 : z = 0
  · exact ls_word' X hp hL (hz.trans a0)
  by_cases a1 : z = 1
  · exact jv_TQ X (ls_cut X.1 hp hL (hz.trans a1))
  by_cases a2 : z = 2
  · exact jv_TQ X (ls_context X.1 hp hL (hz.trans a2))
  by_cases a3 : z = 3
  · exact jv_TQ X (ls_put X.1 hp hL (hz.trans a3))
  by_cases a4 : z = 4
  · exact ls_verify X hp hL (hz.trans a4)
  by_cases a5 : z = 5
  · exact jv_TQ X (ls_fault X.1 hp hL (hz.trans a5))
  by_cases a6 : z = 6
  · exact ls_state X hp hL (hz.trans a6)
  by_cases a7 : z = 7
  · by_cases hv : h.2.1 0 5 = 0
    · exact jv_TQ X (ls_run_nv X.1 hv hp hL (hz.trans a7))
    · obtain ⟨B, hn, hm, w1, w2, w3, w4, w5, w6, w7, w8, w9, w10, w11, w12⟩ := X.1
      exact R n m L p xs h X (w9.resolve_left hv) hp hL (hz.trans a7)
  by_cases a8 : z = 8
  · exact ls_count X hp hL (hz.trans a8)
  exact jv_TQ X (ls_other X.1 hp hL hz a0 a1 a2 a3 a4 a5 a6 a7 a8)
theorem ls_all (R : ls_R) (hL : L ≤ 2048) : ∀ (t p n m : Nat) (h : ja_H), jv_X n m h → p ≤ 2052 → L < p + 4 * t → 0 < t → ∃ hf, r_La_law_23 L xs t h 0 25 40 (nI p) = some (1, hf) ∧ (∃ c, jt_A hf c) ∧ hf.2.2.2.2.1 ≤ h.2.2.2.2.1 + t ∧ hf.2.2.2.2.2 ≤ h.2.2.2.2.2 + 6 * t := by
  intro t
  induction t with
  | zero =>
    intro p n m h X hp ht t0
    omega
  | succ t ih =>
    intro p n m h X hp ht _
    show ∃ hf, q_La_law_23 L xs (r_La_law_23 L xs t) h 0 25 40 (nI p) = some (1, hf) ∧ _
    by_cases q : L < p + 4
    · exact ⟨h, lq_end q hL (by omega), X.2.1, Nat.le_add_right _ _, Nat.le_add_right _ _⟩
    · obtain ⟨h', e, n', m', X', y1, y2⟩ := ls_turn R X (show p + 3 < L by omega) hL (xs := xs)
      obtain ⟨hf, f1, f2, f3, f4⟩ := ih (p + 4) n' m' h' X' (by omega) (by omega) (by omega)
      refine ⟨hf, ?_, f2, by omega, by omega⟩
      rw [e]
      exact f1
theorem jh_1n : ∀ k : Fin 1024, jh_1.2.2.2.1 9 k.val = none := by decide +kernel
theorem jt_cn0 {f : Nat → Option Nat} : ∀ n, (∀ k, k < n → f k = none) → jt_cn f n = 0 := by
  intro n
  induction n with
  | zero => intro _; rfl
  | succ n ih =>
    intro e
    show jt_cn f n + (if f n = none then 0 else 1) = 0
    rw [ih (fun k hk => e k (by omega)), e n (by omega), if_pos rfl]
theorem jh_1A : jt_A jh_1 0 := by
  have nn : ∀ k, k < 1024 → jh_1.2.2.2.1 9 k = none := fun k hk => jh_1n ⟨k, hk⟩
  refine ⟨jh_1B, ?_, ?_, ?_, fun k s hk e => ?_, fun k k' s hk _ e _ => ?_⟩
  · rw [jh_1s]
    rfl
  · exact (jt_cn0 1024 nn).symm
  · have := jh_1c.2
    unfold ja_ns at this
    omega
  · rw [nn k hk] at e
    cases e
  · rw [nn k hk] at e
    cases e
theorem jh_1X : jv_X 0 0 jh_1 := ⟨jh_1W, ⟨0, jh_1A⟩, fun q => by
  rw [jh_1v] at q
  exact absurd q (by decide)⟩
theorem jh_1w : jh_1.2.2.2.2 = (0, 0) := by decide +kernel
theorem ja_lawR (R : ls_R) (hL : L ≤ 2048) : ∃ hf, r_La_law L xs ja_h0 = some (1, hf) ∧ ja_nc hf ≤ 601024 ∧ ja_ns hf ≤ 7293034 := by
  rw [ja_start, ja_fu_eq]
  obtain ⟨hf, f1, ⟨c, A⟩, f3, f4⟩ := ls_all (xs := xs) R hL 2000 0 0 0 jh_1 jh_1X (by omega) (by omega) (by omega)
  have c1 : c ≤ 1024 := by
    rw [A.2.2.1]
    exact jt_cn_le _ 1024
  have l := A.2.1
  have s := A.2.2.2.1
  have w1 : jh_1.2.2.2.2.1 = 0 := by rw [jh_1w]
  have w2 : jh_1.2.2.2.2.2 = 0 := by rw [jh_1w]
  refine ⟨hf, f1, ?_, ?_⟩
  · unfold ja_nc
    omega
  · unfold ja_ns
    omega
end LW
