section R0
variable {h g : ja_H} {n m L p k : Nat} {W : Nat → Int64} {xs : Nat → Int32} {len x : Int32} {T : Nat → Option sg_S} {sec' : Nat → Bool} {σ : sg_S}
theorem sg_one_gt {g : Nat → Int32} {z : Int64} {q : Nat × sg_S} (w : gw g) (h : q ∈ (sg_one g z len k σ).2) : k < q.1 := by
  rcases sg_one_p h with ⟨_, e⟩ | ⟨_, e⟩ | ⟨_, _, _, e⟩ | e
  · omega
  · omega
  · omega
  · exact absurd w.2.2.2.2.1 e
def cn (T : Nat → Option sg_S) : Nat → Nat → Nat
  | _, 0 => 0
  | k, f + 1 => (if T k = none then 0 else 1) + cn T (k + 1) f
theorem pe_fin (F : jq_F W n sec') : ∀ (f k : Nat) (T : Nat → Option sg_S) (q : Int32), k + f = n → jq_T n sec' T → (pe W n len f k T q).1 = 0 → jq_T n sec' (pe W n len f k T q).2.2.1 ∧ (∀ j, j < k → (pe W n len f k T q).2.2.1 j = T j) ∧ (pe W n len f k T q).2.2.2 = q + nI (cn (pe W n len f k T q).2.2.1 k f) := by
  intro f
  induction f with
  | zero =>
    intro k T q _ Q _
    exact ⟨Q, fun _ _ => rfl, (Int32.add_zero q).symm⟩
  | succ f ih =>
    intro k T q hk Q h0
    cases y : T k with
    | none =>
      rw [pe_n y] at h0 ⊢
      obtain ⟨a1, a2, a3⟩ := ih (k + 1) T q (by omega) Q h0
      refine ⟨a1, fun j hj => a2 j (by omega), ?_⟩
      show _ = q + nI ((if (pe W n len f (k + 1) T q).2.2.1 k = none then 0 else 1) + cn (pe W n len f (k + 1) T q).2.2.1 (k + 1) f)
      rw [a2 k (by omega), y, if_pos rfl, Nat.zero_add]
      exact a3
    | some σ =>
      rw [pe_s y] at h0 ⊢
      obtain ⟨_, hs, ok⟩ := Q k σ y
      obtain ⟨Fw, Fp⟩ := F k (by omega) hs
      by_cases z : (sg_one (jw_f (W k)) (pf_nx W n (k + 1)) len k σ).1 = 0
      · rw [if_pos z] at h0 ⊢
        have Q4 : jq_T n sec' (fls T (sg_one (jw_f (W k)) (pf_nx W n (k + 1)) len k σ).2) := fls_q _ _ Q (fun p hp => ⟨(Fp _ _ _ p hp).1, (Fp _ _ _ p hp).2, sg_one_ok Fw ok p hp⟩)
        have kp : ∀ j, j ≤ k → fls T (sg_one (jw_f (W k)) (pf_nx W n (k + 1)) len k σ).2 j = T j := fun j hj => fls_ne _ _ _ (fun p hp => by
          have := sg_one_gt Fw hp
          omega)
        obtain ⟨a1, a2, a3⟩ := ih (k + 1) _ (q + 1) (by omega) Q4 h0
        refine ⟨a1, fun j hj => (a2 j (by omega)).trans (kp j (by omega)), ?_⟩
        rw [a3]
        show _ = q + nI ((if (pe W n len f (k + 1) (fls T (sg_one (jw_f (W k)) (pf_nx W n (k + 1)) len k σ).2) (q + 1)).2.2.1 k = none then 0 else 1) + cn _ (k + 1) f)
        rw [a2 k (by omega), kp k (Nat.le_refl _), y, if_neg nofun, Int32.add_assoc, show (1 : Int32) = nI 1 from rfl, jn_add]
      · rw [if_neg z] at h0
        exact absurd h0 z
theorem vr_px (z : (vr W n len).1 = 0) : (px W n n 0).1 = 0 := Classical.byContradiction fun q => by
  unfold vr at z
  rw [if_neg q] at z
  exact q z
theorem vr_fin (n1 : n ≤ 1024) (n0 : 0 < n) (z : (vr W n len).1 = 0) : jq_T n (sec W) (vr W n len).2.2.1 ∧ (vr W n len).2.2.2 = nI (cn (vr W n len).2.2.1 0 n) ∧ jq_F W n (sec W) ∧ (vr W n len).2.2.1 0 = some sg_b := by
  have p0 := vr_px z
  have e : vr W n len = pe W n len n 0 pe_0 0 := if_pos p0
  rw [e] at z ⊢
  have F := jq_of n1 p0
  obtain ⟨a1, a2, a3⟩ := pe_fin F n 0 pe_0 0 (by omega) (pe_0_q n0) z
  refine ⟨a1, by rw [a3]; exact Int32.zero_add _, F, ?_⟩
  obtain ⟨n, rfl⟩ : ∃ u, n = u + 1 := ⟨n - 1, by omega⟩
  have y : pe_0 0 = some sg_b := if_pos rfl
  rw [pe_s y] at z ⊢
  by_cases c : (sg_one (jw_f (W 0)) (pf_nx W (n + 1) (0 + 1)) len 0 sg_b).1 = 0
  · rw [if_pos c] at z ⊢
    obtain ⟨_, hs, ok⟩ := pe_0_q (W := W) n0 0 sg_b y
    obtain ⟨Fw, Fp⟩ := F 0 n0 hs
    have Q4 : jq_T (n + 1) (sec W) (fls pe_0 (sg_one (jw_f (W 0)) (pf_nx W (n + 1) (0 + 1)) len 0 sg_b).2) := fls_q _ _ (pe_0_q n0) (fun p hp => ⟨(Fp _ _ _ p hp).1, (Fp _ _ _ p hp).2, sg_one_ok Fw ok p hp⟩)
    obtain ⟨_, b2, _⟩ := pe_fin F n (0 + 1) _ (0 + 1) (by omega) Q4 z
    rw [b2 0 (by omega), fls_ne _ _ _ (fun p hp => sg_one_gt Fw hp)]
    exact y
  · rw [if_neg c] at z
    exact absurd z c
theorem mo_cnt {y : Int32} (b : jv_B h) (n1 : n ≤ 1024) (hn : h.2.1 25 2 = nI n) (h5 : h.2.1 25 5 = 1) (t : mT h n T) : ∀ (f j t' : Nat) (c : Int32), j + f = n → f < t' → r_Mo_count_28 t' h 25 y c (nI j) = r_Mo_count_61 h 25 y (c + nI (cn T j f)) := by
  intro f
  induction f with
  | zero =>
    intro j t' c hj ht
    obtain ⟨t', rfl⟩ : ∃ u, t' = u + 1 := ⟨t' - 1, by omega⟩
    show q_Mo_count_28 (r_Mo_count_28 t') h 25 y c (nI j) = _
    rw [q_Mo_count_28, jI_25 b, hn, if_pos ((jn_le (by omega) (by omega)).mpr (by omega))]
    show _ = r_Mo_count_61 h 25 y (c + 0)
    rw [Int32.add_zero]
  | succ f ih =>
    intro j t' c hj ht
    obtain ⟨t', rfl⟩ : ∃ u, t' = u + 1 := ⟨t' - 1, by omega⟩
    show q_Mo_count_28 (r_Mo_count_28 t') h 25 y c (nI j) = r_Mo_count_61 h 25 y (c + nI ((if T j = none then 0 else 1) + cn T (j + 1) f))
    have jn : ¬ nI n ≤ nI j := fun z => by
      have := (jn_le (by omega) (by omega)).mp z
      omega
    rw [q_Mo_count_28, jI_25 b, hn, if_neg jn, jI_25 b, h5, if_neg i10, jR_25_4 b, jE_28 b (jn_jx (by omega) (by decide)), jn_clamp (by omega)]
    rcases t j (by omega) with ⟨q1, q2⟩ | ⟨σ, q1, q2, _⟩
    · rw [q2, if_pos rfl, r_Mo_count_55, jlE, lq_ad1, ih (j + 1) t' c (by omega) (by omega), q1, if_pos rfl, Nat.zero_add]
    · rw [q2, if_neg i10, jlE, r_Mo_count_55, jlE, lq_ad1, ih (j + 1) t' (c + 1) (by omega) (by omega), q1, if_neg nofun, Int32.add_assoc, show (1 : Int32) = nI 1 from rfl, jn_add]
end R0
