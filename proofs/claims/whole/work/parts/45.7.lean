abbrev jS := (Nat → Int32 × Int64) × (Nat → Int32 × Int64) × (Nat → Int32) × (Nat → Bool)
section S0
variable {J : jS} {σ τ s t : sg_S} {u v : pv_T} {n k : Nat} {W : Nat → Int64} {len : Int32} {T : Nat → Option sg_S} {sec' : Nat → Bool}
def sv (v : pv_T) (q : Int32 × Int64) : Prop := v.1 = 0 ∨ (v.1 = q.1 ∧ iv v q.2)
def n8 (m : Nat → Int32) : Nat → Nat → Nat
  | _, 0 => 0
  | a, i + 1 => (m a).toNatClampNeg + 256 * n8 m (a + 1) i
def sc (v : pv_T) (J : jS) (e : Nat) : Prop := v.1 = 0 ∨ (v.1 = 1 ∧ (J.2.1 e).1 = 0 ∧ (∀ i, i < 8 → J.2.2.2 (8 * e + i) = true) ∧ iv v (lI (n8 J.2.2.1 (8 * e) 8))) ∨ (pn_ptr v ≠ 0 ∧ (J.2.1 e).1 = v.1 ∧ iv v (J.2.1 e).2)
def sJ (J : jS) (σ : sg_S) : Prop := (∀ c, c < 11 → sv (σ.1 c) (J.1 c)) ∧ (∀ e, e < 64 → sc (σ.1 (11 + e)) J e) ∧ (∀ j, j < 512 → σ.2 j = true → J.2.2.2 j = true ∧ (pn_ptr (σ.1 (11 + j / 8)) = 0 → (J.2.1 (j / 8)).1 = 0))
theorem iv_jl {x : Int64} {q : Int32} (h : iv u x) : iv (q, mn_L u.2.1 v.2.1, mx_L u.2.2 v.2.2) x := by
  refine ⟨?_, ?_⟩
  · show (mn_L u.2.1 v.2.1).toInt ≤ _
    rw [mn_i]
    have := h.1
    split <;> omega
  · show _ ≤ (mx_L u.2.2 v.2.2).toInt
    rw [mx_i]
    have := h.2
    split <;> omega
theorem iv_jr {x : Int64} {q : Int32} (h : iv v x) : iv (q, mn_L u.2.1 v.2.1, mx_L u.2.2 v.2.2) x := by
  refine ⟨?_, ?_⟩
  · show (mn_L u.2.1 v.2.1).toInt ≤ _
    rw [mn_i]
    have := h.1
    split <;> omega
  · show _ ≤ (mx_L u.2.2 v.2.2).toInt
    rw [mx_i]
    have := h.2
    split <;> omega
theorem pj_c (u v : pv_T) : pj_v u v = (0, 0, 0) ∨ (u.1 = v.1 ∧ pj_v u v = (u.1, mn_L u.2.1 v.2.1, mx_L u.2.2 v.2.2)) := by
  unfold pj_v
  by_cases c1 : u.1 = v.1
  · rw [if_pos c1]
    by_cases c2 : u.1 = 3
    · rw [if_pos c2]
      by_cases c3 : u.2.1 = v.2.1
      · rw [if_pos c3]
        exact Or.inr ⟨c1, rfl⟩
      · rw [if_neg c3]
        exact Or.inl rfl
    · rw [if_neg c2]
      exact Or.inr ⟨c1, rfl⟩
  · rw [if_neg c1]
    exact Or.inl rfl
theorem sv_jl {q : Int32 × Int64} (h : sv u q) : sv (pj_v u v) q := by
  rcases pj_c u v with e | ⟨e1, e2⟩
  · rw [e]
    exact Or.inl rfl
  · rw [e2]
    rcases h with h | ⟨h1, h2⟩
    · exact Or.inl h
    · exact Or.inr ⟨h1, iv_jl h2⟩
theorem sv_jr {q : Int32 × Int64} (h : sv v q) : sv (pj_v u v) q := by
  rcases pj_c u v with e | ⟨e1, e2⟩
  · rw [e]
    exact Or.inl rfl
  · rw [e2]
    rcases h with h | ⟨h1, h2⟩
    · exact Or.inl (e1.trans h)
    · exact Or.inr ⟨e1.trans h1, iv_jr h2⟩
theorem ptr_e (e : u.1 = v.1) : pn_ptr u = pn_ptr v := by
  unfold pn_ptr
  rw [e]
theorem sc_jl {e : Nat} (h : sc u J e) : sc (pj_v u v) J e := by
  rcases pj_c u v with z | ⟨z1, z2⟩
  · rw [z]
    exact Or.inl rfl
  · rw [z2]
    rcases h with h | ⟨h1, h2, h3, h4⟩ | ⟨h1, h2, h3⟩
    · exact Or.inl h
    · exact Or.inr (Or.inl ⟨h1, h2, h3, iv_jl h4⟩)
    · exact Or.inr (Or.inr ⟨by rw [ptr_e (u := (u.1, mn_L u.2.1 v.2.1, mx_L u.2.2 v.2.2)) (v := u) rfl]; exact h1, h2, iv_jl h3⟩)
theorem sc_jr {e : Nat} (h : sc v J e) : sc (pj_v u v) J e := by
  rcases pj_c u v with z | ⟨z1, z2⟩
  · rw [z]
    exact Or.inl rfl
  · rw [z2]
    rcases h with h | ⟨h1, h2, h3, h4⟩ | ⟨h1, h2, h3⟩
    · exact Or.inl (z1.trans h)
    · exact Or.inr (Or.inl ⟨z1.trans h1, h2, h3, iv_jr h4⟩)
    · exact Or.inr (Or.inr ⟨by rw [ptr_e (u := (u.1, mn_L u.2.1 v.2.1, mx_L u.2.2 v.2.2)) (v := v) z1]; exact h1, h2.trans z1.symm, iv_jr h3⟩)
theorem pj_pp (z : pj_z u v = 0) (p : pn_ptr (pj_v u v) = 0) : pn_ptr u = 0 ∧ pn_ptr v = 0 := by
  unfold pj_z at z
  unfold pj_v at p
  by_cases c1 : u.1 = v.1
  · rw [if_pos c1] at z p
    by_cases c2 : u.1 = 3
    · rw [if_pos c2] at z p
      by_cases c3 : u.2.1 = v.2.1
      · rw [if_pos c3] at p
        exact absurd p (pn_p3 c2)
      · rw [if_neg c3] at z
        exact absurd z i10
    · rw [if_neg c2] at p
      have e : pn_ptr u = 0 := (ptr_e (u := u) (v := (u.1, mn_L u.2.1 v.2.1, mx_L u.2.2 v.2.2)) rfl).trans p
      exact ⟨e, (ptr_e c1).symm.trans e⟩
  · rw [if_neg c1] at z
    by_cases c2 : pn_ptr u = 0
    · rw [if_pos c2] at z
      exact ⟨c2, z⟩
    · rw [if_neg c2] at z
      exact absurd z i10
theorem sJ_b {j : Nat} (h : (sg_j s t).2 j = true) : pj_z (s.1 (11 + j / 8)) (t.1 (11 + j / 8)) = 0 ∧ s.2 j = true ∧ t.2 j = true := by
  have e : (sg_j s t).2 j = if pj_z (s.1 (11 + j / 8)) (t.1 (11 + j / 8)) = 0 then s.2 j && t.2 j else false := rfl
  rw [e] at h
  by_cases z : pj_z (s.1 (11 + j / 8)) (t.1 (11 + j / 8)) = 0
  · rw [if_pos z] at h
    exact ⟨z, (Bool.and_eq_true _ _ ▸ h : s.2 j = true ∧ t.2 j = true)⟩
  · rw [if_neg z] at h
    cases h
theorem sJ_l (h : sJ J s) : sJ J (sg_j s t) := by
  refine ⟨fun c hc => sv_jl (h.1 c hc), fun e he => sc_jl (h.2.1 e he), fun j hj hb => ?_⟩
  obtain ⟨z, b1, b2⟩ := sJ_b hb
  obtain ⟨d1, d2⟩ := h.2.2 j hj b1
  exact ⟨d1, fun p => d2 (pj_pp z p).1⟩
theorem sJ_r (h : sJ J t) : sJ J (sg_j s t) := by
  refine ⟨fun c hc => sv_jr (h.1 c hc), fun e he => sc_jr (h.2.1 e he), fun j hj hb => ?_⟩
  obtain ⟨z, b1, b2⟩ := sJ_b hb
  obtain ⟨d1, d2⟩ := h.2.2 j hj b2
  exact ⟨d1, fun p => d2 (pj_pp z p).2⟩
def sT (J : jS) (T : Nat → Option sg_S) (k : Nat) : Prop := ∃ σ, T k = some σ ∧ sJ J σ
theorem sT_fl {j : Nat} (h : sT J T j) : sT J (fl T k σ) j := by
  obtain ⟨τ, e, hJ⟩ := h
  by_cases z : j = k
  · subst z
    refine ⟨sg_j τ σ, ?_, sJ_l hJ⟩
    rw [fl_at, if_pos rfl, e]
    rfl
  · refine ⟨τ, ?_, hJ⟩
    rw [fl_at, if_neg z]
    exact e
theorem sT_new (h : sJ J σ) : sT J (fl T k σ) k := by
  cases e : T k with
  | none =>
    refine ⟨σ, ?_, h⟩
    rw [fl_at, if_pos rfl, e]
    rfl
  | some τ =>
    refine ⟨sg_j τ σ, ?_, sJ_r h⟩
    rw [fl_at, if_pos rfl, e]
    rfl
theorem sT_fls {j : Nat} : ∀ (l : List (Nat × sg_S)) (T : Nat → Option sg_S), sT J T j → sT J (fls T l) j := by
  intro l
  induction l with
  | nil => intro T h; exact h
  | cons p l ih => intro T h; exact ih _ (sT_fl h)
theorem sT_in : ∀ (l : List (Nat × sg_S)) (T : Nat → Option sg_S) (p : Nat × sg_S), p ∈ l → sJ J p.2 → sT J (fls T l) p.1 := by
  intro l
  induction l with
  | nil => intro T p hp; exact absurd hp List.not_mem_nil
  | cons q l ih =>
    intro T p hp hJ
    rcases List.mem_cons.mp hp with e | e
    · subst e
      exact sT_fls l _ (sT_new hJ)
    · exact ih _ p e hJ
theorem sT_pe {j : Nat} : ∀ (f k : Nat) (T : Nat → Option sg_S) (q : Int32), sT J T j → sT J (pe W n len f k T q).2.2.1 j := by
  intro f
  induction f with
  | zero => intro k T q h; exact h
  | succ f ih =>
    intro k T q h
    cases y : T k with
    | none =>
      rw [pe_n y]
      exact ih _ _ _ h
    | some σ =>
      rw [pe_s y]
      split
      · exact ih _ _ _ (sT_fls _ _ h)
      · exact h
theorem pe_cl (F : jq_F W n sec') : ∀ (f k : Nat) (T : Nat → Option sg_S) (q : Int32), k + f = n → jq_T n sec' T → (pe W n len f k T q).1 = 0 → ∀ j, k ≤ j → j < n → ∀ σ, (pe W n len f k T q).2.2.1 j = some σ → (sg_one (jw_f (W j)) (pf_nx W n (j + 1)) len j σ).1 = 0 ∧ ∀ J, ∀ p ∈ (sg_one (jw_f (W j)) (pf_nx W n (j + 1)) len j σ).2, sJ J p.2 → sT J (pe W n len f k T q).2.2.1 p.1 := by
  intro f
  induction f with
  | zero => intro k T q hk _ _ j h1 h2; omega
  | succ f ih =>
    intro k T q hk Q h0 j h1 h2 τ e
    obtain ⟨r1, r2, r3⟩ := pe_fin F (f + 1) k T q hk Q h0
    cases y : T k with
    | none =>
      rw [pe_n y] at h0 e ⊢
      by_cases jk : j = k
      · obtain ⟨_, a2, _⟩ := pe_fin F f (k + 1) T q (by omega) Q h0
        rw [jk, a2 k (by omega), y] at e
        cases e
      · exact ih (k + 1) T q (by omega) Q h0 j (by omega) h2 τ e
    | some σ =>
      rw [pe_s y] at h0 e ⊢
      obtain ⟨_, hs, ok⟩ := Q k σ y
      obtain ⟨Fw, Fp⟩ := F k (by omega) hs
      by_cases z : (sg_one (jw_f (W k)) (pf_nx W n (k + 1)) len k σ).1 = 0
      · rw [if_pos z] at h0 e ⊢
        have Q4 : jq_T n sec' (fls T (sg_one (jw_f (W k)) (pf_nx W n (k + 1)) len k σ).2) := fls_q _ _ Q (fun p hp => ⟨(Fp _ _ _ p hp).1, (Fp _ _ _ p hp).2, sg_one_ok Fw ok p hp⟩)
        by_cases jk : j = k
        · obtain ⟨_, a2, _⟩ := pe_fin F f (k + 1) _ (q + 1) (by omega) Q4 h0
          have kp : fls T (sg_one (jw_f (W k)) (pf_nx W n (k + 1)) len k σ).2 k = T k := fls_ne _ _ _ (fun p hp => sg_one_gt Fw hp)
          rw [jk, a2 k (by omega), kp, y] at e
          cases e
          rw [jk]
          exact ⟨z, fun J p hp hJ => sT_pe f (k + 1) _ (q + 1) (sT_in _ T p hp hJ)⟩
        · exact ih (k + 1) _ (q + 1) (by omega) Q4 h0 j (by omega) h2 τ e
      · rw [if_neg z] at h0
        exact absurd h0 z
theorem vr_cl (n1 : n ≤ 1024) (n0 : 0 < n) (z : (vr W n len).1 = 0) : ∀ j, j < n → ∀ σ, (vr W n len).2.2.1 j = some σ → (sg_one (jw_f (W j)) (pf_nx W n (j + 1)) len j σ).1 = 0 ∧ ∀ J, ∀ p ∈ (sg_one (jw_f (W j)) (pf_nx W n (j + 1)) len j σ).2, sJ J p.2 → sT J (vr W n len).2.2.1 p.1 := by
  have p0 := vr_px z
  have e : vr W n len = pe W n len n 0 pe_0 0 := if_pos p0
  rw [e] at z ⊢
  exact fun j hj => pe_cl (jq_of n1 p0) n 0 pe_0 0 (by omega) (pe_0_q n0) z j (by omega) hj
end S0
