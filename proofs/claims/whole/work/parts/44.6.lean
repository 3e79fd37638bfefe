section MT
variable {h g f : ja_H} {r s c k n : Nat} {v : pv_T} {σ τ ρ : sg_S} {T : Nat → Option sg_S} {x : Int32}
def mo_f (h g : ja_H) : Prop := g.1 = h.1 ∧ g.2.2.2 = h.2.2.2 ∧ (∀ a b, a ≠ 28 → a ≠ 30 → a ≠ 33 → ¬ (a = 25 ∧ b = 16) → g.2.1 a b = h.2.1 a b) ∧ (∀ a b, a ≠ 31 → a ≠ 32 → g.2.2.1 a b = h.2.2.1 a b)
theorem mo_f0 : mo_f h h := ⟨rfl, rfl, fun _ _ _ _ _ _ => rfl, fun _ _ _ _ => rfl⟩
theorem mo_ft (p : mo_f h g) (q : mo_f g f) : mo_f h f := ⟨q.1.trans p.1, q.2.1.trans p.2.1, fun a b x y z w => (q.2.2.1 a b x y z w).trans (p.2.2.1 a b x y z w), fun a b x y => (q.2.2.2 a b x y).trans (p.2.2.2 a b x y)⟩
theorem mo_fF (p : mF s h g) : mo_f h g := ⟨p.1, p.2.1, fun a b _ h2 h3 _ => p.2.2.1 a b (fun q => h2 q.1) (fun q => h3 q.1), fun a b h1 h2 => p.2.2.2 a b (fun q => q.1.elim h1 h2)⟩
theorem mo_fB (b : jv_B h) (p : mo_f h g) : jv_B g := by
  refine ⟨fun i hi => ?_, fun q hq => ?_⟩
  · rw [p.1]
    exact b.1 i hi
  · rw [p.2.1]
    exact b.2 q hq
theorem mo_fw : mo_f h (ja_sI h 25 16 x) := by
  refine ⟨rfl, rfl, fun a b _ _ _ q => ?_, fun _ _ _ _ => rfl⟩
  rw [ja_rI, if_neg q]
theorem mo_f28 : mo_f h (ja_sI h 28 k x) := by
  refine ⟨rfl, rfl, fun a b q _ _ _ => ?_, fun _ _ _ _ => rfl⟩
  rw [ja_rI, if_neg (fun z => q z.1)]
theorem mS_I {a b : Nat} (ha : a ≠ 30) (hb : a ≠ 33) (m : mS h r σ) : mS (ja_sI h a b x) r σ := by
  refine ⟨fun c hc => ?_, fun j hj => ?_⟩
  · rw [← m.1 c hc]
    unfold mv
    rw [ja_rI, if_neg (by omega)]
    rfl
  · rw [← m.2 j hj, ja_rI, if_neg (by omega)]
def mT (h : ja_H) (n : Nat) (T : Nat → Option sg_S) : Prop := ∀ k, k < n → (T k = none ∧ h.2.1 28 k = 0) ∨ (∃ σ, T k = some σ ∧ h.2.1 28 k = 1 ∧ mS h k σ)
theorem mT_F (hn : n ≤ 1024) (hs : 1024 ≤ s) (p : mF s h g) (t : mT h n T) : mT g n T := by
  intro k hk
  have e : g.2.1 28 k = h.2.1 28 k := p.2.2.1 28 k (by omega) (by omega)
  rw [e]
  rcases t k hk with q | ⟨σ, q1, q2, q3⟩
  · exact Or.inl q
  · exact Or.inr ⟨σ, q1, q2, mF_S p (by omega) q3⟩
theorem mT_w (t : mT h n T) : mT (ja_sI h 25 16 x) n T := by
  intro k hk
  have e : (ja_sI h 25 16 x).2.1 28 k = h.2.1 28 k := by rw [ja_rI, if_neg (by omega)]
  rw [e]
  rcases t k hk with q | ⟨σ, q1, q2, q3⟩
  · exact Or.inl q
  · exact Or.inr ⟨σ, q1, q2, mS_I (by decide) (by decide) q3⟩
theorem mo_comes (b : jv_B h) (hn : n ≤ 1024) (t : mT h n T) (hk : k < n) (hr : r < 1026) (rk : r ≠ k) (m : mS h r σ) (ok : sg_ok σ) (okT : ∀ τ, T k = some τ → sg_ok τ) : ∃ h', r_Mo_comes h 25 (nI r) (nI k) = some h' ∧ mo_f h h' ∧ mT h' n (fl T k σ) ∧ (∀ r' ρ, r' ≠ k → mS h r' ρ → mS h' r' ρ) := by
  have k1 : k < 1024 := by omega
  have j : jx (nI k) 1024 := jn_jx k1 (by decide)
  have cl : (nI k).toNatClampNeg = k := jn_clamp (by omega)
  simp only [r_Mo_comes, jR_25_4 b, jE_28 b j, cl, jlE]
  rcases t k hk with ⟨q1, q2⟩ | ⟨τ, q1, q2, q3⟩
  · have b1 : jv_B (ja_sI h 28 k 1) := b
    rw [if_pos q2, jW_28 b j, cl, show vp_nar .boolean 1 = 1 by decide, jk_25 b1]
    obtain ⟨h', u1, u2, u3⟩ := mo_copy (h := ja_sI h 28 k 1) b1 hr (show k < 1026 by omega) rk (mS_I (by decide) (by decide) m) ok
    rw [u1, jcV]
    have e28 : ∀ i, h'.2.1 28 i = if i = k then 1 else h.2.1 28 i := fun i => by
      rw [u2.2.2.1 28 i (by omega) (by omega), ja_rI]
      by_cases z : i = k
      · rw [if_pos ⟨rfl, z⟩, if_pos z]
      · rw [if_neg (fun w => z w.2), if_neg z]
    have keep : ∀ r' ρ, r' ≠ k → mS h r' ρ → mS h' r' ρ := fun r' ρ n1 n2 => mF_S u2 n1 (mS_I (by decide) (by decide) n2)
    refine ⟨h', rfl, mo_ft mo_f28 (mo_fF u2), fun i hi => ?_, keep⟩
    rw [fl_at, e28]
    by_cases z : i = k
    · rw [if_pos z, if_pos z, q1, z]
      exact Or.inr ⟨σ, rfl, rfl, u3⟩
    · rw [if_neg z, if_neg z]
      rcases t i hi with w | ⟨ρ, w1, w2, w3⟩
      · exact Or.inl w
      · exact Or.inr ⟨ρ, w1, w2, keep i ρ z w3⟩
  · rw [q2, if_neg i10]
    obtain ⟨h', u1, u2, u3⟩ := mo_join b hr (show k < 1026 by omega) rk m q3 ok (okT τ q1)
    have keep : ∀ r' ρ, r' ≠ k → mS h r' ρ → mS h' r' ρ := fun r' ρ n1 n2 => mF_S u2 n1 n2
    refine ⟨h', u1, mo_fF u2, fun i hi => ?_, keep⟩
    have e28 : h'.2.1 28 i = h.2.1 28 i := u2.2.2.1 28 i (by omega) (by omega)
    rw [fl_at, e28]
    by_cases z : i = k
    · rw [if_pos z, q1, z]
      exact Or.inr ⟨_, rfl, q2, u3⟩
    · rw [if_neg z]
      rcases t i hi with w | ⟨ρ, w1, w2, w3⟩
      · exact Or.inl w
      · exact Or.inr ⟨ρ, w1, w2, keep i ρ z w3⟩
theorem mo_bg2 : ∀ (t : Nat) (h : ja_H) (j : Nat), jv_B h → j ≤ 75 → 75 - j < t → ∃ h', r_Mo_begin_2 t h 25 (nI j) = r_Mo_begin_25 ja_fu h' 25 0 ∧ mF 0 h h' ∧ (∀ c, c < 75 → mv h' 0 c = if j ≤ c then (0, 0, 0) else mv h 0 c) := by
  intro t
  induction t with
  | zero => intro h j _ _ ht; omega
  | succ t ih =>
    intro h j b hj ht
    show ∃ h', q_Mo_begin_2 (r_Mo_begin_2 t) h 25 (nI j) = _ ∧ _
    have e1 : ((75 : Int32) ≤ nI j) = (75 ≤ j) := propext (jn_le (a := 75) (by omega) (by omega))
    simp only [q_Mo_begin_2, jlE, e1, lq_ad1]
    by_cases q : 75 ≤ j
    · rw [if_pos q]
      refine ⟨h, rfl, mF0, fun c hc => ?_⟩
      rw [if_neg (by omega)]
    · have j75 : j < 75 := by omega
      have gv : r_Mo_give h 25 0 (nI j) 0 0 0 = some (mgv h 0 j (0, 0, 0)) := mo_give (r := 0) b (by decide) j75 (Or.inl rfl)
      have p : mF 0 h (mgv h 0 j (0, 0, 0)) := mF_g j75
      rw [if_neg q, jk_25 b, gv, jcV]
      obtain ⟨h', u1, u2, u3⟩ := ih (mgv h 0 j (0, 0, 0)) (j + 1) (mF_B b p) (by omega) (by omega)
      refine ⟨h', u1, mFt p u2, fun c hc => ?_⟩
      rw [u3 c hc, mgv_v j75 hc]
      by_cases z : c = j
      · subst z
        rw [if_neg (by omega), if_pos ⟨rfl, rfl⟩, if_pos (by omega)]
      · rw [if_neg (c := 0 = 0 ∧ c = j) (fun w => z w.2)]
        by_cases y : j + 1 ≤ c
        · rw [if_pos y, if_pos (by omega)]
        · rw [if_neg y, if_neg (by omega)]
theorem mo_bg25 : ∀ (t : Nat) (h : ja_H) (j : Nat), jv_B h → j ≤ 512 → 512 - j < t → ∃ h', r_Mo_begin_25 t h 25 (nI j) = some (ja_sI (mgv (mgv h' 0 1 (2, 0, 0)) 0 10 (3, 0, 0)) 28 0 1) ∧ mF 0 h h' ∧ (∀ c, c < 75 → mv h' 0 c = mv h 0 c) ∧ (∀ i, i < 512 → h'.2.1 33 (512 * 0 + i) = if j ≤ i then 0 else h.2.1 33 (512 * 0 + i)) := by
  intro t
  induction t with
  | zero => intro h j _ _ ht; omega
  | succ t ih =>
    intro h j b hj ht
    show ∃ h', q_Mo_begin_25 (r_Mo_begin_25 t) h 25 (nI j) = _ ∧ _
    have e1 : ((512 : Int32) ≤ nI j) = (512 ≤ j) := propext (jn_le (a := 512) (by omega) (by omega))
    simp only [q_Mo_begin_25, jlE, e1, lq_ad1]
    by_cases q : 512 ≤ j
    · have b1 : jv_B (mgv h 0 1 (2, 0, 0)) := b
      have b2 : jv_B (mgv (mgv h 0 1 (2, 0, 0)) 0 10 (3, 0, 0)) := b
      have g1 : r_Mo_give h 25 0 1 2 0 0 = some (mgv h 0 1 (2, 0, 0)) := mo_give (r := 0) (c := 1) b (by decide) (by decide) (Or.inr (Or.inr (Or.inl rfl)))
      have g2 : r_Mo_give (mgv h 0 1 (2, 0, 0)) 25 0 10 3 0 0 = some (mgv (mgv h 0 1 (2, 0, 0)) 0 10 (3, 0, 0)) := mo_give (r := 0) (c := 10) b1 (by decide) (by decide) (Or.inr (Or.inr (Or.inr rfl)))
      rw [if_pos q, jk_25 b, g1, jcV, jk_25 b1, g2, jcV, jR_25_4 b2, jW_28 b2 (by decide), show vp_nar .boolean 1 = 1 by decide]
      refine ⟨h, rfl, mF0, fun _ _ => rfl, fun i hi => ?_⟩
      rw [if_neg (by omega)]
    · have j5 : j < 512 := by omega
      have wz : ∀ K : ja_H → Option ja_H, js_Z h 33 (nI j) 0 K = K (ja_sI h 33 (512 * 0 + j) 0) := fun K => by
        have := mo_W33 (K := K) b (show 0 < 1026 by decide) j5 (Or.inl rfl)
        rw [show 512 * 0 + j = j by omega] at this ⊢
        exact this
      have p : mF 0 h (ja_sI h 33 (512 * 0 + j) 0) := mF_z j5
      rw [if_neg q, jR_25_13 b, wz]
      obtain ⟨h', u1, u2, u3, u4⟩ := ih (ja_sI h 33 (512 * 0 + j) 0) (j + 1) (mF_B b p) (by omega) (by omega)
      refine ⟨h', u1, mFt p u2, fun c hc => (u3 c hc).trans mz_v, fun i hi => ?_⟩
      rw [u4 i hi, mz_j j5 hi]
      by_cases z : i = j
      · subst z
        rw [if_neg (by omega), if_pos ⟨rfl, rfl⟩, if_pos (by omega)]
      · rw [if_neg (c := 0 = 0 ∧ i = j) (fun w => z w.2)]
        by_cases y : j + 1 ≤ i
        · rw [if_pos y, if_pos (by omega)]
        · rw [if_neg y, if_neg (by omega)]
theorem mo_begin (b : jv_B h) (z : ∀ k, k < n → h.2.1 28 k = 0) : ∃ h', r_Mo_begin h 25 = some h' ∧ mo_f h h' ∧ mT h' n pe_0 := by
  obtain ⟨h1, u1, u2, u3⟩ := mo_bg2 ja_fu h 0 b (by omega) (by rw [ja_fu_eq]; decide)
  have b1 := mF_B b u2
  obtain ⟨h2, v1, v2, v3, v4⟩ := mo_bg25 ja_fu h1 0 b1 (by omega) (by rw [ja_fu_eq]; decide)
  have p1 : mF 0 h2 (mgv h2 0 1 (2, 0, 0)) := mF_g (by decide)
  have p2 : mF 0 (mgv h2 0 1 (2, 0, 0)) (mgv (mgv h2 0 1 (2, 0, 0)) 0 10 (3, 0, 0)) := mF_g (by decide)
  have pp := mFt (mFt (mFt u2 v2) p1) p2
  refine ⟨ja_sI (mgv (mgv h2 0 1 (2, 0, 0)) 0 10 (3, 0, 0)) 28 0 1, ?_, mo_ft (mo_fF pp) mo_f28, fun k hk => ?_⟩
  · simp only [r_Mo_begin, jlE]
    exact u1.trans v1
  · unfold pe_0
    have e28 : ∀ i, (mgv (mgv h2 0 1 (2, 0, 0)) 0 10 (3, 0, 0)).2.1 28 i = h.2.1 28 i := fun i => pp.2.2.1 28 i (by omega) (by omega)
    by_cases k0 : k = 0
    · subst k0
      refine Or.inr ⟨sg_b, if_pos rfl, by rw [ja_rI, if_pos ⟨rfl, rfl⟩], mS_I (by decide) (by decide) ⟨fun c hc => ?_, fun j hj => ?_⟩⟩
      · rw [mgv_v (by decide) hc, mgv_v (by decide) hc, v3 c hc, u3 c hc, if_pos (show 0 ≤ c by omega)]
        show _ = pb_0 c
        unfold pb_0
        by_cases c1 : c = 1
        · rw [if_neg (by omega), if_pos ⟨rfl, c1⟩, if_pos c1]
        · by_cases c10 : c = 10
          · rw [if_pos ⟨rfl, c10⟩, if_neg c1, if_pos c10]
          · rw [if_neg (fun w => c10 w.2), if_neg (fun w => c1 w.2), if_neg c1, if_neg c10]
      · rw [mgv_j, mgv_j, v4 j hj, if_pos (show 0 ≤ j by omega)]
        rfl
    · refine Or.inl ⟨if_neg k0, ?_⟩
      rw [ja_rI, if_neg (fun w => k0 w.2), e28]
      exact z k hk
end MT
