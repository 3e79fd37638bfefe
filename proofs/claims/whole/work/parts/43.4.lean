section FL
variable {x y a b : Int64} {g : Nat → Int32} {u v l r : pv_T} {s t : sg_S} {len : Int32}
def pv_ok (v : pv_T) : Prop := (v.1 = 0 ∧ v.2.1 = 0 ∧ v.2.2 = 0) ∨ (v.1 = 1 ∧ v.2.1.toInt ≤ v.2.2.toInt) ∨ (v.1 = 2 ∧ -100000 ≤ v.2.1.toInt ∧ v.2.1.toInt ≤ v.2.2.toInt ∧ v.2.2.toInt ≤ 100000) ∨ (v.1 = 3 ∧ v.2.1 = v.2.2 ∧ -100000 ≤ v.2.1.toInt ∧ v.2.1.toInt ≤ 100000)
def sg_ok (s : sg_S) : Prop := ∀ c, c < 75 → pv_ok (s.1 c)
theorem pv_0 : pv_ok (0, 0, 0) := Or.inl ⟨rfl, rfl, rfl⟩
theorem pv_1 (h : x.toInt ≤ y.toInt) : pv_ok (1, x, y) := Or.inr (Or.inl ⟨rfl, h⟩)
theorem pv_any : pv_ok pn_any := pv_1 (by decide)
theorem pv_k0 (h : pv_ok v) (e : v.1 = 0) : v = (0, 0, 0) := by
  rcases h with q | q | q | q
  · obtain ⟨v1, v2, v3⟩ := v
    simp only at q
    rw [q.1, q.2.1, q.2.2]
  · rw [q.1] at e
    exact absurd e (by decide)
  · rw [q.1] at e
    exact absurd e (by decide)
  · rw [q.1] at e
    exact absurd e (by decide)
theorem pv_k1 (h : pv_ok v) (e : v.1 = 1) : v.2.1.toInt ≤ v.2.2.toInt := by
  rcases h with q | q | q | q
  · rw [q.1] at e
    exact absurd e (by decide)
  · exact q.2
  · rw [q.1] at e
    exact absurd e (by decide)
  · rw [q.1] at e
    exact absurd e (by decide)
theorem pv_k2 (h : pv_ok v) (e : v.1 = 2) : -100000 ≤ v.2.1.toInt ∧ v.2.1.toInt ≤ v.2.2.toInt ∧ v.2.2.toInt ≤ 100000 := by
  rcases h with q | q | q | q
  · rw [q.1] at e
    exact absurd e (by decide)
  · rw [q.1] at e
    exact absurd e (by decide)
  · exact q.2
  · rw [q.1] at e
    exact absurd e (by decide)
theorem pv_k3 (h : pv_ok v) (e : v.1 = 3) : v.2.1 = v.2.2 ∧ -100000 ≤ v.2.1.toInt ∧ v.2.1.toInt ≤ 100000 := by
  rcases h with q | q | q | q
  · rw [q.1] at e
    exact absurd e (by decide)
  · rw [q.1] at e
    exact absurd e (by decide)
  · rw [q.1] at e
    exact absurd e (by decide)
  · exact q.2
theorem pv_le (h : pv_ok v) : v.2.1.toInt ≤ v.2.2.toInt := by
  rcases h with q | q | q | q
  · rw [q.2.1, q.2.2]
    exact Int.le_refl _
  · exact q.2
  · exact q.2.2.1
  · rw [q.2.1]
    exact Int.le_refl _
theorem pv_c (h : pv_ok v) : v.1 = 0 ∨ v.1 = 1 ∨ v.1 = 2 ∨ v.1 = 3 := by
  rcases h with q | q | q | q
  · exact Or.inl q.1
  · exact Or.inr (Or.inl q.1)
  · exact Or.inr (Or.inr (Or.inl q.1))
  · exact Or.inr (Or.inr (Or.inr q.1))
theorem pp_0 (h : pn_ptr v = 0) : v.1 ≠ 2 ∧ v.1 ≠ 3 := by
  unfold pn_ptr at h
  refine ⟨fun q => ?_, fun q => ?_⟩
  · rw [if_pos q] at h
    exact absurd h (by decide)
  · rw [if_neg (by rw [q]; decide), if_pos q] at h
    exact absurd h (by decide)
theorem pp_1 (h : pn_ptr v ≠ 0) : v.1 = 2 ∨ v.1 = 3 := by
  unfold pn_ptr at h
  by_cases q : v.1 = 2
  · exact Or.inl q
  · by_cases q3 : v.1 = 3
    · exact Or.inr q3
    · rw [if_neg q, if_neg q3] at h
      exact absurd rfl h
theorem pp_n (h : pv_ok v) (h0 : v.1 ≠ 0) (h1 : pn_ptr v = 0) : v.1 = 1 := by
  have := pp_0 h1
  rcases pv_c h with q | q | q | q
  · exact absurd q h0
  · exact q
  · exact absurd q this.1
  · exact absurd q this.2
theorem pv_pj (hu : pv_ok u) (hv : pv_ok v) : pv_ok (pj_v u v) := by
  unfold pj_v
  have l1 := pv_le hu
  have l2 := pv_le hv
  have lm : (mn_L u.2.1 v.2.1).toInt ≤ (mx_L u.2.2 v.2.2).toInt := by
    rw [mn_i, mx_i]
    (repeat' split) <;> omega
  by_cases c1 : u.1 = v.1
  · rw [if_pos c1]
    by_cases c2 : u.1 = 3
    · rw [if_pos c2]
      by_cases c3 : u.2.1 = v.2.1
      · rw [if_pos c3]
        have k1 := pv_k3 hu c2
        have k2 := pv_k3 hv (c1 ▸ c2)
        refine Or.inr (Or.inr (Or.inr ⟨c2, ?_, ?_, ?_⟩))
        · show mn_L u.2.1 v.2.1 = mx_L u.2.2 v.2.2
          rw [← k1.1, ← k2.1, ← c3]
          unfold mn_L mx_L
          rw [ite_self]
        · show -100000 ≤ (mn_L u.2.1 v.2.1).toInt
          rw [mn_i]
          split <;> omega
        · show (mn_L u.2.1 v.2.1).toInt ≤ 100000
          rw [mn_i]
          split <;> omega
      · rw [if_neg c3]
        exact pv_0
    · rw [if_neg c2]
      rcases pv_c hu with q | q | q | q
      · have e1 := pv_k0 hu q
        have e2 := pv_k0 hv (c1 ▸ q)
        rw [e1, e2]
        exact Or.inl ⟨rfl, by decide, by decide⟩
      · exact Or.inr (Or.inl ⟨q, lm⟩)
      · have k1 := pv_k2 hu q
        have k2 := pv_k2 hv (c1 ▸ q)
        refine Or.inr (Or.inr (Or.inl ⟨q, ?_, lm, ?_⟩))
        · show -100000 ≤ (mn_L u.2.1 v.2.1).toInt
          rw [mn_i]
          split <;> omega
        · show (mx_L u.2.2 v.2.2).toInt ≤ 100000
          rw [mx_i]
          split <;> omega
      · exact absurd q c2
  · rw [if_neg c1]
    exact pv_0
theorem sg_j_ok (hs : sg_ok s) (ht : sg_ok t) : sg_ok (sg_j s t) := fun c hc => pv_pj (hs c hc) (ht c hc)
theorem sg_set_ok (hs : sg_ok s) (hv : pv_ok v) {d : Nat} : sg_ok (sg_set s d v) := fun c hc => by
  show pv_ok (pu_f s.1 d v c)
  unfold pu_f
  split
  · exact hv
  · exact hs c hc
theorem sg_b_ok : sg_ok sg_b := fun c _ => by
  show pv_ok (pb_0 c)
  unfold pb_0
  split
  · exact Or.inr (Or.inr (Or.inl ⟨rfl, by decide, by decide, by decide⟩))
  · split
    · exact Or.inr (Or.inr (Or.inr ⟨rfl, rfl, by decide, by decide⟩))
    · exact pv_0
theorem sg_kp_ok (hs : sg_ok s) (hv : pv_ok v) {p : Nat} : sg_ok (sg_kp s p v) := fun c hc => by
  show pv_ok (pu_f s.1 (11 + p / 8) v c)
  unfold pu_f
  split
  · exact hv
  · exact hs c hc
theorem sg_st_ok (hs : sg_ok s) {p n : Nat} : sg_ok (sg_st s p n) := fun c hc => by
  show pv_ok (if 11 + p / 8 ≤ c ∧ c ≤ 11 + (p + n - 1) / 8 then (0, 0, 0) else s.1 c)
  split
  · exact pv_0
  · exact hs c hc
theorem pn_c_ok {v : pv_T} (hk : v.1 = 1) (h : (pn_c v).1 ≠ 0) : pv_ok (pn_c v).2 := by
  refine Or.inr (Or.inl ⟨hk, ?_⟩)
  show v.2.1.toInt ≤ v.2.2.toInt
  have e : (pn_c v).1 = if v.2.2 < v.2.1 then 0 else 1 := rfl
  rw [e] at h
  by_cases q : v.2.2 < v.2.1
  · rw [if_pos q] at h
    exact absurd rfl h
  · rw [ai_lt] at q
    omega
theorem pn_ns_ok {rel : Int32} {k : Int64} (hk : v.1 = 1) (h : (pn_ns rel v k).1 ≠ 0) : pv_ok (pn_ns rel v k).2 := by
  revert h
  unfold pn_ns
  split
  · intro h
    exact absurd rfl h
  · split
    · exact pn_c_ok hk
    · split
      · exact pn_c_ok hk
      · split
        · exact pn_c_ok hk
        · split
          · exact pn_c_ok hk
          · exact pn_c_ok hk
theorem pn_nar_ok {rel : Int32} {k : Int64} (hv : pv_ok v) (hk : v.1 = 1) (h : (pn_nar rel v k).1 ≠ 0) : pv_ok (pn_nar rel v k).2 := by
  have hab : ∀ rel, (pn_ab rel v k).1 ≠ 0 → pv_ok (pn_ab rel v k).2 := fun rel => by
    unfold pn_ab
    split
    · exact fun _ => hv
    · split
      · exact fun _ => hv
      · exact pn_ns_ok hk
  have hbl : ∀ rel, (pn_bl rel v k).1 ≠ 0 → pv_ok (pn_bl rel v k).2 := fun rel => by
    unfold pn_bl
    split
    · exact pn_ns_ok (v := pa_lo v (mx_L v.2.1 0)) hk
    · exact fun _ => hv
  have hlv : (pn_leave v k).1 ≠ 0 → pv_ok (pn_leave v k).2 := by
    have l1 := pv_le hv
    unfold pn_leave
    split
    · split
      · exact fun _ => hv
      · exact fun _ => hv
    · next q1 =>
      have q1' : v.2.1.toInt ≠ v.2.2.toInt := fun q => q1 (ai_eq.mpr q)
      have e1 : (1 : Int64).toInt = 1 := rfl
      split
      · next q2 =>
        intro _
        have hh := ai_hi v.2.2
        have hl := ai_lo v.2.1
        have e := ai_add (x := k) (y := 1) (by rw [← q2, e1]; omega) (by rw [← q2, e1]; omega)
        refine Or.inr (Or.inl ⟨hk, ?_⟩)
        show (k + 1).toInt ≤ v.2.2.toInt
        rw [e, ← q2, e1]
        omega
      · next q2 =>
        split
        · next q3 =>
          intro _
          have hh := ai_hi v.2.2
          have hl := ai_lo v.2.1
          have e := ai_sub (x := k) (y := 1) (by rw [← q3, e1]; omega) (by rw [← q3, e1]; omega)
          refine Or.inr (Or.inl ⟨hk, ?_⟩)
          show v.2.1.toInt ≤ (k - 1).toInt
          rw [e, ← q3, e1]
          omega
        · exact fun _ => hv
  revert h
  unfold pn_nar
  split
  · exact pn_c_ok (v := (v.1, mx_L v.2.1 k, mn_L v.2.2 k)) hk
  · split
    · exact hab _
    · split
      · exact hab _
      · split
        · exact hlv
        · split
          · exact hbl _
          · split
            · exact hbl _
            · exact pn_ns_ok hk
theorem pj_nw_ok {rel : Int32} (hl : pv_ok l) (hk : l.1 = 1) (h : (pj_nw g l r rel).1 ≠ 0) : pv_ok (pj_nw g l r rel).2 := by
  revert h
  unfold pj_nw
  split
  · split
    · exact fun _ => hl
    · split
      · exact fun _ => hl
      · exact pn_nar_ok hl hk
  · exact fun _ => hl
theorem pn_in_1 {v : pv_T} (h : pn_in v a b ≠ 0) : a.toInt ≤ v.2.1.toInt ∧ v.2.2.toInt ≤ b.toInt := by
  unfold pn_in at h
  by_cases q1 : v.2.1 < a
  · rw [if_pos q1] at h
    exact absurd rfl h
  · rw [if_neg q1] at h
    by_cases q2 : b < v.2.2
    · rw [if_pos q2] at h
      exact absurd rfl h
    · rw [ai_lt] at q1 q2
      omega
theorem pn_in_0 {v : pv_T} (h1 : a.toInt ≤ v.2.1.toInt) (h2 : v.2.2.toInt ≤ b.toInt) : pn_in v a b = 1 := by
  unfold pn_in
  rw [if_neg (by rw [ai_lt]; omega), if_neg (by rw [ai_lt]; omega)]
theorem k2e5 : (-200000 : Int64).toInt = -200000 ∧ (200000 : Int64).toInt = 200000 ∧ (-100000 : Int64).toInt = -100000 ∧ (100000 : Int64).toInt = 100000 := by decide
theorem pj_mp2_ok {p b : pv_T} (hp : pv_ok p) (hb : pv_ok b) (pk : p.1 = 2 ∨ p.1 = 3) (bk : b.1 = 1) (h3 : p.1 = 3 → pn_one b ≠ 0) (h : (pj_mp2 g l p b).1 = 0) : pv_ok (pj_mp2 g l p b).2 := by
  revert h
  unfold pj_mp2
  by_cases q1 : pn_in b (-200000) 200000 = 0
  · rw [if_pos q1]
    intro h
    exact absurd h (show ¬ (7 : Int32) = 0 by decide)
  · rw [if_neg q1]
    have i1 := pn_in_1 q1
    have bl := pv_k1 hb bk
    obtain ⟨c1, c2, c3, c4⟩ := k2e5
    rw [c1, c2] at i1
    have pb : -100000 ≤ p.2.1.toInt ∧ p.2.1.toInt ≤ p.2.2.toInt ∧ p.2.2.toInt ≤ 100000 := by
      rcases pk with q | q
      · exact pv_k2 hp q
      · have := pv_k3 hp q
        rw [← this.1]
        omega
    have e1 := ai_add (x := p.2.1) (y := b.2.1) (by omega) (by omega)
    have e2 := ai_add (x := p.2.2) (y := b.2.2) (by omega) (by omega)
    have e3 := ai_sub (x := p.2.1) (y := b.2.2) (by omega) (by omega)
    have e4 := ai_sub (x := p.2.2) (y := b.2.1) (by omega) (by omega)
    generalize hV : ((p.1, (if g 6 = 0 then p.2.1 + b.2.1 else p.2.1 - b.2.2), (if g 6 = 0 then p.2.2 + b.2.2 else p.2.2 - b.2.1)) : pv_T) = V
    have v1 : V.1 = p.1 := by rw [← hV]
    have v2 : V.2.1.toInt = if g 6 = 0 then p.2.1.toInt + b.2.1.toInt else p.2.1.toInt - b.2.2.toInt := by
      rw [← hV]
      show (if g 6 = 0 then p.2.1 + b.2.1 else p.2.1 - b.2.2).toInt = _
      split
      · exact e1
      · exact e3
    have v3 : V.2.2.toInt = if g 6 = 0 then p.2.2.toInt + b.2.2.toInt else p.2.2.toInt - b.2.1.toInt := by
      rw [← hV]
      show (if g 6 = 0 then p.2.2 + b.2.2 else p.2.2 - b.2.1).toInt = _
      split
      · exact e2
      · exact e4
    intro h
    have h' : pn_in V (-100000) 100000 ≠ 0 := by
      intro q
      have : (if pn_in V (-100000) 100000 = 0 then (7 : Int32) else 0) = 0 := h
      rw [if_pos q] at this
      exact absurd this (by decide)
    have i2 := pn_in_1 h'
    rw [c3, c4] at i2
    show pv_ok V
    rcases pk with q | q
    · refine Or.inr (Or.inr (Or.inl ⟨by rw [v1, q], i2.1, ?_, i2.2⟩))
      rw [v2, v3]
      split <;> omega
    · refine Or.inr (Or.inr (Or.inr ⟨by rw [v1, q], ?_, i2.1, ?_⟩))
      · have p3 := pv_k3 hp q
        have o := h3 q
        have bo : b.2.1 = b.2.2 := by
          unfold pn_one at o
          by_cases z : b.2.1 = b.2.2
          · exact z
          · rw [if_neg z] at o
            exact absurd rfl o
        rw [ai_eq, v2, v3, ← p3.1, ← bo]
      · have i3 := i2.2
        rw [v3] at i3
        rw [v2]
        by_cases z : g 6 = 0
        · rw [if_pos z] at i3 ⊢
          omega
        · rw [if_neg z] at i3 ⊢
          omega
theorem pj_mp_ok (hl : pv_ok l) (hr : pv_ok r) (l0 : l.1 ≠ 0) (r0 : r.1 ≠ 0) (hp : pn_ptr l ≠ 0 ∨ pn_ptr r ≠ 0) (h : (pj_mp g l r).1 = 0) : pv_ok (pj_mp g l r).2 := by
  have h1 : ∀ {p b : pv_T}, pv_ok p → pv_ok b → (p.1 = 2 ∨ p.1 = 3) → b.1 = 1 → (pj_mp1 g l p b).1 = 0 → pv_ok (pj_mp1 g l p b).2 := fun {p b} a1 a2 a3 a4 => by
    unfold pj_mp1
    by_cases q : p.1 = 3
    · rw [if_pos q]
      by_cases o : pn_one b = 0
      · rw [if_pos o]
        intro h
        exact absurd h (show ¬ (7 : Int32) = 0 by decide)
      · rw [if_neg o]
        exact pj_mp2_ok a1 a2 a3 a4 (fun _ => o)
    · rw [if_neg q]
      exact pj_mp2_ok a1 a2 a3 a4 (fun z => absurd z q)
  revert h
  unfold pj_mp
  by_cases c : pw_isOf32 g = 0 ∧ (g 6 = 0 ∨ g 6 = 1 ∧ ¬ pn_ptr l = 0) ∧ ¬ (¬ pn_ptr l = 0 ∧ ¬ pn_ptr r = 0)
  · rw [if_pos c]
    by_cases q : pn_ptr l = 0
    · rw [if_pos q]
      exact h1 hr hl (pp_1 (hp.resolve_left (fun z => z q))) (pp_n hl l0 q)
    · rw [if_neg q]
      have r1 : pn_ptr r = 0 := by
        have := c.2.2
        by_cases z : pn_ptr r = 0
        · exact z
        · exact absurd ⟨q, z⟩ this
      exact h1 hl hr (pp_1 q) (pp_n hr r0 r1)
  · rw [if_neg c]
    intro h
    exact absurd h (show ¬ (7 : Int32) = 0 by decide)
theorem pn_low_ok (h : pv_ok v) (h1 : v.1 = 1) : pv_ok (pn_low v) := by
  unfold pn_low
  split
  · split
    · exact pv_1 (by decide)
    · exact h
  · exact pv_1 (Int.le_refl _)
theorem pn_reck_ok (k : ga_ok g) (h13 : g 6 = 13 → r = (1, Int32.toInt64 (g 4), Int32.toInt64 (g 4))) (hl : pv_ok l) (hr : pv_ok r) : pv_ok (pn_reck g l r) := by
  have := sd_reck (x := l.2.1) (y := r.2.1) k h13 ⟨Int.le_refl _, pv_le hl⟩ ⟨Int.le_refl _, pv_le hr⟩
  exact Or.inr (Or.inl ⟨pn_reck_1, Int.le_trans this.1 this.2⟩)
theorem pj_ar_ok (k : g 6 = 11 ∨ ga_ok g) (h13 : g 6 = 13 → r = (1, Int32.toInt64 (g 4), Int32.toInt64 (g 4))) (hl : pv_ok l) (hr : pv_ok r) (l0 : g 6 ≠ 11 → l.1 ≠ 0) (r0 : r.1 ≠ 0) (h : (pj_ar g l r).1 = 0) : pv_ok (pj_ar g l r).2 := by
  revert h
  unfold pj_ar
  by_cases c : g 6 = 11
  · rw [if_pos c]
    by_cases q : pw_isOf32 g = 0
    · rw [if_pos q]
      exact fun _ => hr
    · rw [if_neg q]
      by_cases z : pn_ptr r = 0
      · rw [if_pos z]
        exact fun _ => pn_low_ok hr (pp_n hr r0 z)
      · rw [if_neg z]
        intro h
        exact absurd h (show ¬ (7 : Int32) = 0 by decide)
  · rw [if_neg c]
    by_cases q : pn_ptr l = 0
    · rw [if_pos q]
      by_cases z : pn_ptr r = 0
      · rw [if_pos z]
        exact fun _ => pn_reck_ok (k.resolve_left c) h13 hl hr
      · rw [if_neg z]
        exact pj_mp_ok hl hr (l0 c) r0 (Or.inr z)
    · rw [if_neg q]
      exact pj_mp_ok hl hr (l0 c) r0 (Or.inl q)
theorem pj_num_ok : pv_ok (pj_num g) := by
  obtain ⟨z, hz, h⟩ := pw_size_n g
  unfold pj_num
  rw [hz]
  rcases h with q | q | q | q
  · subst q
    exact pv_1 (by decide)
  · subst q
    exact pv_1 (by decide)
  · subst q
    exact pv_1 (by decide)
  · subst q
    exact pv_any
end FL
