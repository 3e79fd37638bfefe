section S2
variable {h : ja_H} {op rel : Int32} {a b x y K A B u v' : Int64} {v : pv_T} {g : Nat → Int32}
def mh2 (rel : Int32) (u v A B : Int64) : Int32 := if rel = 1 then (if u = v then 1 else 0) else if rel = 2 then (if ub A ≤ ub B then 0 else 1) else if rel = 3 then (if ub A < ub B then 0 else 1) else if rel = 4 then (if u &&& v = 0 then 0 else 1) else if rel = 5 then (if u = v then 0 else 1) else if rel = 6 then (if u ≤ v then 0 else 1) else if rel = 7 then (if u < v then 0 else 1) else if rel = 8 then (if v < u then 0 else 1) else if rel = 9 then (if v < u then 0 else 1) else if rel = 10 then (if ub B ≤ ub A then 0 else 1) else if rel = 11 then (if ub B < ub A then 0 else 1) else if rel = 12 then (if v ≤ u then 0 else 1) else (if v < u then 0 else 1)
theorem ubx : x ^^^ -9223372036854775808 = ub x := rfl
theorem m_82 : r_Mo_holds_82 h rel u v' (ub A) B = some (mh2 rel u v' A B, h) := by
  simp only [r_Mo_holds_82, r_Mo_holds_165, r_Mo_holds_179, r_Mo_holds_193, r_Mo_holds_209, r_Mo_holds_223, r_Mo_holds_237, r_Mo_holds_251, r_Mo_holds_265, r_Mo_holds_279, r_Mo_holds_293, r_Mo_holds_294, r_Mo_holds_307, jlE, jsw, jb0, jb1, mh2, ubx, pw_ite]
theorem if_ng {p q : Prop} [Decidable p] [Decidable q] {s t : Int32} (e : p ↔ ¬ q) : (if p then s else t) = if q then t else s := by
  by_cases c : q
  · rw [if_pos c, if_neg (fun z => e.mp z c)]
  · rw [if_neg c, if_pos (e.mpr c)]
theorem mh2_e (e1 : uN A ≤ uN B ↔ uN u ≤ uN v') (e2 : uN B ≤ uN A ↔ uN v' ≤ uN u) : mh2 rel u v' A B = ah rel u v' := by
  have q2 : (if ub A ≤ ub B then (0 : Int32) else 1) = bl v' u := by
    unfold bl
    by_cases c : ub A ≤ ub B
    · rw [if_pos c, if_pos (ub_le.mpr (e1.mp (ub_le.mp c)))]
    · rw [if_neg c, if_neg (fun z => c (ub_le.mpr (e1.mpr (ub_le.mp z))))]
  have q10 : (if ub B ≤ ub A then (0 : Int32) else 1) = bl u v' := by
    unfold bl
    by_cases c : ub B ≤ ub A
    · rw [if_pos c, if_pos (ub_le.mpr (e2.mp (ub_le.mp c)))]
    · rw [if_neg c, if_neg (fun z => c (ub_le.mpr (e2.mpr (ub_le.mp z))))]
  have q3 : (if ub A < ub B then (0 : Int32) else 1) = if bl u v' = 0 then 1 else 0 := by
    refine if_ng ?_
    rw [bl_0, ub_lt, ← e2]
    omega
  have q11 : (if ub B < ub A then (0 : Int32) else 1) = if bl v' u = 0 then 1 else 0 := by
    refine if_ng ?_
    rw [bl_0, ub_lt, ← e1]
    omega
  unfold mh2 ah
  rw [q2, q3, q10, q11]
theorem mo_holds (h56 : op &&& 7 = 5 ∨ op &&& 7 = 6) : r_Mo_holds h op a b = some (ah (op >>> (4 &&& 31)) (a32 op a) (a32 op b), h) := by
  rw [r_Mo_holds, jlE]
  unfold a32
  rcases h56 with q | q
  · have n6 : ¬ op &&& 7 = 6 := by rw [q]; decide
    rw [if_pos q, if_neg n6, if_neg n6, r_Mo_holds_18, jlE, if_neg i10, r_Mo_holds_32, jlE, if_neg i10, r_Mo_holds_46, jlE, if_neg i10, r_Mo_holds_62, jlE, if_neg i10, ubx, m_82, mh2_e Iff.rfl Iff.rfl]
  · have n5 : ¬ op &&& 7 = 5 := by rw [q]; decide
    rw [if_neg n5, if_pos q, if_pos q, r_Mo_holds_18, jlE, if_pos rfl, r_Mo_holds_32, jlE, if_pos rfl, r_Mo_holds_46, jlE, if_pos rfl, r_Mo_holds_62, jlE, if_pos rfl, ubx, m_82, mh2_e le_32 le_32]
theorem pc_s (h1 : v.2.1.toInt ≤ x.toInt) (h2 : x.toInt ≤ v.2.2.toInt) : (pn_c v).1 ≠ 0 ∧ iv (pn_c v).2 x := by
  refine ⟨?_, h1, h2⟩
  unfold pn_c pn_le
  show (if v.2.2 < v.2.1 then (0 : Int32) else 1) ≠ 0
  rw [if_neg (by rw [ai_lt]; omega)]
  exact i10
theorem k1i : (1 : Int64).toInt = 1 := rfl
theorem ns_6 (hx : iv v x) (ht : K.toInt < x.toInt) : (pn_ns 6 v K).1 ≠ 0 ∧ iv (pn_ns 6 v K).2 x := by
  have u := ai_hi x
  have l := ai_lo K
  have e := ai_add (x := K) (y := 1) (by rw [k1i]; omega) (by rw [k1i]; omega)
  rw [k1i] at e
  have nm : ¬ K = 9223372036854775807 := fun q => by
    rw [q] at ht
    have : (9223372036854775807 : Int64).toInt = 9223372036854775807 := by decide
    omega
  have q : pn_ns 6 v K = pn_c (pa_lo v (mx_L v.2.1 (K + 1))) := by
    unfold pn_ns
    rw [if_neg (by rintro (⟨z, _⟩ | ⟨_, z⟩); exact absurd z (by decide); exact nm z), if_pos rfl]
  rw [q]
  refine pc_s ?_ hx.2
  show (mx_L v.2.1 (K + 1)).toInt ≤ _
  rw [mx_i]
  have := hx.1
  split <;> omega
theorem ns_7 (hx : iv v x) (ht : K.toInt ≤ x.toInt) : (pn_ns 7 v K).1 ≠ 0 ∧ iv (pn_ns 7 v K).2 x := by
  have q : pn_ns 7 v K = pn_c (pa_lo v (mx_L v.2.1 K)) := by
    unfold pn_ns
    rw [if_neg (by rintro (⟨z, _⟩ | ⟨z, _⟩); exact absurd z (by decide); exact absurd z (by decide)), if_neg (by decide), if_pos rfl]
  rw [q]
  refine pc_s ?_ hx.2
  show (mx_L v.2.1 K).toInt ≤ _
  rw [mx_i]
  have := hx.1
  split <;> omega
theorem ns_12 (hx : iv v x) (ht : x.toInt < K.toInt) : (pn_ns 12 v K).1 ≠ 0 ∧ iv (pn_ns 12 v K).2 x := by
  have l := ai_lo x
  have u := ai_hi K
  have e := ai_sub (x := K) (y := 1) (by rw [k1i]; omega) (by rw [k1i]; omega)
  rw [k1i] at e
  have nm : ¬ K = -9223372036854775808 := fun q => by
    rw [q] at ht
    have : (-9223372036854775808 : Int64).toInt = -9223372036854775808 := by decide
    omega
  have q : pn_ns 12 v K = pn_c (pa_hi v (mn_L v.2.2 (K - 1))) := by
    unfold pn_ns
    rw [if_neg (by rintro (⟨_, z⟩ | ⟨z, _⟩); exact nm z; exact absurd z (by decide)), if_neg (by decide), if_neg (by decide), if_pos rfl]
  rw [q]
  refine pc_s hx.1 ?_
  show _ ≤ (mn_L v.2.2 (K - 1)).toInt
  rw [mn_i]
  have := hx.2
  split <;> omega
theorem ns_13 (hx : iv v x) (ht : x.toInt ≤ K.toInt) : (pn_ns 13 v K).1 ≠ 0 ∧ iv (pn_ns 13 v K).2 x := by
  have q : pn_ns 13 v K = pn_c (pa_hi v (mn_L v.2.2 K)) := by
    unfold pn_ns
    rw [if_neg (by rintro (⟨z, _⟩ | ⟨z, _⟩); exact absurd z (by decide); exact absurd z (by decide)), if_neg (by decide), if_neg (by decide), if_neg (by decide), if_pos rfl]
  rw [q]
  refine pc_s hx.1 ?_
  show _ ≤ (mn_L v.2.2 K).toInt
  rw [mn_i]
  have := hx.2
  split <;> omega
def rl (rel : Int32) (x K : Int64) : Prop := (rel = 1 ∧ x = K) ∨ (rel = 2 ∧ uN K < uN x) ∨ (rel = 3 ∧ uN K ≤ uN x) ∨ (rel = 5 ∧ x ≠ K) ∨ (rel = 6 ∧ K.toInt < x.toInt) ∨ (rel = 7 ∧ K.toInt ≤ x.toInt) ∨ (rel = 10 ∧ uN x < uN K) ∨ (rel = 11 ∧ uN x ≤ uN K) ∨ (rel = 12 ∧ x.toInt < K.toInt) ∨ (rel = 13 ∧ x.toInt ≤ K.toInt)
theorem nar_s (hx : iv v x) (ht : rl rel x K) : (pn_nar rel v K).1 ≠ 0 ∧ iv (pn_nar rel v K).2 x := by
  have xi := uN_int x
  have ki := uN_int K
  have xl := uN_lt x
  have kl := uN_lt K
  have z0 : (0 : Int64).toInt = 0 := rfl
  rcases ht with ⟨e, t⟩ | ⟨e, t⟩ | ⟨e, t⟩ | ⟨e, t⟩ | ⟨e, t⟩ | ⟨e, t⟩ | ⟨e, t⟩ | ⟨e, t⟩ | ⟨e, t⟩ | ⟨e, t⟩
  · subst e
    subst t
    have q : pn_nar 1 v x = pn_c (v.1, mx_L v.2.1 x, mn_L v.2.2 x) := if_pos rfl
    rw [q]
    refine pc_s ?_ ?_
    · show (mx_L v.2.1 x).toInt ≤ _
      rw [mx_i]
      have := hx.1
      split <;> omega
    · show _ ≤ (mn_L v.2.2 x).toInt
      rw [mn_i]
      have := hx.2
      split <;> omega
  · subst e
    have q : pn_nar 2 v K = pn_ab 2 v K := by
      simp (decide := true) only [pn_nar, reduceIte]
    rw [q]
    unfold pn_ab
    by_cases c1 : v.2.1 < 0
    · rw [if_pos c1]
      exact ⟨i10, hx⟩
    · rw [if_neg c1]
      by_cases c2 : K < 0
      · rw [if_pos c2]
        exact ⟨i10, hx⟩
      · rw [if_neg c2, if_pos rfl]
        rw [ai_lt, z0] at c1 c2
        have := hx.1
        exact ns_6 hx (by split at xi <;> split at ki <;> omega)
  · subst e
    have q : pn_nar 3 v K = pn_ab 3 v K := by
      simp (decide := true) only [pn_nar, reduceIte]
    rw [q]
    unfold pn_ab
    by_cases c1 : v.2.1 < 0
    · rw [if_pos c1]
      exact ⟨i10, hx⟩
    · rw [if_neg c1]
      by_cases c2 : K < 0
      · rw [if_pos c2]
        exact ⟨i10, hx⟩
      · rw [if_neg c2, if_neg (by decide)]
        rw [ai_lt, z0] at c1 c2
        have := hx.1
        exact ns_7 hx (by split at xi <;> split at ki <;> omega)
  · subst e
    have q : pn_nar 5 v K = pn_leave v K := by
      simp (decide := true) only [pn_nar, reduceIte]
    have ne : x.toInt ≠ K.toInt := fun z => t (ai_eq.mpr z)
    have h1 := hx.1
    have h2 := hx.2
    rw [q]
    unfold pn_leave
    by_cases c1 : v.2.1 = v.2.2
    · rw [if_pos c1]
      by_cases c2 : v.2.1 = K
      · exfalso
        rw [← c1, c2] at h2
        rw [c2] at h1
        omega
      · rw [if_neg c2]
        exact ⟨i10, hx⟩
    · rw [if_neg c1]
      by_cases c2 : v.2.1 = K
      · rw [if_pos c2]
        refine ⟨i10, ?_, h2⟩
        show (K + 1).toInt ≤ _
        rw [c2] at h1
        have u := ai_hi x
        have l := ai_lo K
        rw [ai_add (by rw [k1i]; omega) (by rw [k1i]; omega), k1i]
        omega
      · rw [if_neg c2]
        by_cases c3 : v.2.2 = K
        · rw [if_pos c3]
          refine ⟨i10, h1, ?_⟩
          show _ ≤ (K - 1).toInt
          rw [c3] at h2
          have l := ai_lo x
          have u := ai_hi K
          rw [ai_sub (by rw [k1i]; omega) (by rw [k1i]; omega), k1i]
          omega
        · rw [if_neg c3]
          exact ⟨i10, hx⟩
  · subst e
    have q : pn_nar 6 v K = pn_ns 6 v K := by
      simp (decide := true) only [pn_nar, reduceIte]
    rw [q]
    exact ns_6 hx t
  · subst e
    have q : pn_nar 7 v K = pn_ns 7 v K := by
      simp (decide := true) only [pn_nar, reduceIte]
    rw [q]
    exact ns_7 hx t
  · subst e
    have q : pn_nar 10 v K = pn_bl 10 v K := by
      simp (decide := true) only [pn_nar, reduceIte]
    rw [q]
    unfold pn_bl
    by_cases c1 : 0 ≤ K
    · rw [if_pos c1, if_pos rfl]
      rw [ai_le, z0] at c1
      have x0 : 0 ≤ x.toInt := by split at xi <;> split at ki <;> omega
      refine ns_12 (v := pa_lo v (mx_L v.2.1 0)) ⟨?_, hx.2⟩ (by split at xi <;> split at ki <;> omega)
      show (mx_L v.2.1 0).toInt ≤ _
      rw [mx_i, z0]
      have := hx.1
      split <;> omega
    · rw [if_neg c1]
      exact ⟨i10, hx⟩
  · subst e
    have q : pn_nar 11 v K = pn_bl 11 v K := by
      simp (decide := true) only [pn_nar, reduceIte]
    rw [q]
    unfold pn_bl
    by_cases c1 : 0 ≤ K
    · rw [if_pos c1, if_neg (by decide)]
      rw [ai_le, z0] at c1
      have x0 : 0 ≤ x.toInt := by split at xi <;> split at ki <;> omega
      refine ns_13 (v := pa_lo v (mx_L v.2.1 0)) ⟨?_, hx.2⟩ (by split at xi <;> split at ki <;> omega)
      show (mx_L v.2.1 0).toInt ≤ _
      rw [mx_i, z0]
      have := hx.1
      split <;> omega
    · rw [if_neg c1]
      exact ⟨i10, hx⟩
  · subst e
    have q : pn_nar 12 v K = pn_ns 12 v K := by
      simp (decide := true) only [pn_nar, reduceIte]
    rw [q]
    exact ns_12 hx t
  · subst e
    have q : pn_nar 13 v K = pn_ns 13 v K := by
      simp (decide := true) only [pn_nar, reduceIte]
    rw [q]
    exact ns_13 hx t
theorem ah_rl (hk : lf_k (g 6)) : (ah (g 6) x K ≠ 0 → rl (g 6) x K) ∧ (ah (g 6) x K = 0 → rl (pw_opp g) x K) := by
  have b0 : ∀ p q : Int64, bl p q ≠ 0 ↔ uN p < uN q := fun p q => by
    have := bl_0 (a := p) (b := q)
    constructor
    · intro z
      have : ¬ uN q ≤ uN p := fun w => z (bl_0.mpr w)
      omega
    · intro z w
      have := bl_0.mp w
      omega
  have ite1 : ∀ (c : Prop) [Decidable c], ((if c then (1 : Int32) else 0) ≠ 0 ↔ c) := fun c _ => by
    by_cases z : c
    · rw [if_pos z]
      exact ⟨fun _ => z, fun _ => i10⟩
    · rw [if_neg z]
      exact ⟨fun w => absurd rfl w, fun w => absurd w z⟩
  have ite0 : ∀ (c : Prop) [Decidable c], ((if c then (0 : Int32) else 1) ≠ 0 ↔ ¬ c) := fun c _ => by
    by_cases z : c
    · rw [if_pos z]
      exact ⟨fun w => absurd rfl w, fun w => absurd z w⟩
    · rw [if_neg z]
      exact ⟨fun _ => z, fun _ => i10⟩
  have nn : ∀ p : Int32, p = 0 ↔ ¬ p ≠ 0 := fun p => ⟨fun z w => w z, fun z => Classical.byContradiction z⟩
  unfold pw_opp rl ah
  unfold lf_k at hk
  rcases hk with e | e | e | e | e | e | e | e | e | e
  all_goals
    simp (decide := true) only [e, reduceIte, nn, ite1, ite0, b0, bl_0, false_and, true_and, or_false, false_or]
    first
      | exact ⟨fun z => z, fun z => z⟩
      | exact ⟨fun z => z, fun z => Classical.byContradiction z⟩
      | (simp only [ai_le, ai_lt]; constructor <;> intro z <;> omega)
      | (constructor <;> intro z <;> omega)
end S2
