section MO
variable {h : ja_H} {r c k d : Nat} {lo hi K : Int64} {R : pn_R} {y z : Option (Int32 × ja_H)}
def lf (h : ja_H) (r c : Nat) (R : pn_R) (x : Option (Int32 × ja_H)) : Prop := ∃ h', x = some (R.1, h') ∧ mF r h h' ∧ (R.1 ≠ 0 → h' = mgv h r c R.2)
theorem lf_0 {v : pv_T} : lf h r c (0, v) (some (0, h)) := ⟨h, rfl, mF0, fun q => absurd rfl q⟩
theorem lf_315 (b : jv_B h) (hr : r < 1026) (hc : c < 75) : r_Mo_left_315 h 25 (nI r) (nI c) lo hi = some ((pn_c (1, lo, hi)).1, mgv h r c (1, lo, hi)) := by
  simp only [r_Mo_left_315, r_Mo_left_339, jk_25 b, mo_give b hr hc (Or.inr (Or.inl rfl)), jcV, jb0, jb1]
  unfold pn_c pn_le
  split <;> rfl
theorem lf_c (b : jv_B h) (hr : r < 1026) (hc : c < 75) : lf h r c (pn_c (1, lo, hi)) (r_Mo_left_315 h 25 (nI r) (nI c) lo hi) := ⟨_, lf_315 b hr hc, mF_g hc, fun _ => rfl⟩
theorem lf_1 (b : jv_B h) (hr : r < 1026) (hc : c < 75) (q : ¬ hi < lo) : lf h r c (1, (1, lo, hi)) (r_Mo_left_315 h 25 (nI r) (nI c) lo hi) := by
  refine ⟨_, ?_, mF_g hc, fun _ => rfl⟩
  rw [lf_315 b hr hc]
  unfold pn_c pn_le
  rw [if_neg q]
theorem lf_n (e : R.1 = 0) (q : y = some (0, h)) : lf h r c R y := ⟨h, by rw [q, e], mF0, fun z => absurd e z⟩
theorem mx_1 {a b : Int64} (q : a < b) : mx_L a b = b := if_pos q
theorem mx_2 {a b : Int64} (q : ¬ a < b) : mx_L a b = a := if_neg q
theorem mn_1 {a b : Int64} (q : b < a) : mn_L a b = b := if_pos q
theorem mn_2 {a b : Int64} (q : ¬ b < a) : mn_L a b = a := if_neg q
theorem lf_r1 (b : jv_B h) (hr : r < 1026) (hc : c < 75) (hv : mv h r c = (1, lo, hi)) (le : lo.toInt ≤ hi.toInt) : lf h r c (pn_nar 1 (1, lo, hi) K) (r_Mo_left h 25 (nI r) (nI c) 1 K) := by
  have nl : ¬ hi < lo := by
    rw [ai_lt]
    omega
  have e1 : r_Mo_left h 25 (nI r) (nI c) 1 K = if K < lo then some (0, h) else if K ≤ hi then r_Mo_left_315 h 25 (nI r) (nI c) K K else some (0, h) := by
    simp (decide := true) only [r_Mo_left, r_Mo_left_34, r_Mo_left_35, r_Mo_left_96, r_Mo_left_127, r_Mo_left_141, r_Mo_left_158, r_Mo_left_169, r_Mo_left_174, r_Mo_left_190, r_Mo_left_206, r_Mo_left_222, r_Mo_left_230, r_Mo_left_242, r_Mo_left_247, r_Mo_left_278, r_Mo_left_294, r_Mo_left_310, jsw, jlE, jcL, jb0, jb1, w_maxL, w_minL, jk_25 b, mo_least b hr hc, mo_most b hr hc, hv, pn_nar, pn_eq, pn_ab, pn_bl, pn_ns, pn_leave, pa_lo, pa_hi, reduceIte, ite_self]
  have e2 : pn_nar 1 (1, lo, hi) K = pn_c (1, mx_L lo K, mn_L hi K) := by
    simp (decide := true) only [pn_nar, pn_eq, reduceIte]
  rw [e1, e2]
  by_cases c1 : K < lo
  · have c1' := ai_lt.mp c1
    rw [if_pos c1]
    refine lf_n ?_ rfl
    rw [mx_2 (by rw [ai_lt]; omega), mn_1 (by rw [ai_lt]; omega)]
    unfold pn_c pn_le
    exact if_pos c1
  · have c1' := mt ai_lt.mpr c1
    rw [if_neg c1]
    by_cases c2 : K ≤ hi
    · have c2' := ai_le.mp c2
      rw [if_pos c2]
      have x1 : mx_L lo K = K := by
        by_cases q : lo < K
        · exact mx_1 q
        · rw [mx_2 q, ai_eq]
          rw [ai_lt] at q
          omega
      have x2 : mn_L hi K = K := by
        by_cases q : K < hi
        · exact mn_1 q
        · rw [mn_2 q, ai_eq]
          rw [ai_lt] at q
          omega
      rw [x1, x2]
      exact lf_c b hr hc
    · have c2' := mt ai_le.mpr c2
      rw [if_neg c2]
      refine lf_n ?_ rfl
      rw [mx_1 (by rw [ai_lt]; omega), mn_2 (by rw [ai_lt]; omega)]
      unfold pn_c pn_le
      exact if_pos (show hi < K by rw [ai_lt]; omega)
theorem lf_r2 (b : jv_B h) (hr : r < 1026) (hc : c < 75) (hv : mv h r c = (1, lo, hi)) (le : lo.toInt ≤ hi.toInt) : lf h r c (pn_nar 2 (1, lo, hi) K) (r_Mo_left h 25 (nI r) (nI c) 2 K) := by
  have nl : ¬ hi < lo := by
    rw [ai_lt]
    omega
  by_cases c1 : lo < 0
  · simp (decide := true) only [r_Mo_left, r_Mo_left_34, r_Mo_left_35, r_Mo_left_96, r_Mo_left_127, r_Mo_left_141, r_Mo_left_158, r_Mo_left_169, r_Mo_left_174, r_Mo_left_190, r_Mo_left_206, r_Mo_left_222, r_Mo_left_230, r_Mo_left_242, r_Mo_left_247, r_Mo_left_278, r_Mo_left_294, r_Mo_left_310, jsw, jlE, jcL, jb0, jb1, w_maxL, w_minL, jk_25 b, mo_least b hr hc, mo_most b hr hc, hv, pn_nar, pn_eq, pn_ab, pn_bl, pn_ns, pn_leave, pa_lo, pa_hi, c1, reduceIte]
    exact lf_1 b hr hc nl
  · by_cases c2 : K < 0
    · simp (decide := true) only [r_Mo_left, r_Mo_left_34, r_Mo_left_35, r_Mo_left_96, r_Mo_left_127, r_Mo_left_141, r_Mo_left_158, r_Mo_left_169, r_Mo_left_174, r_Mo_left_190, r_Mo_left_206, r_Mo_left_222, r_Mo_left_230, r_Mo_left_242, r_Mo_left_247, r_Mo_left_278, r_Mo_left_294, r_Mo_left_310, jsw, jlE, jcL, jb0, jb1, w_maxL, w_minL, jk_25 b, mo_least b hr hc, mo_most b hr hc, hv, pn_nar, pn_eq, pn_ab, pn_bl, pn_ns, pn_leave, pa_lo, pa_hi, c1, c2, reduceIte]
      exact lf_1 b hr hc nl
    · skip
      by_cases c3 : K = 9223372036854775807
      · simp (decide := true) only [r_Mo_left, r_Mo_left_34, r_Mo_left_35, r_Mo_left_96, r_Mo_left_127, r_Mo_left_141, r_Mo_left_158, r_Mo_left_169, r_Mo_left_174, r_Mo_left_190, r_Mo_left_206, r_Mo_left_222, r_Mo_left_230, r_Mo_left_242, r_Mo_left_247, r_Mo_left_278, r_Mo_left_294, r_Mo_left_310, jsw, jlE, jcL, jb0, jb1, w_maxL, w_minL, jk_25 b, mo_least b hr hc, mo_most b hr hc, hv, pn_nar, pn_eq, pn_ab, pn_bl, pn_ns, pn_leave, pa_lo, pa_hi, c1, c2, c3, reduceIte, and_true, true_and, and_false, false_and, or_true, or_false, false_or]
        exact lf_0
      · simp (decide := true) only [r_Mo_left, r_Mo_left_34, r_Mo_left_35, r_Mo_left_96, r_Mo_left_127, r_Mo_left_141, r_Mo_left_158, r_Mo_left_169, r_Mo_left_174, r_Mo_left_190, r_Mo_left_206, r_Mo_left_222, r_Mo_left_230, r_Mo_left_242, r_Mo_left_247, r_Mo_left_278, r_Mo_left_294, r_Mo_left_310, jsw, jlE, jcL, jb0, jb1, w_maxL, w_minL, jk_25 b, mo_least b hr hc, mo_most b hr hc, hv, pn_nar, pn_eq, pn_ab, pn_bl, pn_ns, pn_leave, pa_lo, pa_hi, c1, c2, c3, reduceIte, and_true, true_and, and_false, false_and, or_true, or_false, false_or]
        exact lf_c b hr hc
theorem lf_r3 (b : jv_B h) (hr : r < 1026) (hc : c < 75) (hv : mv h r c = (1, lo, hi)) (le : lo.toInt ≤ hi.toInt) : lf h r c (pn_nar 3 (1, lo, hi) K) (r_Mo_left h 25 (nI r) (nI c) 3 K) := by
  have nl : ¬ hi < lo := by
    rw [ai_lt]
    omega
  by_cases c1 : lo < 0
  · simp (decide := true) only [r_Mo_left, r_Mo_left_34, r_Mo_left_35, r_Mo_left_96, r_Mo_left_127, r_Mo_left_141, r_Mo_left_158, r_Mo_left_169, r_Mo_left_174, r_Mo_left_190, r_Mo_left_206, r_Mo_left_222, r_Mo_left_230, r_Mo_left_242, r_Mo_left_247, r_Mo_left_278, r_Mo_left_294, r_Mo_left_310, jsw, jlE, jcL, jb0, jb1, w_maxL, w_minL, jk_25 b, mo_least b hr hc, mo_most b hr hc, hv, pn_nar, pn_eq, pn_ab, pn_bl, pn_ns, pn_leave, pa_lo, pa_hi, c1, reduceIte]
    exact lf_1 b hr hc nl
  · by_cases c2 : K < 0
    · simp (decide := true) only [r_Mo_left, r_Mo_left_34, r_Mo_left_35, r_Mo_left_96, r_Mo_left_127, r_Mo_left_141, r_Mo_left_158, r_Mo_left_169, r_Mo_left_174, r_Mo_left_190, r_Mo_left_206, r_Mo_left_222, r_Mo_left_230, r_Mo_left_242, r_Mo_left_247, r_Mo_left_278, r_Mo_left_294, r_Mo_left_310, jsw, jlE, jcL, jb0, jb1, w_maxL, w_minL, jk_25 b, mo_least b hr hc, mo_most b hr hc, hv, pn_nar, pn_eq, pn_ab, pn_bl, pn_ns, pn_leave, pa_lo, pa_hi, c1, c2, reduceIte]
      exact lf_1 b hr hc nl
    · skip
      simp (decide := true) only [r_Mo_left, r_Mo_left_34, r_Mo_left_35, r_Mo_left_96, r_Mo_left_127, r_Mo_left_141, r_Mo_left_158, r_Mo_left_169, r_Mo_left_174, r_Mo_left_190, r_Mo_left_206, r_Mo_left_222, r_Mo_left_230, r_Mo_left_242, r_Mo_left_247, r_Mo_left_278, r_Mo_left_294, r_Mo_left_310, jsw, jlE, jcL, jb0, jb1, w_maxL, w_minL, jk_25 b, mo_least b hr hc, mo_most b hr hc, hv, pn_nar, pn_eq, pn_ab, pn_bl, pn_ns, pn_leave, pa_lo, pa_hi, c1, c2, reduceIte, and_true, true_and, and_false, false_and, or_true, or_false, false_or]
      exact lf_c b hr hc
theorem lf_r6 (b : jv_B h) (hr : r < 1026) (hc : c < 75) (hv : mv h r c = (1, lo, hi)) (le : lo.toInt ≤ hi.toInt) : lf h r c (pn_nar 6 (1, lo, hi) K) (r_Mo_left h 25 (nI r) (nI c) 6 K) := by
  have nl : ¬ hi < lo := by
    rw [ai_lt]
    omega
  by_cases c3 : K = 9223372036854775807
  · simp (decide := true) only [r_Mo_left, r_Mo_left_34, r_Mo_left_35, r_Mo_left_96, r_Mo_left_127, r_Mo_left_141, r_Mo_left_158, r_Mo_left_169, r_Mo_left_174, r_Mo_left_190, r_Mo_left_206, r_Mo_left_222, r_Mo_left_230, r_Mo_left_242, r_Mo_left_247, r_Mo_left_278, r_Mo_left_294, r_Mo_left_310, jsw, jlE, jcL, jb0, jb1, w_maxL, w_minL, jk_25 b, mo_least b hr hc, mo_most b hr hc, hv, pn_nar, pn_eq, pn_ab, pn_bl, pn_ns, pn_leave, pa_lo, pa_hi, c3, reduceIte, ite_self, and_true, true_and, and_false, false_and, or_true, or_false, false_or]
    exact lf_0
  · simp (decide := true) only [r_Mo_left, r_Mo_left_34, r_Mo_left_35, r_Mo_left_96, r_Mo_left_127, r_Mo_left_141, r_Mo_left_158, r_Mo_left_169, r_Mo_left_174, r_Mo_left_190, r_Mo_left_206, r_Mo_left_222, r_Mo_left_230, r_Mo_left_242, r_Mo_left_247, r_Mo_left_278, r_Mo_left_294, r_Mo_left_310, jsw, jlE, jcL, jb0, jb1, w_maxL, w_minL, jk_25 b, mo_least b hr hc, mo_most b hr hc, hv, pn_nar, pn_eq, pn_ab, pn_bl, pn_ns, pn_leave, pa_lo, pa_hi, c3, reduceIte, ite_self, and_true, true_and, and_false, false_and, or_true, or_false, false_or]
    exact lf_c b hr hc
theorem lf_r7 (b : jv_B h) (hr : r < 1026) (hc : c < 75) (hv : mv h r c = (1, lo, hi)) (le : lo.toInt ≤ hi.toInt) : lf h r c (pn_nar 7 (1, lo, hi) K) (r_Mo_left h 25 (nI r) (nI c) 7 K) := by
  have nl : ¬ hi < lo := by
    rw [ai_lt]
    omega
  simp (decide := true) only [r_Mo_left, r_Mo_left_34, r_Mo_left_35, r_Mo_left_96, r_Mo_left_127, r_Mo_left_141, r_Mo_left_158, r_Mo_left_169, r_Mo_left_174, r_Mo_left_190, r_Mo_left_206, r_Mo_left_222, r_Mo_left_230, r_Mo_left_242, r_Mo_left_247, r_Mo_left_278, r_Mo_left_294, r_Mo_left_310, jsw, jlE, jcL, jb0, jb1, w_maxL, w_minL, jk_25 b, mo_least b hr hc, mo_most b hr hc, hv, pn_nar, pn_eq, pn_ab, pn_bl, pn_ns, pn_leave, pa_lo, pa_hi, reduceIte, ite_self, and_true, true_and, and_false, false_and, or_true, or_false, false_or]
  exact lf_c b hr hc
theorem lf_r5 (b : jv_B h) (hr : r < 1026) (hc : c < 75) (hv : mv h r c = (1, lo, hi)) (le : lo.toInt ≤ hi.toInt) : lf h r c (pn_nar 5 (1, lo, hi) K) (r_Mo_left h 25 (nI r) (nI c) 5 K) := by
  have nl : ¬ hi < lo := by
    rw [ai_lt]
    omega
  by_cases c1 : lo = K
  · by_cases c2 : hi = K
    · have c3 : lo = hi := c1.trans c2.symm
      simp (decide := true) only [r_Mo_left, r_Mo_left_34, r_Mo_left_35, r_Mo_left_96, r_Mo_left_127, r_Mo_left_141, r_Mo_left_158, r_Mo_left_169, r_Mo_left_174, r_Mo_left_190, r_Mo_left_206, r_Mo_left_222, r_Mo_left_230, r_Mo_left_242, r_Mo_left_247, r_Mo_left_278, r_Mo_left_294, r_Mo_left_310, jsw, jlE, jcL, jb0, jb1, w_maxL, w_minL, jk_25 b, mo_least b hr hc, mo_most b hr hc, hv, pn_nar, pn_eq, pn_ab, pn_bl, pn_ns, pn_leave, pa_lo, pa_hi, c1, c2, reduceIte, ite_self]
      exact lf_0
    · have c3 : ¬ lo = hi := fun q => c2 (q.symm.trans c1)
      have c4 : ¬ K = hi := fun q => c2 q.symm
      have u := ai_hi hi
      have n2 : ¬ hi < K + 1 := by
        have e := ai_add (x := K) (y := 1) (by rw [← c1]; have := ai_lo lo; show _ ≤ lo.toInt + 1; omega) (by rw [← c1]; show lo.toInt + 1 < _; have : lo.toInt ≠ hi.toInt := fun q => c3 (ai_eq.mpr q); omega)
        rw [ai_lt, e, ← c1]
        have : lo.toInt ≠ hi.toInt := fun q => c3 (ai_eq.mpr q)
        show ¬ hi.toInt < lo.toInt + 1
        omega
      subst c1
      simp (decide := true) only [r_Mo_left, r_Mo_left_34, r_Mo_left_35, r_Mo_left_96, r_Mo_left_127, r_Mo_left_141, r_Mo_left_158, r_Mo_left_169, r_Mo_left_174, r_Mo_left_190, r_Mo_left_206, r_Mo_left_222, r_Mo_left_230, r_Mo_left_242, r_Mo_left_247, r_Mo_left_278, r_Mo_left_294, r_Mo_left_310, jsw, jlE, jcL, jb0, jb1, w_maxL, w_minL, jk_25 b, mo_least b hr hc, mo_most b hr hc, hv, pn_nar, pn_eq, pn_ab, pn_bl, pn_ns, pn_leave, pa_lo, pa_hi, c2, c4, reduceIte, ite_self]
      exact lf_1 b hr hc n2
  · by_cases c2 : hi = K
    · have c3 : ¬ lo = hi := fun q => c1 (q.trans c2)
      have n2 : ¬ hi - 1 < lo := by
        have : lo.toInt ≠ hi.toInt := fun q => c3 (ai_eq.mpr q)
        have l := ai_lo lo
        have u := ai_hi hi
        have e := ai_sub (x := hi) (y := 1) (by show _ ≤ hi.toInt - 1; omega) (by show hi.toInt - 1 < _; omega)
        rw [ai_lt, e]
        show ¬ hi.toInt - 1 < lo.toInt
        omega
      subst c2
      simp (decide := true) only [r_Mo_left, r_Mo_left_34, r_Mo_left_35, r_Mo_left_96, r_Mo_left_127, r_Mo_left_141, r_Mo_left_158, r_Mo_left_169, r_Mo_left_174, r_Mo_left_190, r_Mo_left_206, r_Mo_left_222, r_Mo_left_230, r_Mo_left_242, r_Mo_left_247, r_Mo_left_278, r_Mo_left_294, r_Mo_left_310, jsw, jlE, jcL, jb0, jb1, w_maxL, w_minL, jk_25 b, mo_least b hr hc, mo_most b hr hc, hv, pn_nar, pn_eq, pn_ab, pn_bl, pn_ns, pn_leave, pa_lo, pa_hi, c1, c3, reduceIte, ite_self]
      exact lf_1 b hr hc n2
    · by_cases c3 : lo = hi
      · have cc : ¬ hi = K := c2
        simp (decide := true) only [r_Mo_left, r_Mo_left_34, r_Mo_left_35, r_Mo_left_96, r_Mo_left_127, r_Mo_left_141, r_Mo_left_158, r_Mo_left_169, r_Mo_left_174, r_Mo_left_190, r_Mo_left_206, r_Mo_left_222, r_Mo_left_230, r_Mo_left_242, r_Mo_left_247, r_Mo_left_278, r_Mo_left_294, r_Mo_left_310, jsw, jlE, jcL, jb0, jb1, w_maxL, w_minL, jk_25 b, mo_least b hr hc, mo_most b hr hc, hv, pn_nar, pn_eq, pn_ab, pn_bl, pn_ns, pn_leave, pa_lo, pa_hi, c1, c2, c3, reduceIte, ite_self]
        exact lf_1 b hr hc (by rw [ai_lt]; omega)
      · simp (decide := true) only [r_Mo_left, r_Mo_left_34, r_Mo_left_35, r_Mo_left_96, r_Mo_left_127, r_Mo_left_141, r_Mo_left_158, r_Mo_left_169, r_Mo_left_174, r_Mo_left_190, r_Mo_left_206, r_Mo_left_222, r_Mo_left_230, r_Mo_left_242, r_Mo_left_247, r_Mo_left_278, r_Mo_left_294, r_Mo_left_310, jsw, jlE, jcL, jb0, jb1, w_maxL, w_minL, jk_25 b, mo_least b hr hc, mo_most b hr hc, hv, pn_nar, pn_eq, pn_ab, pn_bl, pn_ns, pn_leave, pa_lo, pa_hi, c1, c2, c3, reduceIte, ite_self]
        exact lf_1 b hr hc nl
theorem lf_r10 (b : jv_B h) (hr : r < 1026) (hc : c < 75) (hv : mv h r c = (1, lo, hi)) (le : lo.toInt ≤ hi.toInt) : lf h r c (pn_nar 10 (1, lo, hi) K) (r_Mo_left h 25 (nI r) (nI c) 10 K) := by
  have nl : ¬ hi < lo := by
    rw [ai_lt]
    omega
  by_cases k0 : 0 ≤ K
  · have k1 : ¬ K < 0 := by
      have := ai_le.mp k0
      rw [ai_lt, ai_nz]
      rw [ai_nz] at this
      omega
    by_cases c1 : lo < 0
    · skip
      have c3 : ¬ K = -9223372036854775808 := fun q => absurd k0 (by rw [q]; decide)
      simp (decide := true) only [r_Mo_left, r_Mo_left_34, r_Mo_left_35, r_Mo_left_96, r_Mo_left_127, r_Mo_left_141, r_Mo_left_158, r_Mo_left_169, r_Mo_left_174, r_Mo_left_190, r_Mo_left_206, r_Mo_left_222, r_Mo_left_230, r_Mo_left_242, r_Mo_left_247, r_Mo_left_278, r_Mo_left_294, r_Mo_left_310, jsw, jlE, jcL, jb0, jb1, w_maxL, w_minL, jk_25 b, mo_least b hr hc, mo_most b hr hc, hv, pn_nar, pn_eq, pn_ab, pn_bl, pn_ns, pn_leave, pa_lo, pa_hi, k0, k1, c1, c3, reduceIte, and_true, true_and, and_false, false_and, or_true, or_false, false_or]
      exact lf_c b hr hc
    · have m0 : mx_L lo 0 = lo := mx_2 c1
      have c3 : ¬ K = -9223372036854775808 := fun q => absurd k0 (by rw [q]; decide)
      simp (decide := true) only [r_Mo_left, r_Mo_left_34, r_Mo_left_35, r_Mo_left_96, r_Mo_left_127, r_Mo_left_141, r_Mo_left_158, r_Mo_left_169, r_Mo_left_174, r_Mo_left_190, r_Mo_left_206, r_Mo_left_222, r_Mo_left_230, r_Mo_left_242, r_Mo_left_247, r_Mo_left_278, r_Mo_left_294, r_Mo_left_310, jsw, jlE, jcL, jb0, jb1, w_maxL, w_minL, jk_25 b, mo_least b hr hc, mo_most b hr hc, hv, pn_nar, pn_eq, pn_ab, pn_bl, pn_ns, pn_leave, pa_lo, pa_hi, k0, k1, c1, m0, c3, reduceIte, and_true, true_and, and_false, false_and, or_true, or_false, false_or]
      exact lf_c b hr hc
  · have k1 : K < 0 := by
      have := mt ai_le.mpr k0
      rw [ai_nz] at this
      rw [ai_lt, ai_nz]
      omega
    simp (decide := true) only [r_Mo_left, r_Mo_left_34, r_Mo_left_35, r_Mo_left_96, r_Mo_left_127, r_Mo_left_141, r_Mo_left_158, r_Mo_left_169, r_Mo_left_174, r_Mo_left_190, r_Mo_left_206, r_Mo_left_222, r_Mo_left_230, r_Mo_left_242, r_Mo_left_247, r_Mo_left_278, r_Mo_left_294, r_Mo_left_310, jsw, jlE, jcL, jb0, jb1, w_maxL, w_minL, jk_25 b, mo_least b hr hc, mo_most b hr hc, hv, pn_nar, pn_eq, pn_ab, pn_bl, pn_ns, pn_leave, pa_lo, pa_hi, k0, k1, reduceIte, ite_self]
    exact lf_1 b hr hc nl
theorem lf_r11 (b : jv_B h) (hr : r < 1026) (hc : c < 75) (hv : mv h r c = (1, lo, hi)) (le : lo.toInt ≤ hi.toInt) : lf h r c (pn_nar 11 (1, lo, hi) K) (r_Mo_left h 25 (nI r) (nI c) 11 K) := by
  have nl : ¬ hi < lo := by
    rw [ai_lt]
    omega
  by_cases k0 : 0 ≤ K
  · have k1 : ¬ K < 0 := by
      have := ai_le.mp k0
      rw [ai_lt, ai_nz]
      rw [ai_nz] at this
      omega
    by_cases c1 : lo < 0
    · skip
      simp (decide := true) only [r_Mo_left, r_Mo_left_34, r_Mo_left_35, r_Mo_left_96, r_Mo_left_127, r_Mo_left_141, r_Mo_left_158, r_Mo_left_169, r_Mo_left_174, r_Mo_left_190, r_Mo_left_206, r_Mo_left_222, r_Mo_left_230, r_Mo_left_242, r_Mo_left_247, r_Mo_left_278, r_Mo_left_294, r_Mo_left_310, jsw, jlE, jcL, jb0, jb1, w_maxL, w_minL, jk_25 b, mo_least b hr hc, mo_most b hr hc, hv, pn_nar, pn_eq, pn_ab, pn_bl, pn_ns, pn_leave, pa_lo, pa_hi, k0, k1, c1, reduceIte, and_true, true_and, and_false, false_and, or_true, or_false, false_or]
      exact lf_c b hr hc
    · have m0 : mx_L lo 0 = lo := mx_2 c1
      simp (decide := true) only [r_Mo_left, r_Mo_left_34, r_Mo_left_35, r_Mo_left_96, r_Mo_left_127, r_Mo_left_141, r_Mo_left_158, r_Mo_left_169, r_Mo_left_174, r_Mo_left_190, r_Mo_left_206, r_Mo_left_222, r_Mo_left_230, r_Mo_left_242, r_Mo_left_247, r_Mo_left_278, r_Mo_left_294, r_Mo_left_310, jsw, jlE, jcL, jb0, jb1, w_maxL, w_minL, jk_25 b, mo_least b hr hc, mo_most b hr hc, hv, pn_nar, pn_eq, pn_ab, pn_bl, pn_ns, pn_leave, pa_lo, pa_hi, k0, k1, c1, m0, reduceIte, and_true, true_and, and_false, false_and, or_true, or_false, false_or]
      exact lf_c b hr hc
  · have k1 : K < 0 := by
      have := mt ai_le.mpr k0
      rw [ai_nz] at this
      rw [ai_lt, ai_nz]
      omega
    simp (decide := true) only [r_Mo_left, r_Mo_left_34, r_Mo_left_35, r_Mo_left_96, r_Mo_left_127, r_Mo_left_141, r_Mo_left_158, r_Mo_left_169, r_Mo_left_174, r_Mo_left_190, r_Mo_left_206, r_Mo_left_222, r_Mo_left_230, r_Mo_left_242, r_Mo_left_247, r_Mo_left_278, r_Mo_left_294, r_Mo_left_310, jsw, jlE, jcL, jb0, jb1, w_maxL, w_minL, jk_25 b, mo_least b hr hc, mo_most b hr hc, hv, pn_nar, pn_eq, pn_ab, pn_bl, pn_ns, pn_leave, pa_lo, pa_hi, k0, k1, reduceIte, ite_self]
    exact lf_1 b hr hc nl
theorem lf_r12 (b : jv_B h) (hr : r < 1026) (hc : c < 75) (hv : mv h r c = (1, lo, hi)) (le : lo.toInt ≤ hi.toInt) : lf h r c (pn_nar 12 (1, lo, hi) K) (r_Mo_left h 25 (nI r) (nI c) 12 K) := by
  have nl : ¬ hi < lo := by
    rw [ai_lt]
    omega
  by_cases c3 : K = -9223372036854775808
  · simp (decide := true) only [r_Mo_left, r_Mo_left_34, r_Mo_left_35, r_Mo_left_96, r_Mo_left_127, r_Mo_left_141, r_Mo_left_158, r_Mo_left_169, r_Mo_left_174, r_Mo_left_190, r_Mo_left_206, r_Mo_left_222, r_Mo_left_230, r_Mo_left_242, r_Mo_left_247, r_Mo_left_278, r_Mo_left_294, r_Mo_left_310, jsw, jlE, jcL, jb0, jb1, w_maxL, w_minL, jk_25 b, mo_least b hr hc, mo_most b hr hc, hv, pn_nar, pn_eq, pn_ab, pn_bl, pn_ns, pn_leave, pa_lo, pa_hi, c3, reduceIte, ite_self, and_true, true_and, and_false, false_and, or_true, or_false, false_or]
    exact lf_0
  · simp (decide := true) only [r_Mo_left, r_Mo_left_34, r_Mo_left_35, r_Mo_left_96, r_Mo_left_127, r_Mo_left_141, r_Mo_left_158, r_Mo_left_169, r_Mo_left_174, r_Mo_left_190, r_Mo_left_206, r_Mo_left_222, r_Mo_left_230, r_Mo_left_242, r_Mo_left_247, r_Mo_left_278, r_Mo_left_294, r_Mo_left_310, jsw, jlE, jcL, jb0, jb1, w_maxL, w_minL, jk_25 b, mo_least b hr hc, mo_most b hr hc, hv, pn_nar, pn_eq, pn_ab, pn_bl, pn_ns, pn_leave, pa_lo, pa_hi, c3, reduceIte, ite_self, and_true, true_and, and_false, false_and, or_true, or_false, false_or]
    exact lf_c b hr hc
theorem lf_r13 (b : jv_B h) (hr : r < 1026) (hc : c < 75) (hv : mv h r c = (1, lo, hi)) (le : lo.toInt ≤ hi.toInt) : lf h r c (pn_nar 13 (1, lo, hi) K) (r_Mo_left h 25 (nI r) (nI c) 13 K) := by
  have nl : ¬ hi < lo := by
    rw [ai_lt]
    omega
  simp (decide := true) only [r_Mo_left, r_Mo_left_34, r_Mo_left_35, r_Mo_left_96, r_Mo_left_127, r_Mo_left_141, r_Mo_left_158, r_Mo_left_169, r_Mo_left_174, r_Mo_left_190, r_Mo_left_206, r_Mo_left_222, r_Mo_left_230, r_Mo_left_242, r_Mo_left_247, r_Mo_left_278, r_Mo_left_294, r_Mo_left_310, jsw, jlE, jcL, jb0, jb1, w_maxL, w_minL, jk_25 b, mo_least b hr hc, mo_most b hr hc, hv, pn_nar, pn_eq, pn_ab, pn_bl, pn_ns, pn_leave, pa_lo, pa_hi, reduceIte, ite_self, and_true, true_and, and_false, false_and, or_true, or_false, false_or]
  exact lf_c b hr hc
def lf_k (rel : Int32) : Prop := rel = 1 ∨ rel = 2 ∨ rel = 3 ∨ rel = 5 ∨ rel = 6 ∨ rel = 7 ∨ rel = 10 ∨ rel = 11 ∨ rel = 12 ∨ rel = 13
theorem mo_left {rel : Int32} (b : jv_B h) (hr : r < 1026) (hc : c < 75) (v1 : (mv h r c).1 = 1) (ok : pv_ok (mv h r c)) (hk : lf_k rel) : lf h r c (pn_nar rel (mv h r c) K) (r_Mo_left h 25 (nI r) (nI c) rel K) := by
  have e : mv h r c = (1, (mv h r c).2.1, (mv h r c).2.2) := by
    rw [← v1]
  have le := pv_le ok
  generalize (mv h r c).2.1 = lo at *
  generalize (mv h r c).2.2 = hi at *
  rw [e]
  rcases hk with q | q | q | q | q | q | q | q | q | q <;> subst q
  · exact lf_r1 b hr hc e le
  · exact lf_r2 b hr hc e le
  · exact lf_r3 b hr hc e le
  · exact lf_r5 b hr hc e le
  · exact lf_r6 b hr hc e le
  · exact lf_r7 b hr hc e le
  · exact lf_r10 b hr hc e le
  · exact lf_r11 b hr hc e le
  · exact lf_r12 b hr hc e le
  · exact lf_r13 b hr hc e le
end MO
