section LREST
variable {L p : Nat} {xs : Nat → Int32} {h : ja_H}
theorem i10 : ¬ (1 : Int32) = 0 := by decide
theorem i20 : ¬ (2 : Int32) = 0 := by decide
theorem i21 : ¬ (2 : Int32) = 1 := by decide
theorem i30 : ¬ (3 : Int32) = 0 := by decide
theorem i31 : ¬ (3 : Int32) = 1 := by decide
theorem i32 : ¬ (3 : Int32) = 2 := by decide
theorem i4 : ¬ (4 : Int32) = 0 ∧ ¬ (4 : Int32) = 1 ∧ ¬ (4 : Int32) = 2 ∧ ¬ (4 : Int32) = 3 := by decide
theorem i5 : ¬ (5 : Int32) = 0 ∧ ¬ (5 : Int32) = 1 ∧ ¬ (5 : Int32) = 2 ∧ ¬ (5 : Int32) = 3 ∧ ¬ (5 : Int32) = 4 := by decide
theorem i6 : ¬ (6 : Int32) = 0 ∧ ¬ (6 : Int32) = 1 ∧ ¬ (6 : Int32) = 2 ∧ ¬ (6 : Int32) = 3 ∧ ¬ (6 : Int32) = 4 ∧ ¬ (6 : Int32) = 5 := by decide
theorem i7 : ¬ (7 : Int32) = 0 ∧ ¬ (7 : Int32) = 1 ∧ ¬ (7 : Int32) = 2 ∧ ¬ (7 : Int32) = 3 ∧ ¬ (7 : Int32) = 4 ∧ ¬ (7 : Int32) = 5 ∧ ¬ (7 : Int32) = 6 := by decide
theorem i8 : ¬ (8 : Int32) = 0 ∧ ¬ (8 : Int32) = 1 ∧ ¬ (8 : Int32) = 2 ∧ ¬ (8 : Int32) = 3 ∧ ¬ (8 : Int32) = 4 ∧ ¬ (8 : Int32) = 5 ∧ ¬ (8 : Int32) = 6 ∧ ¬ (8 : Int32) = 7 := by decide
theorem lq_cut {C : ja_H → Nat → Nat → Nat → Int32 → Option (Int32 × ja_H)} {v : Int32} {h1 h2 : ja_H} (hp : p + 3 < L) (hL : L ≤ 2048) (he : xs p &&& 15 = 1) (B : jv_B h1) (B2 : jv_B h2) (e1 : r_La_cut h 0 (xs (p + 1)) = some (v, h1)) (e2 : r_Mo_cut h1 25 (xs (p + 1)) = some h2) (e3 : h2.2.1 25 0 = v) : q_La_law_23 L xs C h 0 25 40 (nI p) = C h2 0 25 40 (nI (p + 4)) := by
  simp only [q_La_law_23, if_neg (jr_le hp hL), jr_at (p := p) (by omega) hL, he, jsw, if_neg i10, if_true, lq_add1, jr_at (p := p + 1) (by omega) hL, e1, jcI, jcV, jlE, jk_25 B, e2, jk_25 B2, lw_thrown B2, e3, r_La_law_575, lq_add4]
theorem lq_context {C : ja_H → Nat → Nat → Nat → Int32 → Option (Int32 × ja_H)} {v : Int32} {h1 h2 : ja_H} (hp : p + 3 < L) (hL : L ≤ 2048) (he : xs p &&& 15 = 2) (B : jv_B h1) (B2 : jv_B h2) (e1 : r_La_context h 0 (xs (p + 1)) = some (v, h1)) (e2 : r_Mo_context h1 25 (xs (p + 1)) = some h2) (e3 : h2.2.1 25 0 = v) : q_La_law_23 L xs C h 0 25 40 (nI p) = C h2 0 25 40 (nI (p + 4)) := by
  simp only [q_La_law_23, if_neg (jr_le hp hL), jr_at (p := p) (by omega) hL, he, jsw, if_neg i20, if_neg i21, if_true, lq_add1, jr_at (p := p + 1) (by omega) hL, e1, jcI, jcV, jlE, jk_25 B, e2, jk_25 B2, lw_thrown B2, e3, r_La_law_575, lq_add4]
theorem lq_put {C : ja_H → Nat → Nat → Nat → Int32 → Option (Int32 × ja_H)} {v : Int32} {h1 h2 : ja_H} (hp : p + 3 < L) (hL : L ≤ 2048) (he : xs p &&& 15 = 3) (B : jv_B h1) (B2 : jv_B h2) (e1 : r_La_put h 0 (xs (p + 1)) (jw_long (xs (p + 2)) (xs (p + 3))) = some (v, h1)) (e2 : r_Mo_put h1 25 (xs (p + 1)) (jw_long (xs (p + 2)) (xs (p + 3))) = some h2) (e3 : h2.2.1 25 0 = v) : q_La_law_23 L xs C h 0 25 40 (nI p) = C h2 0 25 40 (nI (p + 4)) := by
  unfold jw_long at e1 e2
  simp only [q_La_law_23, if_neg (jr_le hp hL), jr_at (p := p) (by omega) hL, he, jsw, if_neg i30, if_neg i31, if_neg i32, if_true, lq_add1, lq_add2, lq_add3, jr_at (p := p + 1) (by omega) hL, jr_at (p := p + 2) (by omega) hL, jr_at (p := p + 3) (by omega) hL, e1, jcI, jcV, jlE, jk_25 B, e2, jk_25 B2, lw_thrown B2, e3, r_La_law_575, lq_add4]
theorem lq_verify {C : ja_H → Nat → Nat → Nat → Int32 → Option (Int32 × ja_H)} {v b : Int32} {h1 h2 : ja_H} (hp : p + 3 < L) (hL : L ≤ 2048) (he : xs p &&& 15 = 4) (B : jv_B h1) (B2 : jv_B h2) (e1 : r_La_verify h 0 40 = some (v, h1)) (e2 : r_Mo_verify h1 25 = some (b, h2)) (e3 : h2.2.1 25 0 = v) (e4 : v = 0 → h2.2.2.1 40 0 = b.toInt64) : q_La_law_23 L xs C h 0 25 40 (nI p) = C h2 0 25 40 (nI (p + 4)) := by
  obtain ⟨a0, a1, a2, a3⟩ := i4
  simp only [q_La_law_23, if_neg (jr_le hp hL), jr_at (p := p) (by omega) hL, he, jsw, if_neg a0, if_neg a1, if_neg a2, if_neg a3, if_true, e1, jcI, jlE, jk_25 B, e2, jk_25 B2, lw_thrown B2, e3, r_La_law_381, r_La_law_575, lq_add4]
  by_cases hv : v = 0
  · rw [if_pos hv, jE_40 B2 jx0]
    have e5 : h2.2.2.1 40 (Int32.toNatClampNeg 0) = b.toInt64 := e4 hv
    rw [if_pos e5]
  · rw [if_neg hv]
theorem lq_fault {C : ja_H → Nat → Nat → Nat → Int32 → Option (Int32 × ja_H)} {v : Int32} {h1 h2 : ja_H} (hp : p + 3 < L) (hL : L ≤ 2048) (he : xs p &&& 15 = 5) (B0 : jv_B h) (B : jv_B h1) (e1 : r_WJ_fault h 0 = some (v, h1)) (e2 : r_Mo_fault h1 25 = some (v, h2)) : q_La_law_23 L xs C h 0 25 40 (nI p) = C h2 0 25 40 (nI (p + 4)) := by
  obtain ⟨a0, a1, a2, a3, a4⟩ := i5
  simp only [q_La_law_23, if_neg (jr_le hp hL), jr_at (p := p) (by omega) hL, he, jsw, if_neg a0, if_neg a1, if_neg a2, if_neg a3, if_neg a4, if_true, jk_0 B0, e1, jcI, jlE, jk_25 B, e2, r_La_law_575, lq_add4]
theorem lq_state {C : ja_H → Nat → Nat → Nat → Int32 → Option (Int32 × ja_H)} {v : Int32} {b : Int64} {h1 h2 : ja_H} (hp : p + 3 < L) (hL : L ≤ 2048) (he : xs p &&& 15 = 6) (B : jv_B h1) (B2 : jv_B h2) (e1 : r_La_state h 0 (xs (p + 1)) (xs (p + 2)) (xs (p + 3)) 40 = some (v, h1)) (e2 : r_Mo_state h1 25 (xs (p + 1)) (xs (p + 2)) (xs (p + 3)) = some (b, h2)) (e3 : h2.2.1 25 0 = v) (e4 : v = 0 → h2.2.2.1 40 0 = b) : q_La_law_23 L xs C h 0 25 40 (nI p) = C h2 0 25 40 (nI (p + 4)) := by
  obtain ⟨a0, a1, a2, a3, a4, a5⟩ := i6
  simp only [q_La_law_23, if_neg (jr_le hp hL), jr_at (p := p) (by omega) hL, he, jsw, if_neg a0, if_neg a1, if_neg a2, if_neg a3, if_neg a4, if_neg a5, if_true, lq_add1, lq_add2, lq_add3, jr_at (p := p + 1) (by omega) hL, jr_at (p := p + 2) (by omega) hL, jr_at (p := p + 3) (by omega) hL, e1, jcI, jcL, jlE, jk_25 B, e2, jk_25 B2, lw_thrown B2, e3, r_La_law_473, r_La_law_575, lq_add4]
  by_cases hv : v = 0
  · rw [if_pos hv, jE_40 B2 jx0]
    have e5 : h2.2.2.1 40 (Int32.toNatClampNeg 0) = b := e4 hv
    rw [if_pos e5]
  · rw [if_neg hv]
theorem lq_run {C : ja_H → Nat → Nat → Nat → Int32 → Option (Int32 × ja_H)} {v : Int32} {b : Int64} {h1 h2 : ja_H} (hp : p + 3 < L) (hL : L ≤ 2048) (he : xs p &&& 15 = 7) (B : jv_B h1) (B2 : jv_B h2) (e1 : r_La_run h 0 40 = some (v, h1)) (e2 : r_Mo_run h1 25 = some (b, h2)) (e3 : h2.2.1 25 0 = v) (e4 : v = 0 → h2.2.2.1 40 0 = b) : q_La_law_23 L xs C h 0 25 40 (nI p) = C h2 0 25 40 (nI (p + 4)) := by
  obtain ⟨a0, a1, a2, a3, a4, a5, a6⟩ := i7
  simp only [q_La_law_23, if_neg (jr_le hp hL), jr_at (p := p) (by omega) hL, he, jsw, if_neg a0, if_neg a1, if_neg a2, if_neg a3, if_neg a4, if_neg a5, if_neg a6, if_true, e1, jcI, jcL, jlE, jk_25 B, e2, jk_25 B2, lw_thrown B2, e3, r_La_law_516, r_La_law_575, lq_add4]
  by_cases hv : v = 0
  · rw [if_pos hv, jE_40 B2 jx0]
    have e5 : h2.2.2.1 40 (Int32.toNatClampNeg 0) = b := e4 hv
    rw [if_pos e5]
  · rw [if_neg hv]
theorem lq_count {C : ja_H → Nat → Nat → Nat → Int32 → Option (Int32 × ja_H)} {v b : Int32} {h1 h2 : ja_H} (hp : p + 3 < L) (hL : L ≤ 2048) (he : xs p &&& 15 = 8) (B : jv_B h1) (B2 : jv_B h2) (e1 : r_La_count h 0 (xs (p + 1)) 40 = some (v, h1)) (e2 : r_Mo_count h1 25 (xs (p + 1)) = some (b, h2)) (e3 : h2.2.1 25 0 = v) (e4 : v = 0 → h2.2.2.1 40 0 = b.toInt64) : q_La_law_23 L xs C h 0 25 40 (nI p) = C h2 0 25 40 (nI (p + 4)) := by
  obtain ⟨a0, a1, a2, a3, a4, a5, a6, a7⟩ := i8
  simp only [q_La_law_23, if_neg (jr_le hp hL), jr_at (p := p) (by omega) hL, he, jsw, if_neg a0, if_neg a1, if_neg a2, if_neg a3, if_neg a4, if_neg a5, if_neg a6, if_neg a7, if_true, lq_add1, jr_at (p := p + 1) (by omega) hL, e1, jcI, jlE, jk_25 B, e2, jk_25 B2, lw_thrown B2, e3, r_La_law_572, r_La_law_575, lq_add4]
  by_cases hv : v = 0
  · rw [if_pos hv, jE_40 B2 jx0]
    have e5 : h2.2.2.1 40 (Int32.toNatClampNeg 0) = b.toInt64 := e4 hv
    rw [if_pos e5]
  · rw [if_neg hv]
theorem lq_other {C : ja_H → Nat → Nat → Nat → Int32 → Option (Int32 × ja_H)} {z : Int32} (hp : p + 3 < L) (hL : L ≤ 2048) (he : xs p &&& 15 = z) (a0 : ¬ z = 0) (a1 : ¬ z = 1) (a2 : ¬ z = 2) (a3 : ¬ z = 3) (a4 : ¬ z = 4) (a5 : ¬ z = 5) (a6 : ¬ z = 6) (a7 : ¬ z = 7) (a8 : ¬ z = 8) : q_La_law_23 L xs C h 0 25 40 (nI p) = C h 0 25 40 (nI (p + 4)) := by
  simp only [q_La_law_23, if_neg (jr_le hp hL), jr_at (p := p) (by omega) hL, he, jsw, if_neg a0, if_neg a1, if_neg a2, if_neg a3, if_neg a4, if_neg a5, if_neg a6, if_neg a7, if_neg a8, jlE, r_La_law_575, lq_add4]
end LREST
