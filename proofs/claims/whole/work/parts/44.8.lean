section M2
variable {h : ja_H} {k d e c : Nat} {σ : sg_S} {g : Nat → Int32} {l p q r : pv_T}
theorem gq (hg : jw_f (h.2.2.1 26 k) = g) : jw_op (h.2.2.1 26 k) = g 0 ∧ jw_d (h.2.2.1 26 k) = g 1 ∧ jw_s (h.2.2.1 26 k) = g 2 ∧ jw_off (h.2.2.1 26 k) = g 3 ∧ jw_imm (h.2.2.1 26 k) = g 4 ∧ g 6 = g 0 >>> (4 &&& 31) := by
  subst hg
  exact ⟨rfl, rfl, rfl, rfl, rfl, rfl⟩
theorem mp_size_e : mp_size (g 0) = pw_size g := rfl
theorem mo_access {st : Int32} (b : jv_B h) (hk : k < 1024) (hg : jw_f (h.2.2.1 26 k) = g) (hc : c < 75) (p0 : (mv h k c).1 ≠ 0) (po : pv_ok (mv h k c)) (hs : st = 0 ↔ pw_stores g = 0) : r_Mo_access h 25 (nI k) (nI c) st = some (pj_reach g (h.2.1 25 9) (mv h k c), h) := by
  obtain ⟨g0, g1, g2, g3, g4, g6⟩ := gq hg
  have k26 : k < 1026 := by omega
  simp only [r_Mo_access, r_Mo_access_94, r_Mo_access_100, r_Mo_access_117, r_Mo_access_123, jk_25 b, mo_is b k26 hc, mo_op b hk, mo_size, mo_least b k26 hc, mo_off b hk, mo_most b k26 hc, jcI, jcL, jlE, jI_25 b, g0, g3, mp_size_e]
  have fl : ∀ x y : Int64, (if x ≤ y then some ((0 : Int32), h) else some (11, h)) = (if y < x then some (11, h) else some (0, h)) := fun x y => by
    by_cases z : x ≤ y
    · rw [if_pos z, if_neg (by rw [ai_le] at z; rw [ai_lt]; omega)]
    · rw [if_neg z, if_pos (by rw [ai_le] at z; rw [ai_lt]; omega)]
  unfold pj_reach pj_ins pn_ptr
  generalize mv h k c = v at *
  rcases pv_c po with z | z | z | z
  · exact absurd z p0
  · simp (decide := true) only [z, reduceIte]
  · by_cases z2 : st = 0
    · have z3 := hs.mp z2
      simp (decide := true) only [z, z2, z3, reduceIte, pw_ite]
      by_cases z5 : v.2.1 + (g 3).toInt64 < 0
      · rw [if_pos z5, if_pos z5]
      · rw [if_neg z5, if_neg z5]
        exact fl _ _
    · have z3 : ¬ pw_stores g = 0 := fun w => z2 (hs.mpr w)
      simp (decide := true) only [z, z2, z3, reduceIte]
  · simp (decide := true) only [z, reduceIte, pw_ite]
    by_cases z5 : v.2.1 + (g 3).toInt64 < -512
    · rw [if_pos z5, if_pos z5]
    · rw [if_neg z5, if_neg z5]
      exact fl _ _
theorem k4e5 : (-400000 : Int64).toInt = -400000 ∧ (400000 : Int64).toInt = 400000 := by decide
theorem mo_331 (b : jv_B h) (hd : d < 75) (po : pv_ok p) (qo : pv_ok q) (pk : p.1 = 2 ∨ p.1 = 3) (g6 : g 6 = 0 ∨ g 6 = 1) : r_Mo_summed_331 h 25 (g 6) (nI d) p.1 p.2.1 p.2.2 q.2.1 q.2.2 = some ((pj_mp2 g l p q).1, if (pj_mp2 g l p q).1 = 0 then mgv h 1024 d (pj_mp2 g l p q).2 else h) := by
  have s7 : some ((7 : Int32), h) = some ((7 : Int32), if (7 : Int32) = 0 then mgv h 1024 d l else h) := by rw [if_neg (show ¬ (7 : Int32) = 0 by decide)]
  have pl : -100000 ≤ p.2.1.toInt ∧ p.2.1.toInt ≤ p.2.2.toInt ∧ p.2.2.toInt ≤ 100000 := by
    rcases pk with z | z
    · exact pv_k2 po z
    · have := pv_k3 po z
      rw [← this.1]
      omega
  have ql := pv_le qo
  have e2 := k2e5
  have e4 := k4e5
  have i10' := @i10
  have gv : ∀ L H : Int64, r_Mo_give h 25 1024 (nI d) p.1 L H = some (mgv h 1024 d (p.1, L, H)) := fun L H => mo_give (r := 1024) b (by decide) hd (by rcases pk with z | z <;> rw [z] <;> decide)
  by_cases M : -400000 ≤ q.2.1.toInt ∧ q.2.2.toInt ≤ 400000
  · have m1 : ¬ q.2.1 < -400000 := by rw [ai_lt]; omega
    have m2 : ¬ 400000 < q.2.1 := by rw [ai_lt]; omega
    have m3 : ¬ q.2.2 < -400000 := by rw [ai_lt]; omega
    have m4 : q.2.2 ≤ 400000 := by rw [ai_le]; omega
    have key : ∀ L H : Int64, L = (if g 6 = 0 then p.2.1 + q.2.1 else p.2.1 - q.2.2) → H = (if g 6 = 0 then p.2.2 + q.2.2 else p.2.2 - q.2.1) → r_Mo_summed_406 h 25 (nI d) p.1 L H = some ((pj_mp2 g l p q).1, if (pj_mp2 g l p q).1 = 0 then mgv h 1024 d (pj_mp2 g l p q).2 else h) := fun L H hL hH => by
      have tl : L.toInt = (if g 6 = 0 then p.2.1.toInt + q.2.1.toInt else p.2.1.toInt - q.2.2.toInt) := by
        rw [hL]
        by_cases z : g 6 = 0
        · rw [if_pos z, if_pos z, ai_add (by omega) (by omega)]
        · rw [if_neg z, if_neg z, ai_sub (by omega) (by omega)]
      have th : H.toInt = (if g 6 = 0 then p.2.2.toInt + q.2.2.toInt else p.2.2.toInt - q.2.1.toInt) := by
        rw [hH]
        by_cases z : g 6 = 0
        · rw [if_pos z, if_pos z, ai_add (by omega) (by omega)]
        · rw [if_neg z, if_neg z, ai_sub (by omega) (by omega)]
      have LH : L.toInt ≤ H.toInt := by
        rw [tl, th]
        split <;> omega
      simp only [r_Mo_summed_406, r_Mo_summed_444, jlE, jk_25 b, gv, jcV]
      unfold pj_mp2
      rw [← hL, ← hH]
      by_cases N : -100000 ≤ L.toInt ∧ H.toInt ≤ 100000
      · have q1 : pn_in q (-200000) 200000 = 1 := by
          by_cases z : g 6 = 0
          · rw [if_pos z] at tl th
            exact pn_in_0 (by rw [e2.1]; omega) (by rw [e2.2.1]; omega)
          · rw [if_neg z] at tl th
            exact pn_in_0 (by rw [e2.1]; omega) (by rw [e2.2.1]; omega)
        have q2 : pn_in (p.1, L, H) (-100000) 100000 = 1 := by
          apply pn_in_0
          · rw [e2.2.2.1]
            exact N.1
          · rw [e2.2.2.2]
            exact N.2
        rw [q1, q2, if_neg i10, if_neg i10]
        rw [if_neg (by rw [ai_lt, e2.2.2.1]; omega), if_neg (by rw [ai_lt, e2.2.2.2]; omega), if_neg (by rw [ai_lt, e2.2.2.1]; omega), if_pos (by rw [ai_le, e2.2.2.2]; omega)]
        show some ((0 : Int32), mgv h 1024 d (p.1, L, H)) = some ((0 : Int32), if (0 : Int32) = 0 then mgv h 1024 d (p.1, L, H) else h)
        rw [if_pos rfl]
      · have lhs : (if L < -100000 then some ((7 : Int32), h) else if 100000 < H then some (7, h) else if H < -100000 then some (7, h) else if L ≤ 100000 then some (0, mgv h 1024 d (p.1, L, H)) else some (7, h)) = some (7, h) := by
          by_cases z1 : L < -100000
          · rw [if_pos z1]
          · rw [if_neg z1]
            rw [ai_lt, e2.2.2.1] at z1
            rw [if_pos (by rw [ai_lt, e2.2.2.2]; omega)]
        rw [lhs]
        by_cases q1 : pn_in q (-200000) 200000 = 0
        · rw [if_pos q1]
          exact s7
        · have q2 : pn_in (p.1, L, H) (-100000) 100000 = 0 := Classical.byContradiction fun n => by
            have w := pn_in_1 n
            rw [e2.2.2.1, e2.2.2.2] at w
            exact N w
          rw [if_neg q1, q2, if_pos rfl]
          show some ((7 : Int32), h) = some ((7 : Int32), if (7 : Int32) = 0 then mgv h 1024 d (p.1, L, H) else h)
          rw [if_neg (show ¬ (7 : Int32) = 0 by decide)]
    simp only [r_Mo_summed_331, r_Mo_summed_367, r_Mo_summed_387, jlE, if_neg m1, if_neg m2, if_neg m3, if_pos m4]
    by_cases z : g 6 = 0
    · rw [if_pos z, if_pos z]
      exact key _ _ (if_pos z).symm (if_pos z).symm
    · rw [if_neg z, if_neg z]
      exact key _ _ (if_neg z).symm (if_neg z).symm
  · have q1 : pn_in q (-200000) 200000 = 0 := Classical.byContradiction fun n => by
      have w := pn_in_1 n
      rw [e2.1, e2.2.1] at w
      omega
    unfold pj_mp2
    rw [if_pos q1]
    simp only [r_Mo_summed_331, r_Mo_summed_367]
    by_cases m1 : q.2.1 < -400000
    · rw [if_pos m1]
      exact s7
    · rw [if_neg m1]
      rw [ai_lt, e4.1] at m1
      by_cases m2 : 400000 < q.2.1
      · rw [if_pos m2]
        exact s7
      · rw [if_neg m2]
        by_cases m3 : q.2.2 < -400000
        · rw [if_pos m3]
          exact s7
        · rw [if_neg m3, if_neg (by rw [ai_le, e4.2]; omega)]
          exact s7
theorem mo_s315 (b : jv_B h) (hd : d < 75) (po : pv_ok p) (qo : pv_ok q) (pk : p.1 = 2 ∨ p.1 = 3) (g6 : g 6 = 0 ∨ g 6 = 1) : r_Mo_summed_315 h 25 (g 6) (nI d) p.1 p.2.1 p.2.2 q.2.1 q.2.2 = some ((pj_mp1 g l p q).1, if (pj_mp1 g l p q).1 = 0 then mgv h 1024 d (pj_mp1 g l p q).2 else h) := by
  simp only [r_Mo_summed_315, r_Mo_summed_367, jlE, mo_331 (l := l) b hd po qo pk g6]
  unfold pj_mp1 pn_one
  by_cases z : p.1 = 3
  · rw [if_pos z, if_pos z]
    by_cases y : q.2.1 = q.2.2
    · rw [if_pos y, if_pos y, if_neg i10]
    · rw [if_neg y, if_neg y, if_pos rfl]
      show some ((7 : Int32), h) = some ((7 : Int32), if (7 : Int32) = 0 then mgv h 1024 d l else h)
      rw [if_neg (show ¬ (7 : Int32) = 0 by decide)]
  · rw [if_neg z, if_neg z]
theorem m296_0 {y3 y14 : Int32} {y10 y15 y17 z0 : Int64} (b : jv_B h) (k26 : k < 1026) (d75 : d < 75) (hl : mv h k d = l) : r_Mo_summed_296 h 25 (nI k) y3 (nI d) y10 0 y14 y15 y17 z0 = r_Mo_summed_315 h 25 y3 (nI d) y14 y15 y17 z0 l.2.2 := by
  rw [r_Mo_summed_296, jlE, if_pos rfl, jk_25 b, mo_most b k26 d75, jcL, hl]
theorem m296_1 {y3 y14 : Int32} {y10 y15 y17 z0 : Int64} : r_Mo_summed_296 h 25 (nI k) y3 (nI d) y10 1 y14 y15 y17 z0 = r_Mo_summed_315 h 25 y3 (nI d) y14 y15 y17 z0 y10 := by
  rw [r_Mo_summed_296, jlE, if_neg i10]
theorem m277_0 {y3 y14 : Int32} {y8 y10 y15 z0 : Int64} (b : jv_B h) (k26 : k < 1026) (d75 : d < 75) (hl : mv h k d = l) : r_Mo_summed_277 h 25 (nI k) y3 (nI d) y8 y10 0 y14 y15 z0 = r_Mo_summed_315 h 25 y3 (nI d) y14 y15 z0 l.2.1 l.2.2 := by
  rw [r_Mo_summed_277, jlE, if_pos rfl, jk_25 b, mo_least b k26 d75, jcL, hl, m296_0 b k26 d75 hl]
theorem m277_1 {y3 y14 : Int32} {y8 y10 y15 z0 : Int64} : r_Mo_summed_277 h 25 (nI k) y3 (nI d) y8 y10 1 y14 y15 z0 = r_Mo_summed_315 h 25 y3 (nI d) y14 y15 z0 y8 y10 := by
  rw [r_Mo_summed_277, jlE, if_neg i10, m296_1]
theorem m258_0 {y3 y14 : Int32} {y8 y10 z0 : Int64} (b : jv_B h) (k26 : k < 1026) (d75 : d < 75) (hl : mv h k d = l) : r_Mo_summed_258 h 25 (nI k) y3 (nI d) y8 y10 0 y14 z0 = r_Mo_summed_315 h 25 y3 (nI d) y14 z0 y10 l.2.1 l.2.2 := by
  rw [r_Mo_summed_258, jlE, if_pos rfl, m277_0 b k26 d75 hl]
theorem m258_1 {y3 y14 : Int32} {y8 y10 z0 : Int64} (b : jv_B h) (k26 : k < 1026) (d75 : d < 75) (hl : mv h k d = l) : r_Mo_summed_258 h 25 (nI k) y3 (nI d) y8 y10 1 y14 z0 = r_Mo_summed_315 h 25 y3 (nI d) y14 z0 l.2.2 y8 y10 := by
  rw [r_Mo_summed_258, jlE, if_neg i10, jk_25 b, mo_most b k26 d75, jcL, hl, m277_1]
theorem m239_0 {y3 z0 : Int32} {y8 y10 : Int64} (b : jv_B h) (k26 : k < 1026) (d75 : d < 75) (hl : mv h k d = l) : r_Mo_summed_239 h 25 (nI k) y3 (nI d) y8 y10 0 z0 = r_Mo_summed_315 h 25 y3 (nI d) z0 y8 y10 l.2.1 l.2.2 := by
  rw [r_Mo_summed_239, jlE, if_pos rfl, m258_0 b k26 d75 hl]
theorem m239_1 {y3 z0 : Int32} {y8 y10 : Int64} (b : jv_B h) (k26 : k < 1026) (d75 : d < 75) (hl : mv h k d = l) : r_Mo_summed_239 h 25 (nI k) y3 (nI d) y8 y10 1 z0 = r_Mo_summed_315 h 25 y3 (nI d) z0 l.2.1 l.2.2 y8 y10 := by
  rw [r_Mo_summed_239, jlE, if_neg i10, jk_25 b, mo_least b k26 d75, jcL, hl, m258_1 b k26 d75 hl]
theorem mo_222_0 (b : jv_B h) (hk : k < 1024) (d75 : d < 75) (hl : mv h k d = l) : r_Mo_summed_222 h 25 (nI k) (g 6) (nI d) r.1 r.2.1 r.2.2 0 = r_Mo_summed_315 h 25 (g 6) (nI d) r.1 r.2.1 r.2.2 l.2.1 l.2.2 := by
  rw [r_Mo_summed_222, if_pos rfl, m239_0 b (by omega) d75 hl]
theorem mo_222_1 (b : jv_B h) (hk : k < 1024) (d75 : d < 75) (hl : mv h k d = l) : r_Mo_summed_222 h 25 (nI k) (g 6) (nI d) r.1 r.2.1 r.2.2 1 = r_Mo_summed_315 h 25 (g 6) (nI d) l.1 l.2.1 l.2.2 r.2.1 r.2.2 := by
  rw [r_Mo_summed_222, if_neg i10, jk_25 b, mo_is b (by omega) d75, jcI, hl, m239_1 b (by omega) d75 hl]
theorem m189 {y1 y3 y4 y5 y7 y12 y13 : Int32} {y8 y10 : Int64} : r_Mo_summed_189 h 25 y1 y3 y4 y5 y7 y8 y10 y12 y13 = if y5 = 0 then some (7, h) else if 1 < y3 then some (7, h) else if y12 = 0 then (if y3 = 1 then (if y13 = 0 then r_Mo_summed_222 h 25 y1 y3 y4 y7 y8 y10 y12 else some (7, h)) else r_Mo_summed_222 h 25 y1 y3 y4 y7 y8 y10 y12) else if y13 = 0 then (if y3 = 1 then (if y13 = 0 then r_Mo_summed_222 h 25 y1 y3 y4 y7 y8 y10 y12 else some (7, h)) else r_Mo_summed_222 h 25 y1 y3 y4 y7 y8 y10 y12) else some (7, h) := by
  rw [r_Mo_summed_189, r_Mo_summed_209, r_Mo_summed_219]
theorem mo_189 {y5 : Int32} (b : jv_B h) (hk : k < 1024) (d75 : d < 75) (hl : mv h k d = l) (lo : pv_ok l) (ro : pv_ok r) (l0 : l.1 ≠ 0) (r0 : r.1 ≠ 0) (pp : pn_ptr l ≠ 0 ∨ pn_ptr r ≠ 0) (g6 : g 6 = g 0 >>> (4 &&& 31)) (g47 : g 0 &&& 7 = 4 ∨ g 0 &&& 7 = 7) (gk : mk_k (g 6) ∨ g 6 = 13) (hy : y5 = if g 0 &&& 7 = 7 then 1 else 0) : r_Mo_summed_189 h 25 (nI k) (g 6) (nI d) y5 r.1 r.2.1 r.2.2 (pn_ptr l) (pn_ptr r) = some ((pj_mp g l r).1, if (pj_mp g l r).1 = 0 then mgv h 1024 d (pj_mp g l r).2 else h) := by
  have k26 : k < 1026 := by omega
  have l1 := pp_01 l
  have r1 := pp_01 r
  have bad : ∀ x : Int32 × pv_T, x = (7, l) → some ((7 : Int32), h) = some (x.1, if x.1 = 0 then mgv h 1024 d x.2 else h) := fun x e => by
    rw [e]
    show some ((7 : Int32), h) = some ((7 : Int32), if (7 : Int32) = 0 then mgv h 1024 d l else h)
    rw [if_neg (show ¬ (7 : Int32) = 0 by decide)]
  have e0 := mo_222_0 (g := g) (r := r) b hk d75 hl
  have e1 := mo_222_1 (g := g) (r := r) b hk d75 hl
  rw [m189]
  rcases g47 with z4 | z7
  · have n7 : ¬ g 0 &&& 7 = 7 := by rw [z4]; decide
    rw [hy, if_neg n7, if_pos rfl]
    refine bad _ ?_
    unfold pj_mp
    rw [if_neg]
    rintro ⟨q1, q2, q3⟩
    unfold pw_isOf32 at q1
    rw [if_pos z4] at q1
    by_cases z13 : g 6 = 13
    · rcases q2 with q2 | q2
      · rw [z13] at q2
        exact absurd q2 (by decide)
      · rw [z13] at q2
        exact absurd q2.1 (by decide)
    · rw [if_neg z13] at q1
      exact i10 q1
  · have n4 : ¬ g 0 &&& 7 = 4 := by rw [z7]; decide
    have o0 : pw_isOf32 g = 0 := if_neg n4
    rw [hy, if_pos z7, if_neg i10]
    by_cases g01 : g 6 = 0 ∨ g 6 = 1
    · have n1 : ¬ 1 < g 6 := by
        rcases g01 with q | q <;> rw [q] <;> decide
      rw [if_neg n1]
      rcases l1 with z | z
      · have rr : pn_ptr r = 1 := by
          rcases r1 with y | y
          · rcases pp with w | w
            · exact absurd z w
            · exact absurd y w
          · exact y
        rw [z, rr, if_pos rfl, if_neg i10]
        by_cases q1 : g 6 = 1
        · rw [if_pos q1]
          refine bad _ ?_
          unfold pj_mp
          rw [if_neg]
          rintro ⟨_, w2, _⟩
          rcases w2 with w2 | w2
          · rw [q1] at w2
            exact absurd w2 (by decide)
          · exact w2.2 z
        · have q0 : g 6 = 0 := g01.resolve_right q1
          have pm : pj_mp g l r = pj_mp1 g l r l := by
            unfold pj_mp
            rw [if_pos ⟨o0, Or.inl q0, fun w => w.1 z⟩, if_pos z]
          rw [if_neg q1, e0, pm]
          exact mo_s315 b d75 ro lo (pp_1 (by rw [rr]; exact i10)) g01
      · rw [z, if_neg i10]
        rcases r1 with y | y
        · have pm : pj_mp g l r = pj_mp1 g l l r := by
            unfold pj_mp
            rw [if_pos ⟨o0, (by
              rcases g01 with q | q
              · exact Or.inl q
              · exact Or.inr ⟨q, by rw [z]; exact i10⟩), fun w => w.2 y⟩, if_neg (by rw [z]; exact i10)]
          rw [y, if_pos rfl, if_pos rfl, ite_self, e1, pm]
          exact mo_s315 b d75 lo ro (pp_1 (by rw [z]; exact i10)) g01
        · rw [y, if_neg i10]
          refine bad _ ?_
          unfold pj_mp
          rw [if_neg]
          rintro ⟨_, _, w3⟩
          exact w3 ⟨by rw [z]; exact i10, by rw [y]; exact i10⟩
    · have n1 : 1 < g 6 := by
        unfold mk_k at gk
        rcases gk with (q | q | q | q | q | q | q | q | q | q | q | q | q) | q
        · exact absurd (Or.inl q) g01
        · exact absurd (Or.inr q) g01
        all_goals rw [q]; decide
      rw [if_pos n1]
      refine bad _ ?_
      unfold pj_mp
      rw [if_neg]
      rintro ⟨_, w2, _⟩
      rcases w2 with w2 | w2
      · exact g01 (Or.inl w2)
      · exact g01 (Or.inr w2.1)
theorem jsw_11 {α : Type} {a0 a1 a2 a3 a4 a5 a6 a7 a8 a9 a10 a11 a12 z : Option α} : jsw 11 [0, 1, 2, 3, 4, 5, 6, 7, 8, 9, 10, 11, 12] [a0, a1, a2, a3, a4, a5, a6, a7, a8, a9, a10, a11, a12] z = a11 := by
  simp (decide := true) only [jsw, reduceIte]
theorem m283_11 {y3 y8 y17 z0 : Int32} {y9 y11 y13 y15 y19 y21 z1 : Int64} {y1 : Int32} : r_Mo_numbers_283 h 25 y1 11 y3 y8 y9 y11 y13 y15 y17 y19 y21 z0 z1 = r_Mo_numbers_882 h 25 y8 y17 y13 y15 1 := by
  rw [r_Mo_numbers_283, jlE, jlE, jsw_11, jlE, jlE]
theorem t32_1 {v : pv_T} : pn_t32 1 v = pn_low v := if_neg i10
theorem m_num {y2 y3 : Int32} {u v : Int64} (b : jv_B h) (hk : k < 1024) (hd : jw_d (h.2.2.1 26 k) = nI d) (d75 : d < 75) : r_Mo_numbers h 25 (nI k) y2 y3 u v = if y3 = 0 then (if y2 = 13 then r_Mo_numbers_48 h 25 (nI k) y2 y3 (nI d) (mv h k d).2.1 (mv h k d).2.2 u v 0 else r_Mo_numbers_48 h 25 (nI k) y2 y3 (nI d) (mv h k d).2.1 (mv h k d).2.2 u v 1) else r_Mo_numbers_48 h 25 (nI k) y2 y3 (nI d) (mv h k d).2.1 (mv h k d).2.2 u v 0 := by
  have k26 : k < 1026 := by omega
  simp only [r_Mo_numbers, r_Mo_numbers_47, jk_25 b, mo_d b hk, hd, mo_least b k26 d75, mo_most b k26 d75, jcI, jcL, jlE]
theorem m220 {y1 y2 y3 y8 y17 z0 : Int32} {y9 y11 y13 y15 : Int64} (b : jv_B h) : r_Mo_numbers_220 h 25 y1 y2 y3 y8 y9 y11 y13 y15 y17 z0 = if z0 = 0 then (if y3 = 0 then r_Mo_numbers_283 (ja_sI h 25 16 0) 25 y1 y2 y3 y8 y9 y11 y13 y15 y17 (-9223372036854775808) 9223372036854775807 31 y13 else r_Mo_numbers_283 (ja_sI h 25 16 0) 25 y1 y2 y3 y8 y9 y11 y13 y15 y17 (-9223372036854775808) 9223372036854775807 63 y13) else (if y2 = 11 then r_Mo_numbers_256 (ja_sI h 25 16 0) 25 y8 y13 0 y1 25 else r_Mo_numbers_256 (ja_sI h 25 16 0) 25 y8 y13 y9 y1 25) := by
  rw [r_Mo_numbers_220, jlE, jlE, jlE, jpZ_25 b (Or.inl rfl)]
theorem m149 {y1 y3 y8 y17 : Int32} {y9 y11 y13 y15 : Int64} : r_Mo_numbers_149 h 25 y1 11 y3 y8 y9 y11 y13 y15 y17 = if y13 = y15 then r_Mo_numbers_220 h 25 y1 11 y3 y8 y9 y11 y13 y15 y17 1 else r_Mo_numbers_220 h 25 y1 11 y3 y8 y9 y11 y13 y15 y17 0 := by
  rw [r_Mo_numbers_149, if_pos rfl]
theorem mo_num11 (b : jv_B h) (hk : k < 1024) (hd : jw_d (h.2.2.1 26 k) = nI d) (d75 : d < 75) (r1 : r.1 = 1) (ro : pv_ok r) (h0 : g 0 = jw_op (h.2.2.1 26 k)) (g6 : g 6 = g 0 >>> (4 &&& 31)) (k11 : g 6 = 11) (z4 : g 0 &&& 7 = 4) : ∃ x, r_Mo_numbers h 25 (nI k) 11 0 r.2.1 r.2.2 = some (mgv (ja_sI h 25 16 x) 1024 d (pn_low r)) := by
  have er : r = (1, r.2.1, r.2.2) := by rw [← r1]
  have b1 : jv_B (ja_sI h 25 16 0) := b
  have n13 : ¬ (11 : Int32) = 13 := by decide
  have mk : mk_k (g 0 >>> (4 &&& 31)) := by
    rw [← g6, k11]
    unfold mk_k
    decide
  rw [m_num b hk hd d75, if_pos rfl, if_neg n13, mo_48, t32_1, t32_1, ← er, m149]
  by_cases c1 : r.2.1 = r.2.2
  · have pl : pn_low r = (1, r.2.1 &&& 4294967295, r.2.1 &&& 4294967295) := by
      rw [er, pn_low_v, if_pos c1]
    have p1 : (pn_low r).2.1 = r.2.1 &&& 4294967295 := by rw [pl]
    have p2 : (pn_low r).2.2 = r.2.1 &&& 4294967295 := by rw [pl]
    have ma := mo_mach (h := ja_sI h 25 16 0) (a := 0) (c := r.2.1 &&& 4294967295) b1 hk h0 (Or.inl z4) (Or.inl mk)
    have ar : ar_reck (g 0) 0 (r.2.1 &&& 4294967295) = r.2.1 &&& 4294967295 := by
      have a1 : ar_32 (g 0) = 1 := by
        unfold ar_32
        rw [if_pos z4, if_neg (by rw [← g6, k11]; decide)]
      have mm : ∀ y : Int64, ar_m 1 (y &&& 4294967295) = y &&& 4294967295 := fun y => by
        have := ar_mm (b := 1) (x := y)
        unfold ar_m at this ⊢
        rw [if_neg i10] at this ⊢
        rw [if_neg i10] at this
        exact this
      have k11' : g 0 >>> (4 &&& 31) = 11 := by rw [← g6, k11]
      unfold ar_reck
      rw [a1, mm]
      simp (decide := true) only [ar_tk, k11', reduceIte]
      rw [mm]
    refine ⟨0, ?_⟩
    rw [p1, p2, if_pos rfl, m220 b, if_neg i10, if_pos rfl, r_Mo_numbers_256, jk_25 b1, ma, jcL, jlE, jlE, mo_933 b1 d75, ar, pl]
  · have pe : pn_low r = (1, (pn_low r).2.1, (pn_low r).2.2) := by
      rw [er, pn_low_v, if_neg c1]
      split
      · rfl
      · split <;> rfl
    have pb : (pn_low r).2.1 ≠ (pn_low r).2.2 ∧ ¬ (pn_low r).2.1 < 0 ∧ (pn_low r).2.2 ≤ 4294967295 := by
      rw [er, pn_low_v, if_neg c1]
      split
      · exact ⟨by decide, by decide, by decide⟩
      · next q1 =>
        split
        · next q2 => exact ⟨c1, q1, q2⟩
        · exact ⟨by decide, by decide, by decide⟩
    have w0 : (ja_sI h 25 16 0).2.1 25 16 = 0 := by rw [ja_rI, if_pos ⟨rfl, rfl⟩]
    rw [if_neg pb.1, m220 b, if_pos rfl, if_pos rfl, m283_11]
    obtain ⟨x, hx⟩ := mo_R1 (h := ja_sI h 25 16 0) (o := 1) (lo := (pn_low r).2.1) (hi := (pn_low r).2.2) b1 d75 w0
    rw [ja_sI_sI] at hx
    refine ⟨x, hx.trans ?_⟩
    have : fin 1 (pn_low r).2.1 (pn_low r).2.2 = pn_low r := by
      unfold fin
      rw [if_neg i10, if_neg pb.2.1, if_pos pb.2.2, ← pe]
    rw [this]
theorem m85_0 {y3 y4 y5 y7 : Int32} {z0 : Int64} (b : jv_B h) (hk : k < 1024) : r_Mo_summed_85 h 25 (nI k) y3 y4 y5 0 y7 z0 = r_Mo_summed_111 h 25 (nI k) y3 y4 y5 y7 z0 (jw_imm (h.2.2.1 26 k)).toInt64 := by
  rw [r_Mo_summed_85, jlE, if_pos rfl, jk_25 b, mo_imm b hk, jcI]
theorem m85_1 {u y3 y4 y5 y7 : Int32} {z0 : Int64} (hu : ¬ u = 0) (b : jv_B h) (hk : k < 1024) (he : jw_s (h.2.2.1 26 k) = nI e) (e75 : e < 75) : r_Mo_summed_85 h 25 (nI k) y3 y4 y5 u y7 z0 = r_Mo_summed_111 h 25 (nI k) y3 y4 y5 y7 z0 (mv h k e).2.2 := by
  rw [r_Mo_summed_85, jlE, if_neg hu, jk_25 b, mo_s b hk, jcI, he, jk_25 b, mo_most b (by omega) e75, jcL]
theorem m59_0 {y3 y4 y5 z0 : Int32} (b : jv_B h) (hk : k < 1024) : r_Mo_summed_59 h 25 (nI k) y3 y4 y5 0 z0 = r_Mo_summed_111 h 25 (nI k) y3 y4 y5 z0 (jw_imm (h.2.2.1 26 k)).toInt64 (jw_imm (h.2.2.1 26 k)).toInt64 := by
  rw [r_Mo_summed_59, jlE, if_pos rfl, jk_25 b, mo_imm b hk, jcI, m85_0 b hk]
theorem m59_1 {u y3 y4 y5 z0 : Int32} (hu : ¬ u = 0) (b : jv_B h) (hk : k < 1024) (he : jw_s (h.2.2.1 26 k) = nI e) (e75 : e < 75) : r_Mo_summed_59 h 25 (nI k) y3 y4 y5 u z0 = r_Mo_summed_111 h 25 (nI k) y3 y4 y5 z0 (mv h k e).2.1 (mv h k e).2.2 := by
  rw [r_Mo_summed_59, jlE, if_neg hu, jk_25 b, mo_s b hk, jcI, he, jk_25 b, mo_least b (by omega) e75, jcL, m85_1 hu b hk he e75]
theorem m31_0 {y3 y4 z0 : Int32} (b : jv_B h) (hk : k < 1024) (us : mp_usesS (jw_op (h.2.2.1 26 k)) = 0) : r_Mo_summed_31 h 25 (nI k) y3 y4 z0 = r_Mo_summed_111 h 25 (nI k) y3 y4 z0 1 (jw_imm (h.2.2.1 26 k)).toInt64 (jw_imm (h.2.2.1 26 k)).toInt64 := by
  rw [r_Mo_summed_31, jlE, jk_25 b, mo_usesS b hk, jcI, jlE, us, if_pos rfl, m59_0 b hk]
theorem m31_1 {y3 y4 z0 : Int32} (b : jv_B h) (hk : k < 1024) (us : ¬ mp_usesS (jw_op (h.2.2.1 26 k)) = 0) (he : jw_s (h.2.2.1 26 k) = nI e) (e75 : e < 75) : r_Mo_summed_31 h 25 (nI k) y3 y4 z0 = r_Mo_summed_111 h 25 (nI k) y3 y4 z0 (mv h k e).1 (mv h k e).2.1 (mv h k e).2.2 := by
  rw [r_Mo_summed_31, jlE, jk_25 b, mo_usesS b hk, jcI, jlE, if_neg us, jk_25 b, mo_s b hk, jcI, he, jk_25 b, mo_is b (by omega) e75, jcI, m59_1 us b hk he e75]
theorem m111 {y1 y3 y4 y5 y7 : Int32} {y8 z0 : Int64} : r_Mo_summed_111 h 25 y1 y3 y4 y5 y7 y8 z0 = if y5 = 0 then r_Mo_summed_141 h 25 y1 y3 y4 y5 y7 y8 z0 else if y3 = 11 then jk h 25 9 (jc_V (r_Mo_give h 25 1024 y4 y7 y8 z0) (fun h2 => some (0, h2))) else r_Mo_summed_141 h 25 y1 y3 y4 y5 y7 y8 z0 := by
  rw [r_Mo_summed_111, jlE]
theorem m177 {y1 y3 y4 y5 y7 y12 z0 : Int32} {y8 y10 : Int64} : r_Mo_summed_177 h 25 y1 y3 y4 y5 y7 y8 y10 y12 z0 = if y12 = 0 then (if z0 = 0 then jk h 25 9 (jc_V (r_Mo_numbers h 25 y1 y3 y5 y8 y10) (fun h2 => some (0, h2))) else r_Mo_summed_189 h 25 y1 y3 y4 y5 y7 y8 y10 y12 z0) else r_Mo_summed_189 h 25 y1 y3 y4 y5 y7 y8 y10 y12 z0 := by
  rw [r_Mo_summed_177, jlE]
theorem m164 {y1 y3 y4 y5 z0 : Int32} {y8 y10 : Int64} (r4 : mk4 r) : r_Mo_summed_164 h 25 y1 y3 y4 y5 r.1 y8 y10 z0 = r_Mo_summed_177 h 25 y1 y3 y4 y5 r.1 y8 y10 z0 (pn_ptr r) := by
  have p : (r.1 < 2 ∧ pn_ptr r = 0) ∨ (¬ r.1 < 2 ∧ pn_ptr r = 1) := by
    unfold pn_ptr
    rcases r4 with z | z | z | z <;> rw [z] <;> decide
  rw [r_Mo_summed_164, jlE]
  rcases p with ⟨p1, p2⟩ | ⟨p1, p2⟩
  · rw [if_pos p1, p2]
  · rw [if_neg p1, p2]
theorem m141 {y3 y5 : Int32} {y8 y10 : Int64} (b : jv_B h) (hk : k < 1024) (d75 : d < 75) (r4 : mk4 r) (l4 : mk4 (mv h k d)) : r_Mo_summed_141 h 25 (nI k) y3 (nI d) y5 r.1 y8 y10 = r_Mo_summed_177 h 25 (nI k) y3 (nI d) y5 r.1 y8 y10 (if mp_usesD (jw_op (h.2.2.1 26 k)) = 0 then 0 else pn_ptr (mv h k d)) (pn_ptr r) := by
  rw [r_Mo_summed_141, jk_25 b, mo_usesD b hk, jcI]
  by_cases q : mp_usesD (jw_op (h.2.2.1 26 k)) = 0
  · rw [if_pos q, if_pos q, r_Mo_summed_163, m164 r4]
  · rw [if_neg q, if_neg q, jk_25 b, mo_ptr b (by omega) d75 l4, jcI]
    rcases pp_01 (mv h k d) with y | y
    · rw [y, if_pos rfl, r_Mo_summed_163, m164 r4]
    · rw [y, if_neg i10, m164 r4]
theorem mo_summed (b : jv_B h) (hk : k < 1024) (hg : jw_f (h.2.2.1 26 k) = g) (w : gw g) (m : mS h k σ) (ok : sg_ok σ) (s1 : g 5 = 1) (im : g 6 = 13 → g 4 = 16 ∨ g 4 = 32 ∨ g 4 = 64) (z8 : g 6 = 8 ∨ g 6 = 13 → pw_usesS g = 0) (n1 : ¬ (¬ pw_usesOldD g = 0 ∧ (sg_l g σ).1 = 0)) (n2 : ¬ (¬ pw_usesS g = 0 ∧ (sg_r g σ).1 = 0)) (g47 : g 0 &&& 7 = 4 ∨ g 0 &&& 7 = 7) : ∃ x, r_Mo_summed h 25 (nI k) = some ((pj_ar g (sg_l g σ) (sg_r g σ)).1, if (pj_ar g (sg_l g σ) (sg_r g σ)).1 = 0 then mgv (ja_sI h 25 16 x) 1024 (g 1).toNatClampNeg (pj_ar g (sg_l g σ) (sg_r g σ)).2 else h) := by
  obtain ⟨g0, g1, g2, g3, g4, g6⟩ := gq hg
  have k26 : k < 1026 := by omega
  obtain ⟨d, hd, d11⟩ := w.1
  obtain ⟨e, he, e11⟩ := w.2.1
  have d75 : d < 75 := by omega
  have e75 : e < 75 := by omega
  have dd : (g 1).toNatClampNeg = d := by rw [hd, jn_clamp (by omega)]
  have ee : (g 2).toNatClampNeg = e := by rw [he, jn_clamp (by omega)]
  have f5 : jw_f (h.2.2.1 26 k) 5 ≠ 0 := by rw [hg, s1]; decide
  obtain ⟨t1, t2, t3, t4⟩ := (mt_w (h.2.2.1 26 k)).2 f5
  rw [hg] at t2 t3
  rw [g0] at t2 t3
  have lo := sg_l_ok w ok
  have ro := sg_r_ok w ok
  have el : mv h k d = sg_l g σ := by
    unfold sg_l
    rw [dd]
    exact m.1 d d75
  have r0 : (sg_r g σ).1 ≠ 0 := by
    by_cases q : pw_usesS g = 0
    · unfold sg_r
      rw [if_pos q]
      exact i10
    · exact fun z => n2 ⟨q, z⟩
  have e1 : r_Mo_summed h 25 (nI k) = r_Mo_summed_111 h 25 (nI k) (g 6) (nI d) (if g 0 &&& 7 = 7 then 1 else 0) (sg_r g σ).1 (sg_r g σ).2.1 (sg_r g σ).2.2 := by
    have key : ∀ y5 : Int32, r_Mo_summed_31 h 25 (nI k) (g 6) (nI d) y5 = r_Mo_summed_111 h 25 (nI k) (g 6) (nI d) y5 (sg_r g σ).1 (sg_r g σ).2.1 (sg_r g σ).2.2 := fun y5 => by
      by_cases us : pw_usesS g = 0
      · have rr : sg_r g σ = (1, (g 4).toInt64, (g 4).toInt64) := if_pos us
        rw [rr, m31_0 b hk (by rw [g0, t2, us]), g4]
      · have rr : sg_r g σ = mv h k e := by
          unfold sg_r
          rw [if_neg us, ee]
          exact (m.1 e e75).symm
        rw [rr, m31_1 b hk (by rw [g0, t2]; exact us) (by rw [g2, he]) e75]
    rw [r_Mo_summed, jk_25 b, mo_op b hk, jcI, jlE, jlE, jk_25 b, mo_d b hk, jcI, jlE, g0, g1, hd, ← g6]
    by_cases z : g 0 &&& 7 = 7
    · rw [if_pos z, if_pos z, key]
    · rw [if_neg z, if_neg z, key]
  rw [e1, dd]
  have r4 : mk4 (sg_r g σ) := pv_c ro
  have gv : r_Mo_give h 25 1024 (nI d) (sg_r g σ).1 (sg_r g σ).2.1 (sg_r g σ).2.2 = some (mgv h 1024 d (sg_r g σ)) := mo_give (r := 1024) b (by decide) d75 r4
  have e177 : ∀ y5 : Int32, r_Mo_summed_141 h 25 (nI k) (g 6) (nI d) y5 (sg_r g σ).1 (sg_r g σ).2.1 (sg_r g σ).2.2 = r_Mo_summed_177 h 25 (nI k) (g 6) (nI d) y5 (sg_r g σ).1 (sg_r g σ).2.1 (sg_r g σ).2.2 (if pw_usesOldD g = 0 then 0 else pn_ptr (sg_l g σ)) (pn_ptr (sg_r g σ)) := fun y5 => by
    rw [m141 b hk d75 r4 (by rw [el]; exact pv_c lo), g0, t3, el]
  have same : mgv h 1024 d (sg_r g σ) = mgv (ja_sI h 25 16 (h.2.1 25 16)) 1024 d (sg_r g σ) := by rw [ja_sI_same rfl]
  by_cases k11 : g 6 = 11
  · have u0 : pw_usesOldD g = 0 := by
      simp (decide := true) only [pw_usesOldD, pw_stores, s1, k11, reduceIte]
    unfold pj_ar
    rw [if_pos k11, m111]
    rcases g47 with z4 | z7
    · have n7 : ¬ g 0 &&& 7 = 7 := by rw [z4]; decide
      have o1 : pw_isOf32 g = 1 := by
        unfold pw_isOf32
        rw [if_pos z4, if_neg (by rw [k11]; decide)]
      rw [if_neg n7, if_pos rfl, e177, if_pos u0, o1, if_neg i10, m177, if_pos rfl]
      by_cases z : pn_ptr (sg_r g σ) = 0
      · rw [if_pos z, if_pos z, jk_25 b, k11]
        obtain ⟨x, hx⟩ := mo_num11 b hk (by rw [g1, hd]) d75 (pp_n ro r0 z) ro g0.symm g6 k11 z4
        rw [hx, jcV]
        refine ⟨x, ?_⟩
        show some ((0 : Int32), mgv (ja_sI h 25 16 x) 1024 d (pn_low (sg_r g σ))) = some ((0 : Int32), if (0 : Int32) = 0 then mgv (ja_sI h 25 16 x) 1024 d (pn_low (sg_r g σ)) else h)
        rw [if_pos rfl]
      · rw [if_neg z, if_neg z, m189, if_pos rfl]
        refine ⟨0, ?_⟩
        show some ((7 : Int32), h) = some ((7 : Int32), if (7 : Int32) = 0 then mgv (ja_sI h 25 16 0) 1024 d (sg_l g σ) else h)
        rw [if_neg (show ¬ (7 : Int32) = 0 by decide)]
    · have o0 : pw_isOf32 g = 0 := if_neg (by rw [z7]; decide)
      rw [if_pos z7, if_neg i10, if_pos k11, o0, if_pos rfl, jk_25 b, gv, jcV, same]
      refine ⟨h.2.1 25 16, ?_⟩
      show some ((0 : Int32), mgv (ja_sI h 25 16 (h.2.1 25 16)) 1024 d (sg_r g σ)) = some ((0 : Int32), if (0 : Int32) = 0 then mgv (ja_sI h 25 16 (h.2.1 25 16)) 1024 d (sg_r g σ) else h)
      rw [if_pos rfl]
  · have u1 : pw_usesOldD g = 1 := pw_u1 s1 k11
    have l0 : (sg_l g σ).1 ≠ 0 := fun z => n1 ⟨by rw [u1]; exact i10, z⟩
    have ga : ga_ok g := (w.2.2.2.1 s1).resolve_left k11
    have gk : mk_k (g 6) ∨ g 6 = 13 := by
      unfold mk_k
      rcases ga.2.1 with q | q | q | q | q | q | q | q | q | q | q | q | q
      all_goals first | exact Or.inr q | exact Or.inl (by rw [q]; decide)
    have e111 : r_Mo_summed_111 h 25 (nI k) (g 6) (nI d) (if g 0 &&& 7 = 7 then 1 else 0) (sg_r g σ).1 (sg_r g σ).2.1 (sg_r g σ).2.2 = r_Mo_summed_177 h 25 (nI k) (g 6) (nI d) (if g 0 &&& 7 = 7 then 1 else 0) (sg_r g σ).1 (sg_r g σ).2.1 (sg_r g σ).2.2 (pn_ptr (sg_l g σ)) (pn_ptr (sg_r g σ)) := by
      rw [m111, if_neg k11, ite_self, e177, u1, if_neg i10]
    rw [e111]
    unfold pj_ar
    rw [if_neg k11, m177]
    by_cases zl : pn_ptr (sg_l g σ) = 0
    · by_cases zr : pn_ptr (sg_r g σ) = 0
      · rw [if_pos zl, if_pos zr, if_pos zl, if_pos zr, jk_25 b]
        obtain ⟨x, hx⟩ := mo_numbers (y3 := if g 0 &&& 7 = 7 then 1 else 0) b hk (by rw [g1, hd]) d75 el (pp_n lo l0 zl) (pp_n ro r0 zr) lo ro ga g0.symm g4.symm im (fun q => if_pos (z8 q)) (by
          rcases g47 with z | z
          · rw [if_neg (by rw [z]; decide)]
            exact ⟨fun _ => z, fun _ => rfl⟩
          · rw [if_pos z]
            exact ⟨fun q => absurd q i10, fun q => absurd (z.symm.trans q) (by decide)⟩)
        rw [hx, jcV]
        refine ⟨x, ?_⟩
        show some ((0 : Int32), mgv (ja_sI h 25 16 x) 1024 d (pn_reck g (sg_l g σ) (sg_r g σ))) = some ((0 : Int32), if (0 : Int32) = 0 then mgv (ja_sI h 25 16 x) 1024 d (pn_reck g (sg_l g σ) (sg_r g σ)) else h)
        rw [if_pos rfl]
      · rw [if_pos zl, if_neg zr, if_pos zl, if_neg zr]
        refine ⟨h.2.1 25 16, ?_⟩
        rw [ja_sI_same rfl]
        exact mo_189 b hk d75 el lo ro l0 r0 (Or.inr zr) g6 g47 gk rfl
    · rw [if_neg zl, if_neg zl]
      refine ⟨h.2.1 25 16, ?_⟩
      rw [ja_sI_same rfl]
      exact mo_189 b hk d75 el lo ro l0 r0 (Or.inl zl) g6 g47 gk rfl
end M2
