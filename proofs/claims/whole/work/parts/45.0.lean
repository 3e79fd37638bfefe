section M4
variable {h g' : ja_H} {k d e n r goal : Nat} {σ τ : sg_S} {g : Nat → Int32} {T : Nat → Option sg_S} {K : Int64} {v : pv_T}
theorem mt_1k : ∀ i : Fin 256, so (nI i.val) = 1 → (nI i.val &&& 7 = 4 ∨ nI i.val &&& 7 = 7) ∧ ((nI i.val >>> (4 &&& 31) = 8 ∨ nI i.val >>> (4 &&& 31) = 13) → mp_usesS (nI i.val) = 0) ∧ (nI i.val >>> (4 &&& 31) = 13 → pw_s3 (nI i.val) 0 (nI i.val >>> (4 &&& 31)) = 0) := by decide +kernel
theorem mt_2k : ∀ i : Fin 256, so (nI i.val) = 2 → (nI i.val >>> (4 &&& 31) = 1 ∨ nI i.val >>> (4 &&& 31) = 2 ∨ nI i.val >>> (4 &&& 31) = 3 ∨ nI i.val >>> (4 &&& 31) = 4 ∨ nI i.val >>> (4 &&& 31) = 5 ∨ nI i.val >>> (4 &&& 31) = 6 ∨ nI i.val >>> (4 &&& 31) = 7 ∨ nI i.val >>> (4 &&& 31) = 10 ∨ nI i.val >>> (4 &&& 31) = 11 ∨ nI i.val >>> (4 &&& 31) = 12 ∨ nI i.val >>> (4 &&& 31) = 13) := by decide +kernel
theorem sg_set_s : sg_set σ d (σ.1 d) = σ := by
  unfold sg_set
  have : pu_f σ.1 d (σ.1 d) = σ.1 := by
    funext j
    unfold pu_f
    split
    · next q => rw [q]
    · rfl
  rw [this]
theorem mS_g (m : mS h r σ) (d75 : d < 75) : mS (mgv h r d v) r (sg_set σ d v) := by
  refine ⟨fun c hc => ?_, fun j hj => ?_⟩
  · rw [mgv_v d75 hc]
    show _ = if c = d then v else σ.1 c
    by_cases y : c = d
    · rw [if_pos ⟨rfl, y⟩, if_pos y]
    · rw [if_neg (fun w => y w.2), if_neg y]
      exact m.1 c hc
  · rw [mgv_j]
    exact m.2 j hj
theorem okT_fl (okT : ∀ j τ, T j = some τ → sg_ok τ) (ok : sg_ok σ) : ∀ j τ, fl T goal σ j = some τ → sg_ok τ := by
  intro j τ e
  rw [fl_at] at e
  by_cases z : j = goal
  · rw [if_pos z] at e
    cases e
    cases y : T goal with
    | none => exact ok
    | some ρ => exact sg_j_ok (okT goal ρ y) ok
  · rw [if_neg z] at e
    exact okT j τ e
def mnr (x1 rel : Int32) (l : pv_T) (K : Int64) : pn_R := if x1 = 0 then (1, l) else pn_nar rel l K
def mls (goal d : Nat) (σ : sg_S) (R : pn_R) : List (Nat × sg_S) := if R.1 = 0 then [] else [(goal, sg_set σ d R.2)]
theorem mo_way {x1 rel : Int32} (b : jv_B h) (hn : n ≤ 1024) (hk : k < n) (d75 : d < 75) (t : mT h n T) (m : mS h k σ) (ok : sg_ok σ) (okT : ∀ j τ, T j = some τ → sg_ok τ) (hx : ¬ x1 = 0 → lf_k rel ∧ (σ.1 d).1 = 1) (gk : ∀ p ∈ mls goal d σ (mnr x1 rel (σ.1 d) K), p.1 < n) (ng : goal ≠ k) : ∃ h1, r_Mo_copy h 25 (nI k) 1025 = some h1 ∧ jv_B h1 ∧ h1.2.2.1 26 k = h.2.2.1 26 k ∧ (x1 = 0 → ∃ h3, r_Mo_comes h1 25 1025 (nI goal) = some h3 ∧ mo_f h h3 ∧ mT h3 n (fls T (mls goal d σ (mnr x1 rel (σ.1 d) K))) ∧ mS h3 k σ) ∧ (¬ x1 = 0 → ∃ f h2, r_Mo_left h1 25 1025 (nI d) rel K = some (f, h2) ∧ jv_B h2 ∧ (f = 0 → mo_f h h2 ∧ mT h2 n (fls T (mls goal d σ (mnr x1 rel (σ.1 d) K))) ∧ mS h2 k σ) ∧ (¬ f = 0 → ∃ h3, r_Mo_comes h2 25 1025 (nI goal) = some h3 ∧ mo_f h h3 ∧ mT h3 n (fls T (mls goal d σ (mnr x1 rel (σ.1 d) K))) ∧ mS h3 k σ)) := by
  obtain ⟨h1, u1, u2, u3⟩ := mo_copy (s := 1025) b (show k < 1026 by omega) (by decide) (by omega) m ok
  have b1 := mF_B b u2
  have m1 : mS h1 k σ := mF_S u2 (by omega) m
  have t1 : mT h1 n T := mT_F hn (by decide) u2 t
  refine ⟨h1, u1, b1, u2.2.2.2 26 k (by omega), fun x0 => ?_, fun x0 => ?_⟩
  · have e : mls goal d σ (mnr x1 rel (σ.1 d) K) = [(goal, σ)] := by
      unfold mls mnr
      rw [if_pos x0, if_neg (show ¬ (1 : Int32) = 0 from i10), sg_set_s]
    rw [e] at gk ⊢
    have gn : goal < n := gk _ (List.mem_singleton.mpr rfl)
    obtain ⟨h3, v1, v2, v3, v4⟩ := mo_comes (r := 1025) b1 hn t1 gn (by decide) (by omega) u3 ok (okT goal)
    exact ⟨h3, v1, mo_ft (mo_fF u2) v2, v3, v4 k σ (fun q => ng q.symm) m1⟩
  · obtain ⟨hrel, l1⟩ := hx x0
    have ev : mv h1 1025 d = σ.1 d := u3.1 d d75
    obtain ⟨h2, w1, w2, w3⟩ := mo_left (K := K) (rel := rel) (r := 1025) (c := d) b1 (by decide) d75 (by rw [ev]; exact l1) (by rw [ev]; exact ok d d75) hrel
    rw [ev] at w1 w3
    have b2 := mF_B b1 w2
    have m2 : mS h2 k σ := mF_S w2 (by omega) m1
    have t2 : mT h2 n T := mT_F hn (by decide) w2 t1
    have e : mnr x1 rel (σ.1 d) K = pn_nar rel (σ.1 d) K := if_neg x0
    refine ⟨_, h2, w1, b2, fun f0 => ?_, fun f0 => ?_⟩
    · have e2 : mls goal d σ (mnr x1 rel (σ.1 d) K) = [] := by
        unfold mls
        rw [e, if_pos f0]
      rw [e2]
      exact ⟨mo_ft (mo_fF u2) (mo_fF w2), t2, m2⟩
    · have e2 : mls goal d σ (mnr x1 rel (σ.1 d) K) = [(goal, sg_set σ d (pn_nar rel (σ.1 d) K).2)] := by
        unfold mls
        rw [e, if_neg f0]
      rw [e2] at gk ⊢
      have gn : goal < n := gk _ (List.mem_singleton.mpr rfl)
      have ms : mS h2 1025 (sg_set σ d (pn_nar rel (σ.1 d) K).2) := by
        rw [w3 f0]
        exact mS_g u3 d75
      have okn : sg_ok (sg_set σ d (pn_nar rel (σ.1 d) K).2) := sg_set_ok ok (pn_nar_ok (ok d d75) l1 f0)
      obtain ⟨h3, v1, v2, v3, v4⟩ := mo_comes (r := 1025) b2 hn t2 gn (by decide) (by omega) ms okn (okT goal)
      exact ⟨h3, v1, mo_ft (mo_ft (mo_fF u2) (mo_fF w2)) v2, v3, v4 k σ (fun q => ng q.symm) m2⟩
theorem mo_t163 {x1 rel : Int32} (b : jv_B h) (hn : n ≤ 1024) (hk : k < n) (hd : jw_d (h.2.2.1 26 k) = nI d) (d75 : d < 75) (t : mT h n T) (m : mS h k σ) (ok : sg_ok σ) (okT : ∀ j τ, T j = some τ → sg_ok τ) (hx : ¬ x1 = 0 → lf_k rel ∧ (σ.1 d).1 = 1) (gk : ∀ p ∈ mls goal d σ (mnr x1 rel (σ.1 d) K), p.1 < n) (ng : goal ≠ k) : ∃ h', r_Mo_tested_163 h 25 (nI k) rel (nI goal) K x1 = r_Mo_tested_205 h' 25 (nI k) rel K x1 ∧ mo_f h h' ∧ mT h' n (fls T (mls goal d σ (mnr x1 rel (σ.1 d) K))) ∧ mS h' k σ := by
  obtain ⟨h1, u1, b1, wd, p0, p1⟩ := mo_way (K := K) (rel := rel) b hn hk d75 t m ok okT hx gk ng
  rw [r_Mo_tested_163, jlE, jk_25 b, u1, jcV]
  by_cases x0 : x1 = 0
  · obtain ⟨h3, v1, v2, v3, v4⟩ := p0 x0
    refine ⟨h3, ?_, v2, v3, v4⟩
    rw [if_pos x0, r_Mo_tested_196, jk_25 b1, v1, jcV]
  · obtain ⟨f, h2, w1, b2, q0, q1⟩ := p1 x0
    rw [if_neg x0, jk_25 b1, mo_d b1 (by omega), jcI, wd, hd, jk_25 b1, w1, jcI]
    by_cases f0 : f = 0
    · rw [if_pos f0]
      exact ⟨h2, rfl, q0 f0⟩
    · obtain ⟨h3, v1, v2, v3, v4⟩ := q1 f0
      rw [if_neg f0, r_Mo_tested_196, jk_25 b2, v1, jcV]
      exact ⟨h3, rfl, v2, v3, v4⟩
theorem mo_opp {x : Int32} (hx : lf_k (g 6)) : r_Mo_opposite h (g 6) = some (pw_opp g, h) ∧ lf_k (pw_opp g) := by
  unfold lf_k at hx
  rcases hx with q | q | q | q | q | q | q | q | q | q
  all_goals
    constructor
    · rw [r_Mo_opposite]
      unfold pw_opp
      rw [q]
      simp (decide := true) only [jsw, r_Mo_opposite_91, reduceIte]
    · unfold pw_opp lf_k
      rw [q]
      decide
theorem mo_t205 {x1 : Int32} (b : jv_B h) (hn : n ≤ 1024) (hk : k < n) (hd : jw_d (h.2.2.1 26 k) = nI d) (d75 : d < 75) (t : mT h n T) (m : mS h k σ) (ok : sg_ok σ) (okT : ∀ j τ, T j = some τ → sg_ok τ) (hx : ¬ x1 = 0 → lf_k (g 6) ∧ (σ.1 d).1 = 1) (gk : ∀ p ∈ mls (k + 1) d σ (mnr x1 (pw_opp g) (σ.1 d) K), p.1 < n) : ∃ h', r_Mo_tested_205 h 25 (nI k) (g 6) K x1 = some (0, h') ∧ mo_f h h' ∧ mT h' n (fls T (mls (k + 1) d σ (mnr x1 (pw_opp g) (σ.1 d) K))) := by
  obtain ⟨h1, u1, b1, wd, p0, p1⟩ := mo_way (K := K) (rel := pw_opp g) b hn hk d75 t m ok okT (fun q => ⟨(mo_opp (h := h) (x := 0) (hx q).1).2, (hx q).2⟩) gk (by omega)
  rw [r_Mo_tested_205, jk_25 b, u1, jcV]
  by_cases x0 : x1 = 0
  · obtain ⟨h3, v1, v2, v3, v4⟩ := p0 x0
    refine ⟨h3, ?_, v2, v3⟩
    rw [if_pos x0, r_Mo_tested_239, jk_25 b1, lq_ad1, v1, jcV, r_Mo_tested_249]
  · obtain ⟨f, h2, w1, b2, q0, q1⟩ := p1 x0
    rw [if_neg x0, jk_25 b1, mo_d b1 (by omega), jcI, wd, hd, (mo_opp (h := h1) (x := 0) (hx x0).1).1, jcI, jk_25 b1, w1, jcI]
    by_cases f0 : f = 0
    · rw [if_pos f0, r_Mo_tested_249]
      exact ⟨h2, rfl, (q0 f0).1, (q0 f0).2.1⟩
    · obtain ⟨h3, v1, v2, v3, v4⟩ := q1 f0
      rw [if_neg f0, r_Mo_tested_239, jk_25 b2, lq_ad1, v1, jcV, r_Mo_tested_249]
      exact ⟨h3, rfl, v2, v3⟩
def mres (h : ja_H) (n : Nat) (T : Nat → Option sg_S) (x : Option (Int32 × ja_H)) (q : sg_F) : Prop := ∃ h', x = some (q.1, h') ∧ mo_f h h' ∧ (q.1 = 0 → mT h' n (fls T q.2))
theorem mt_135 {y1 y2 y3 y4 : Int32} {y6 z0 : Int64} : r_Mo_tested_135 h 25 y1 y2 y3 y4 y6 z0 = r_Mo_tested_163 h 25 y1 y3 y4 y6 (if y2 &&& 7 = 5 then (if y3 = 4 then 0 else if y6 = z0 then 1 else 0) else 0) := by
  rw [r_Mo_tested_135, jlE, r_Mo_tested_162]
  by_cases c1 : y2 &&& 7 = 5
  · rw [if_pos c1, if_pos c1]
    by_cases c2 : y3 = 4
    · rw [if_pos c2, if_pos c2]
    · rw [if_neg c2, if_neg c2]
      by_cases c3 : y6 = z0
      · rw [if_pos c3, if_pos c3]
      · rw [if_neg c3, if_neg c3]
  · rw [if_neg c1, if_neg c1]
theorem mo_tested (b : jv_B h) (hn : n ≤ 1024) (hk : k < n) (hg : jw_f (h.2.2.1 26 k) = g) (w : gw g) (t : mT h n T) (m : mS h k σ) (ok : sg_ok σ) (okT : ∀ j τ, T j = some τ → sg_ok τ) (s2 : g 5 = 2) (kd : g 6 = 1 ∨ g 6 = 2 ∨ g 6 = 3 ∨ g 6 = 4 ∨ g 6 = 5 ∨ g 6 = 6 ∨ g 6 = 7 ∨ g 6 = 10 ∨ g 6 = 11 ∨ g 6 = 12 ∨ g 6 = 13) (go0 : mp_go (g 0) = 0) (us : pw_usesS g = if g 0 &&& 8 = 0 then 0 else 1) (n1 : ¬ (¬ pw_usesOldD g = 0 ∧ (sg_l g σ).1 = 0)) (goals : ∀ p ∈ (sg_cnd g k σ).2, p.1 < n) : mres h n T (r_Mo_tested h 25 (nI k)) (sg_cnd g k σ) := by
  obtain ⟨g0, g1, g2, g3, g4, g6⟩ := gq hg
  have k1 : k < 1024 := by omega
  have k26 : k < 1026 := by omega
  obtain ⟨d, hd, d11⟩ := w.1
  obtain ⟨e, he, e11⟩ := w.2.1
  have d75 : d < 75 := by omega
  have e75 : e < 75 := by omega
  have dd : (g 1).toNatClampNeg = d := by rw [hd, jn_clamp (by omega)]
  have ee : (g 2).toNatClampNeg = e := by rw [he, jn_clamp (by omega)]
  have hd' : jw_d (h.2.2.1 26 k) = nI d := by rw [g1, hd]
  have el : sg_l g σ = σ.1 d := by
    unfold sg_l
    rw [dd]
  have em := m.1 d d75
  have o0 := w.2.2.2.2.2 (Or.inl s2)
  have o1 : (0 : Int32) ≤ g 3 := Int32.le_iff_toInt_le.mpr o0
  have gl : nI k + 1 + g 3 = nI (k + 1 + (g 3).toNatClampNeg) := by
    obtain ⟨q1, _⟩ := jn_of o1
    rw [lq_ad1]
    conv => lhs; rw [q1]
    rw [jn_add]
  rw [r_Mo_tested, jk_25 b, mo_op b k1, jcI, jlE, jlE, jk_25 b, mo_off b k1, jcI, jlE, mo_go, jcI, g0, g3, ← g6, gl, go0, if_pos rfl]
  have st : (if g 0 &&& 8 = 0 then r_Mo_tested_49 h 25 (nI k) (g 0) (g 6) (nI (k + 1 + (g 3).toNatClampNeg)) 0 else r_Mo_tested_49 h 25 (nI k) (g 0) (g 6) (nI (k + 1 + (g 3).toNatClampNeg)) 1) = if pn_ptr (sg_l g σ) = 0 then (if pn_ptr (sg_r g σ) = 0 then r_Mo_tested_135 h 25 (nI k) (g 0) (g 6) (nI (k + 1 + (g 3).toNatClampNeg)) (sg_r g σ).2.1 (sg_r g σ).2.2 else some (8, h)) else some (8, h) := by
    have pd : r_Mo_pointer h 25 (nI k) (nI d) = some (pn_ptr (sg_l g σ), h) := by
      rw [el, ← em]
      exact mo_ptr b k26 d75 (by rw [em]; exact pv_c (ok d d75))
    by_cases q8 : g 0 &&& 8 = 0
    · have u0 : pw_usesS g = 0 := by rw [us, if_pos q8]
      have rr : sg_r g σ = (1, (g 4).toInt64, (g 4).toInt64) := if_pos u0
      have pr : pn_ptr (sg_r g σ) = 0 := by
        rw [rr]
        unfold pn_ptr
        rw [if_neg (show ¬ (1 : Int32) = 2 by decide), if_neg (show ¬ (1 : Int32) = 3 by decide)]
      rw [if_pos q8, r_Mo_tested_49, jlE, jk_25 b, mo_d b k1, jcI, hd', jk_25 b, pd, jcI, if_pos rfl, r_Mo_tested_85, if_pos rfl, jk_25 b, mo_imm b k1, jcI, r_Mo_tested_109, jlE, if_pos rfl, jk_25 b, mo_imm b k1, jcI, g4, r_Mo_tested_82, if_pos pr, rr]
    · have u1 : ¬ pw_usesS g = 0 := by
        rw [us, if_neg q8]
        exact i10
      have rr : sg_r g σ = mv h k e := by
        unfold sg_r
        rw [if_neg u1, ee]
        exact (m.1 e e75).symm
      have he' : jw_s (h.2.2.1 26 k) = nI e := by rw [g2, he]
      have pe : r_Mo_pointer h 25 (nI k) (nI e) = some (pn_ptr (sg_r g σ), h) := by
        rw [rr]
        exact mo_ptr b k26 e75 (by rw [m.1 e e75]; exact pv_c (ok e e75))
      rw [if_neg q8, r_Mo_tested_49, jlE, jk_25 b, mo_d b k1, jcI, hd', jk_25 b, pd, jcI, if_neg i10, jk_25 b, mo_s b k1, jcI, he', jk_25 b, pe, jcI, r_Mo_tested_85, if_neg i10, jk_25 b, mo_s b k1, jcI, he', jk_25 b, mo_least b k26 e75, jcL, r_Mo_tested_109, jlE, if_neg i10, jk_25 b, mo_s b k1, jcI, he', jk_25 b, mo_most b k26 e75, jcL, r_Mo_tested_82, ← rr]
  rw [st]
  unfold sg_cnd at goals ⊢
  by_cases p1 : pn_ptr (sg_l g σ) = 0
  · by_cases p2 : pn_ptr (sg_r g σ) = 0
    · rw [if_pos p1, if_pos p2] at goals
      rw [if_pos p1, if_pos p2, if_pos p1, if_pos p2, mt_135]
      have l0 : (sg_l g σ).1 ≠ 0 := fun q => n1 ⟨by rw [pw_u2 s2]; exact i10, q⟩
      have l1 : (σ.1 d).1 = 1 := by
        rw [← el]
        exact pp_n (sg_l_ok w ok) l0 p1
      have nw : ∀ rel : Int32, (rel = 4 ↔ g 6 = 4) → pj_nw g (sg_l g σ) (sg_r g σ) rel = mnr (if g 0 &&& 7 = 5 then (if g 6 = 4 then 0 else if (sg_r g σ).2.1 = (sg_r g σ).2.2 then 1 else 0) else 0) rel (σ.1 d) (sg_r g σ).2.1 := fun rel q => by
        unfold pj_nw mnr pn_one
        rw [← el]
        by_cases c1 : g 0 &&& 7 = 5
        · rw [if_pos c1, if_pos c1]
          by_cases c2 : g 6 = 4
          · rw [if_pos (q.mpr c2), if_pos c2, if_pos rfl]
          · rw [if_neg (fun z => c2 (q.mp z)), if_neg c2]
        · rw [if_neg c1, if_neg c1, if_pos rfl]
      have opp4 : pw_opp g = 4 ↔ g 6 = 4 := by
        unfold pw_opp
        rcases kd with z | z | z | z | z | z | z | z | z | z | z <;> rw [z] <;> decide
      have nars : ∀ (j : Nat) (rel : Int32), (rel = 4 ↔ g 6 = 4) → sg_nar g j σ rel = mls j d σ (mnr (if g 0 &&& 7 = 5 then (if g 6 = 4 then 0 else if (sg_r g σ).2.1 = (sg_r g σ).2.2 then 1 else 0) else 0) rel (σ.1 d) (sg_r g σ).2.1) := fun j rel q => by
        unfold sg_nar mls
        rw [nw rel q, dd]
      rw [nars _ _ Iff.rfl, nars _ _ opp4] at goals
      rw [nars _ _ Iff.rfl, nars _ _ opp4]
      have hx : ¬ (if g 0 &&& 7 = 5 then (if g 6 = 4 then (0 : Int32) else if (sg_r g σ).2.1 = (sg_r g σ).2.2 then 1 else 0) else 0) = 0 → lf_k (g 6) ∧ (σ.1 d).1 = 1 := fun q => by
        refine ⟨?_, l1⟩
        have n4 : ¬ g 6 = 4 := fun z => q (by rw [if_pos z, ite_self])
        unfold lf_k
        rcases kd with z | z | z | z | z | z | z | z | z | z | z
        · exact Or.inl z
        · exact Or.inr (Or.inl z)
        · exact Or.inr (Or.inr (Or.inl z))
        · exact absurd z n4
        · exact Or.inr (Or.inr (Or.inr (Or.inl z)))
        · exact Or.inr (Or.inr (Or.inr (Or.inr (Or.inl z))))
        · exact Or.inr (Or.inr (Or.inr (Or.inr (Or.inr (Or.inl z)))))
        · exact Or.inr (Or.inr (Or.inr (Or.inr (Or.inr (Or.inr (Or.inl z))))))
        · exact Or.inr (Or.inr (Or.inr (Or.inr (Or.inr (Or.inr (Or.inr (Or.inl z)))))))
        · exact Or.inr (Or.inr (Or.inr (Or.inr (Or.inr (Or.inr (Or.inr (Or.inr (Or.inl z))))))))
        · exact Or.inr (Or.inr (Or.inr (Or.inr (Or.inr (Or.inr (Or.inr (Or.inr (Or.inr z))))))))
      generalize (if g 0 &&& 7 = 5 then (if g 6 = 4 then (0 : Int32) else if (sg_r g σ).2.1 = (sg_r g σ).2.2 then 1 else 0) else 0) = x1 at *
      obtain ⟨h1, u1, u2, u3, u4⟩ := mo_t163 (K := (sg_r g σ).2.1) (rel := g 6) (goal := k + 1 + (g 3).toNatClampNeg) (x1 := x1) b hn hk hd' d75 t m ok okT hx (fun p hp => goals p (List.mem_append_left _ hp)) (by omega)
      have b1 := mo_fB b u2
      have w1 : h1.2.2.1 26 k = h.2.2.1 26 k := u2.2.2.2 26 k (by omega) (by omega)
      have okT1 : ∀ j τ, fls T (mls (k + 1 + (g 3).toNatClampNeg) d σ (mnr x1 (g 6) (σ.1 d) (sg_r g σ).2.1)) j = some τ → sg_ok τ := by
        unfold mls
        by_cases z : (mnr x1 (g 6) (σ.1 d) (sg_r g σ).2.1).1 = 0
        · rw [if_pos z]
          exact okT
        · rw [if_neg z]
          refine okT_fl okT (sg_set_ok ok ?_)
          unfold mnr at z ⊢
          by_cases y : x1 = 0
          · rw [if_pos y]
            exact ok d d75
          · rw [if_neg y] at z ⊢
            exact pn_nar_ok (ok d d75) l1 z
      obtain ⟨h2, v1, v2, v3⟩ := mo_t205 (g := g) (K := (sg_r g σ).2.1) (x1 := x1) b1 hn hk (by rw [w1]; exact hd') d75 u3 u4 ok okT1 hx (fun p hp => goals p (List.mem_append_right _ hp))
      refine ⟨h2, u1.trans v1, mo_ft u2 v2, fun _ => ?_⟩
      show mT h2 n (fls T (_ ++ _))
      rw [fls_app]
      exact v3
    · rw [if_pos p1, if_neg p2, if_pos p1, if_neg p2]
      exact ⟨h, rfl, mo_f0, fun q => absurd q (show ¬ (8 : Int32) = 0 by decide)⟩
  · rw [if_neg p1, if_neg p1]
    exact ⟨h, rfl, mo_f0, fun q => absurd q (show ¬ (8 : Int32) = 0 by decide)⟩
end M4
