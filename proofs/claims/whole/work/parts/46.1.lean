section S3
variable {J : jS} {σ : sg_S} {g : Nat → Int32} {l r p b v : pv_T} {X Y : Int64} {d k : Nat} {q L R : Int32 × Int64} {z : Int64} {len : Int32}
def jrg (J : jS) (d : Nat) (q : Int32 × Int64) : jS := (pu_f J.1 d q, J.2)
theorem sJ_set (hJ : sJ J σ) (hd : d < 11) (hv : sv v q) : sJ (jrg J d q) (sg_set σ d v) := by
  have e : ∀ c, 11 ≤ c → (sg_set σ d v).1 c = σ.1 c := fun c hc => if_neg (by omega)
  refine ⟨fun c hc => ?_, fun e' he => ?_, fun j hj hb => ?_⟩
  · show sv (if c = d then v else σ.1 c) (if c = d then q else J.1 c)
    by_cases y : c = d
    · rw [if_pos y, if_pos y]
      exact hv
    · rw [if_neg y, if_neg y]
      exact hJ.1 c hc
  · rw [e _ (by omega)]
    exact hJ.2.1 e' he
  · rw [e _ (by omega)]
    exact hJ.2.2 j hj hb
def jl_v (g : Nat → Int32) (J : jS) : Int32 × Int64 := J.1 (g 1).toNatClampNeg
def jr_v (g : Nat → Int32) (J : jS) : Int32 × Int64 := if pw_usesS g = 0 then (1, (g 4).toInt64) else J.1 (g 2).toNatClampNeg
theorem sv_l (w : gw g) (hJ : sJ J σ) : sv (sg_l g σ) (jl_v g J) := hJ.1 _ (gw_d w).1
theorem sv_r (w : gw g) (hJ : sJ J σ) : sv (sg_r g σ) (jr_v g J) := by
  unfold sg_r jr_v
  by_cases y : pw_usesS g = 0
  · rw [if_pos y, if_pos y]
    exact Or.inr ⟨rfl, Int.le_refl _, Int.le_refl _⟩
  · rw [if_neg y, if_neg y]
    exact hJ.1 _ (gw_s w).1
def mxI (a b : Int32) : Int32 := if a < b then b else a
def jar (g : Nat → Int32) (L R : Int32 × Int64) : Int32 × Int64 := (if g 6 = 11 then R.1 else mxI L.1 R.1, ar_reck (g 0) L.2 R.2)
theorem ar_11 (g6 : g 6 = g 0 >>> (4 &&& 31)) (k11 : g 6 = 11) : ar_reck (g 0) X Y = ar_m (ar_32 (g 0)) Y := by
  have e : g 0 >>> (4 &&& 31) = 11 := by rw [← g6, k11]
  unfold ar_reck
  simp (decide := true) only [ar_tk, e, reduceIte]
  exact ar_mm
theorem ar_01 (g6 : g 6 = g 0 >>> (4 &&& 31)) (h7 : ¬ g 0 &&& 7 = 4) : (g 6 = 0 → ar_reck (g 0) X Y = X + Y) ∧ (g 6 = 1 → ar_reck (g 0) X Y = X - Y) := by
  have m0 : ar_32 (g 0) = 0 := if_neg h7
  refine ⟨fun e => ?_, fun e => ?_⟩
  · rw [g6] at e
    unfold ar_reck ar_m
    rw [m0]
    simp (decide := true) only [ar_tk, e, reduceIte]
  · rw [g6] at e
    unfold ar_reck ar_m
    rw [m0]
    simp (decide := true) only [ar_tk, e, reduceIte]
theorem mxI_1 {a b : Int32} (ha : a = 1) (hb : b = 1 ∨ b = 2 ∨ b = 3) : mxI a b = b ∧ mxI b a = b := by
  subst ha
  rcases hb with e | e | e <;> subst e <;> decide
theorem mp2_s (po : pv_ok p) (bo : pv_ok b) (pk : p.1 = 2 ∨ p.1 = 3) (hX : iv p X) (hY : iv b Y) (g01 : g 6 = 0 ∨ g 6 = 1) (c0 : (pj_mp2 g l p b).1 = 0) : (pj_mp2 g l p b).2.1 = p.1 ∧ iv (pj_mp2 g l p b).2 (if g 6 = 0 then X + Y else X - Y) := by
  have pl : -100000 ≤ p.2.1.toInt ∧ p.2.2.toInt ≤ 100000 := by
    rcases pk with e | e
    · have := pv_k2 po e
      omega
    · have := pv_k3 po e
      rw [← this.1]
      omega
  have e2 := k2e5
  unfold pj_mp2 at c0 ⊢
  by_cases q1 : pn_in b (-200000) 200000 = 0
  · rw [if_pos q1] at c0
    exact absurd c0 (show ¬ (7 : Int32) = 0 by decide)
  · rw [if_neg q1]
    have w := pn_in_1 q1
    rw [e2.1, e2.2.1] at w
    have x1 := hX.1
    have x2 := hX.2
    have y1 := hY.1
    have y2 := hY.2
    refine ⟨rfl, ?_, ?_⟩
    · show (if g 6 = 0 then p.2.1 + b.2.1 else p.2.1 - b.2.2).toInt ≤ _
      by_cases c : g 6 = 0
      · rw [if_pos c, if_pos c, ai_add (by omega) (by omega), ai_add (by omega) (by omega)]
        omega
      · rw [if_neg c, if_neg c, ai_sub (by omega) (by omega), ai_sub (by omega) (by omega)]
        omega
    · show _ ≤ (if g 6 = 0 then p.2.2 + b.2.2 else p.2.2 - b.2.1).toInt
      by_cases c : g 6 = 0
      · rw [if_pos c, if_pos c, ai_add (by omega) (by omega), ai_add (by omega) (by omega)]
        omega
      · rw [if_neg c, if_neg c, ai_sub (by omega) (by omega), ai_sub (by omega) (by omega)]
        omega
theorem mp1_s (po : pv_ok p) (bo : pv_ok b) (pk : p.1 = 2 ∨ p.1 = 3) (hX : iv p X) (hY : iv b Y) (g01 : g 6 = 0 ∨ g 6 = 1) (c0 : (pj_mp1 g l p b).1 = 0) : (pj_mp1 g l p b).2.1 = p.1 ∧ iv (pj_mp1 g l p b).2 (if g 6 = 0 then X + Y else X - Y) := by
  unfold pj_mp1 at c0 ⊢
  by_cases c1 : p.1 = 3
  · rw [if_pos c1] at c0 ⊢
    by_cases c2 : pn_one b = 0
    · rw [if_pos c2] at c0
      exact absurd c0 (show ¬ (7 : Int32) = 0 by decide)
    · rw [if_neg c2] at c0 ⊢
      exact mp2_s po bo pk hX hY g01 c0
  · rw [if_neg c1] at c0 ⊢
    exact mp2_s po bo pk hX hY g01 c0
theorem ar_s (ga : g 6 = 11 ∨ ga_ok g) (g6 : g 6 = g 0 >>> (4 &&& 31)) (g47 : g 0 &&& 7 = 4 ∨ g 0 &&& 7 = 7) (h13 : g 6 = 13 → r = (1, Int32.toInt64 (g 4), Int32.toInt64 (g 4))) (lo : pv_ok l) (ro : pv_ok r) (l0 : g 6 ≠ 11 → l.1 ≠ 0) (r0 : r.1 ≠ 0) (hl : sv l L) (hr : sv r R) (c0 : (pj_ar g l r).1 = 0) : sv (pj_ar g l r).2 (jar g L R) := by
  have hr' := hr.resolve_left r0
  unfold pj_ar at c0 ⊢
  unfold jar
  by_cases k11 : g 6 = 11
  · rw [if_pos k11] at c0 ⊢
    rw [if_pos k11, ar_11 g6 k11]
    have n13 : ¬ g 0 >>> (4 &&& 31) = 13 := by
      rw [← g6, k11]
      decide
    by_cases o : pw_isOf32 g = 0
    · rw [if_pos o]
      have m0 : ar_32 (g 0) = 0 := by
        unfold ar_32
        unfold pw_isOf32 at o
        by_cases y : g 0 &&& 7 = 4
        · rw [if_pos y, if_neg (by rw [k11]; decide)] at o
          exact absurd o i10
        · rw [if_neg y]
      rw [m0]
      exact Or.inr ⟨hr'.1, by unfold ar_m; rw [if_pos rfl]; exact hr'.2⟩
    · rw [if_neg o] at c0 ⊢
      by_cases pr : pn_ptr r = 0
      · rw [if_pos pr]
        have y4 : g 0 &&& 7 = 4 := Classical.byContradiction fun y => o (if_neg y)
        have m1 : ar_32 (g 0) = 1 := by
          unfold ar_32
          rw [if_pos y4, if_neg n13]
        have r1 := pp_n ro r0 pr
        have t := sd_t32 (b := 1) hr'.2
        rw [t32_1] at t
        rw [m1]
        refine Or.inr ⟨?_, t⟩
        rw [← hr'.1, r1]
        have e : r = (1, r.2.1, r.2.2) := by rw [← r1]
        rw [e, pn_low_v]
        split
        · rfl
        · split
          · rfl
          · split <;> rfl
      · rw [if_neg pr] at c0
        exact absurd c0 (show ¬ (7 : Int32) = 0 by decide)
  · have ga' : ga_ok g := ga.resolve_left k11
    have l0' := l0 k11
    have hl' := hl.resolve_left l0'
    rw [if_neg k11] at c0 ⊢
    rw [if_neg k11]
    have mp : (pn_ptr l ≠ 0 ∨ pn_ptr r ≠ 0) → (pj_mp g l r).1 = 0 → sv (pj_mp g l r).2 (mxI L.1 R.1, ar_reck (g 0) L.2 R.2) := fun pp c1 => by
      unfold pj_mp at c1 ⊢
      by_cases cc : pw_isOf32 g = 0 ∧ (g 6 = 0 ∨ g 6 = 1 ∧ ¬ pn_ptr l = 0) ∧ ¬ (¬ pn_ptr l = 0 ∧ ¬ pn_ptr r = 0)
      · rw [if_pos cc] at c1 ⊢
        obtain ⟨o0, gg, nb⟩ := cc
        have g01 : g 6 = 0 ∨ g 6 = 1 := gg.elim Or.inl (fun y => Or.inr y.1)
        have n4 : ¬ g 0 &&& 7 = 4 := fun y => by
          unfold pw_isOf32 at o0
          rw [if_pos y, if_neg (by rcases g01 with z | z <;> rw [z] <;> decide)] at o0
          exact i10 o0
        have ae := ar_01 (X := L.2) (Y := R.2) g6 n4
        by_cases pl : pn_ptr l = 0
        · rw [if_pos pl] at c1 ⊢
          have pr : pn_ptr r ≠ 0 := pp.resolve_left (fun y => y pl)
          have g0 : g 6 = 0 := gg.resolve_right (fun y => y.2 pl)
          have l1 := pp_n lo l0' pl
          obtain ⟨s1, s2⟩ := mp1_s ro lo (pp_1 pr) hr'.2 hl'.2 g01 c1
          rw [if_pos g0] at s2
          refine Or.inr ⟨?_, ?_⟩
          · show (pj_mp1 g l r l).2.1 = mxI L.1 R.1
            rw [s1, ← hl'.1, ← hr'.1, (mxI_1 l1 (Or.inr (pp_1 pr))).1]
          · show iv (pj_mp1 g l r l).2 (ar_reck (g 0) L.2 R.2)
            rw [ae.1 g0, Int64.add_comm]
            exact s2
        · rw [if_neg pl] at c1 ⊢
          have pr : pn_ptr r = 0 := Classical.byContradiction fun y => nb ⟨pl, y⟩
          have r1 := pp_n ro r0 pr
          obtain ⟨s1, s2⟩ := mp1_s lo ro (pp_1 pl) hl'.2 hr'.2 g01 c1
          refine Or.inr ⟨?_, ?_⟩
          · show (pj_mp1 g l l r).2.1 = mxI L.1 R.1
            rw [s1, ← hl'.1, ← hr'.1, (mxI_1 r1 (Or.inr (pp_1 pl))).2]
          · show iv (pj_mp1 g l l r).2 (ar_reck (g 0) L.2 R.2)
            by_cases g0 : g 6 = 0
            · rw [if_pos g0] at s2
              rw [ae.1 g0]
              exact s2
            · rw [if_neg g0] at s2
              rw [ae.2 (g01.resolve_left g0)]
              exact s2
      · rw [if_neg cc] at c1
        exact absurd c1 (show ¬ (7 : Int32) = 0 by decide)
    by_cases pl : pn_ptr l = 0
    · rw [if_pos pl] at c0 ⊢
      by_cases pr : pn_ptr r = 0
      · rw [if_pos pr]
        have l1 := pp_n lo l0' pl
        have r1 := pp_n ro r0 pr
        refine Or.inr ⟨?_, sd_reck ga' h13 hl'.2 hr'.2⟩
        show (pn_reck g l r).1 = mxI L.1 R.1
        rw [pn_reck_1, ← hl'.1, ← hr'.1, l1, r1]
        decide
      · rw [if_neg pr] at c0 ⊢
        exact mp (Or.inr pr) c0
    · rw [if_neg pl] at c0 ⊢
      exact mp (Or.inl pl) c0
theorem nar_k1 {rel : Int32} {K : Int64} (v1 : v.1 = 1) : (pn_nar rel v K).2.1 = 1 := by
  simp only [pn_nar, pn_eq, pn_ab, pn_bl, pn_ns, pn_leave, pn_c, pa_lo, pa_hi, apply_ite Prod.snd, apply_ite Prod.fst, v1, ite_self]
theorem cnd_s (w : gw g) (ok : sg_ok σ) (hJ : sJ J σ) (kd : g 6 = 1 ∨ g 6 = 2 ∨ g 6 = 3 ∨ g 6 = 4 ∨ g 6 = 5 ∨ g 6 = 6 ∨ g 6 = 7 ∨ g 6 = 10 ∨ g 6 = 11 ∨ g 6 = 12 ∨ g 6 = 13) (l0 : (sg_l g σ).1 ≠ 0) (r0 : (sg_r g σ).1 ≠ 0) (c0 : (sg_cnd g k σ).1 = 0) : ∃ p ∈ (sg_cnd g k σ).2, p.1 = (if ah (g 6) (a32 (g 0) (jl_v g J).2) (a32 (g 0) (jr_v g J).2) = 0 then k + 1 else k + 1 + (g 3).toNatClampNeg) ∧ sJ J p.2 := by
  have hd := (gw_d w).1
  have hl := (sv_l w hJ).resolve_left l0
  have hr := (sv_r w hJ).resolve_left r0
  unfold sg_cnd at c0 ⊢
  by_cases p1 : pn_ptr (sg_l g σ) = 0
  · rw [if_pos p1] at c0 ⊢
    by_cases p2 : pn_ptr (sg_r g σ) = 0
    · rw [if_pos p2]
      have same : sJ J (sg_set σ (g 1).toNatClampNeg (sg_l g σ)) := by
        have e : sg_set σ (g 1).toNatClampNeg (sg_l g σ) = σ := sg_set_s
        rw [e]
        exact hJ
      have one : ∀ (j : Nat) (rel : Int32), ((g 0 &&& 7 = 5 ∧ ¬ rel = 4 ∧ ¬ pn_one (sg_r g σ) = 0) → rl rel (jl_v g J).2 (sg_r g σ).2.1) → ∃ p ∈ sg_nar g j σ rel, p.1 = j ∧ sJ J p.2 := fun j rel hr2 => by
        unfold sg_nar pj_nw
        by_cases c1 : g 0 &&& 7 = 5
        · rw [if_pos c1]
          by_cases c2 : rel = 4
          · rw [if_pos c2, if_neg (show ¬ (1 : Int32) = 0 from i10)]
            exact ⟨_, List.mem_singleton.mpr rfl, rfl, same⟩
          · rw [if_neg c2]
            by_cases c3 : pn_one (sg_r g σ) = 0
            · rw [if_pos c3, if_neg (show ¬ (1 : Int32) = 0 from i10)]
              exact ⟨_, List.mem_singleton.mpr rfl, rfl, same⟩
            · rw [if_neg c3]
              obtain ⟨s1, s2⟩ := nar_s hl.2 (hr2 ⟨c1, c2, c3⟩)
              rw [if_neg s1]
              refine ⟨_, List.mem_singleton.mpr rfl, rfl, ?_⟩
              have l1 := pp_n (sg_l_ok w ok) l0 p1
              have q : sJ (jrg J (g 1).toNatClampNeg (jl_v g J)) (sg_set σ (g 1).toNatClampNeg (pn_nar rel (sg_l g σ) (sg_r g σ).2.1).2) := sJ_set hJ hd (Or.inr ⟨?_, s2⟩)
              · have e : jrg J (g 1).toNatClampNeg (jl_v g J) = J := by
                  unfold jrg jl_v
                  have : pu_f J.1 (g 1).toNatClampNeg (J.1 (g 1).toNatClampNeg) = J.1 := by
                    funext c
                    unfold pu_f
                    split
                    · next y => rw [y]
                    · rfl
                  rw [this]
                rw [e] at q
                exact q
              · have ok2 := pn_nar_ok (sg_l_ok w ok) l1 s1
                rw [← hl.1, l1]
                exact nar_k1 l1
        · rw [if_neg c1, if_neg (show ¬ (1 : Int32) = 0 from i10)]
          exact ⟨_, List.mem_singleton.mpr rfl, rfl, same⟩
      have lfk : g 6 ≠ 4 → lf_k (g 6) := fun n4 => by
        unfold lf_k
        rcases kd with y | y | y | y | y | y | y | y | y | y | y
        · exact Or.inl y
        · exact Or.inr (Or.inl y)
        · exact Or.inr (Or.inr (Or.inl y))
        · exact absurd y n4
        · exact Or.inr (Or.inr (Or.inr (Or.inl y)))
        · exact Or.inr (Or.inr (Or.inr (Or.inr (Or.inl y))))
        · exact Or.inr (Or.inr (Or.inr (Or.inr (Or.inr (Or.inl y)))))
        · exact Or.inr (Or.inr (Or.inr (Or.inr (Or.inr (Or.inr (Or.inl y))))))
        · exact Or.inr (Or.inr (Or.inr (Or.inr (Or.inr (Or.inr (Or.inr (Or.inl y)))))))
        · exact Or.inr (Or.inr (Or.inr (Or.inr (Or.inr (Or.inr (Or.inr (Or.inr (Or.inl y))))))))
        · exact Or.inr (Or.inr (Or.inr (Or.inr (Or.inr (Or.inr (Or.inr (Or.inr (Or.inr y))))))))
      have a5 : g 0 &&& 7 = 5 → ∀ x, a32 (g 0) x = x := fun y x => if_neg (by rw [y]; decide)
      by_cases t : ah (g 6) (a32 (g 0) (jl_v g J).2) (a32 (g 0) (jr_v g J).2) = 0
      · rw [if_pos t]
        obtain ⟨p, h1, h2, h3⟩ := one (k + 1) (pw_opp g) (fun ⟨y1, y2, y3⟩ => by
          rw [a5 y1, a5 y1, ← iv_one hr.2 y3] at t
          have n4 : g 6 ≠ 4 := fun z => y2 (by unfold pw_opp; rw [z]; decide)
          exact (ah_rl (lfk n4)).2 t)
        exact ⟨p, List.mem_append_right _ h1, h2, h3⟩
      · rw [if_neg t]
        obtain ⟨p, h1, h2, h3⟩ := one (k + 1 + (g 3).toNatClampNeg) (g 6) (fun ⟨y1, y2, y3⟩ => by
          rw [a5 y1, a5 y1, ← iv_one hr.2 y3] at t
          exact (ah_rl (lfk y2)).1 t)
        exact ⟨p, List.mem_append_left _ h1, h2, h3⟩
    · rw [if_neg p2] at c0
      exact absurd c0 (show ¬ (8 : Int32) = 0 by decide)
  · rw [if_neg p1] at c0
    exact absurd c0 (show ¬ (8 : Int32) = 0 by decide)
end S3
