section C0
variable {h f : ja_H} {J : jS} {σ : sg_S} {g : Nat → Int32} {l r : pv_T} {L R q : Int32 × Int64} {d c k : Nat} {v X Y Z : Int64} {K : ja_H → Option ja_H}
def jN (q : Int32 × Int64) : Int64 := if q.1 = 2 then q.2 + 1099511627776 else if q.1 = 3 then q.2 + 2199023256064 else q.2
theorem jN_1 (e : q.1 = 1) : jN q = q.2 := by
  unfold jN
  rw [e, if_neg (by decide), if_neg (by decide)]
theorem jN_p (e : q.1 = 2 ∨ q.1 = 3) : ∃ B : Int64, jN q = q.2 + B ∧ ∀ x, jN (q.1, x) = x + B := by
  rcases e with e | e
  · refine ⟨1099511627776, if_pos e, fun x => if_pos e⟩
  · have n2 : ¬ q.1 = 2 := by rw [e]; decide
    refine ⟨2199023256064, ?_, fun x => ?_⟩
    · unfold jN
      rw [if_neg n2, if_pos e]
    · unfold jN
      rw [if_neg n2, if_pos e]
theorem i64_a : X + Y + Z = X + Z + Y := by
  rw [Int64.add_assoc, Int64.add_comm Y Z, ← Int64.add_assoc]
theorem i64_s : X + Y - Z = X - Z + Y := by
  rw [Int64.sub_eq_add_neg, Int64.sub_eq_add_neg, i64_a]
theorem jar_N (ga : g 6 = 11 ∨ ga_ok g) (g6 : g 6 = g 0 >>> (4 &&& 31)) (lo : pv_ok l) (ro : pv_ok r) (l0 : g 6 ≠ 11 → l.1 ≠ 0) (r0 : r.1 ≠ 0) (hl : sv l L) (hr : sv r R) (c0 : (pj_ar g l r).1 = 0) (A : Int64) (hA : g 6 ≠ 11 → A = jN L) : ar_reck (g 0) A (jN R) = jN (jar g L R) ∧ (jar g L R).1 ≠ 0 := by
  have hr' := hr.resolve_left r0
  unfold pj_ar at c0
  by_cases k11 : g 6 = 11
  · rw [if_pos k11] at c0
    have e1 : (jar g L R).1 = R.1 := if_pos k11
    have e2 : (jar g L R).2 = ar_m (ar_32 (g 0)) R.2 := ar_11 g6 k11
    have nz : R.1 ≠ 0 := by rw [← hr'.1]; exact r0
    have n13 : ¬ g 0 >>> (4 &&& 31) = 13 := by
      rw [← g6, k11]
      decide
    rw [ar_11 g6 k11]
    refine ⟨?_, by rw [e1]; exact nz⟩
    have ej : jar g L R = (R.1, ar_m (ar_32 (g 0)) R.2) := by rw [← e1, ← e2]
    rw [ej]
    by_cases o : pw_isOf32 g = 0
    · have m0 : ar_32 (g 0) = 0 := by
        unfold ar_32
        unfold pw_isOf32 at o
        by_cases y : g 0 &&& 7 = 4
        · rw [if_pos y, if_neg (by rw [k11]; decide)] at o
          exact absurd o i10
        · rw [if_neg y]
      rw [m0]
      rfl
    · rw [if_neg o] at c0
      by_cases pr : pn_ptr r = 0
      · have R1 : R.1 = 1 := hr'.1.symm.trans (pp_n ro r0 pr)
        rw [jN_1 R1, jN_1 (q := (R.1, ar_m (ar_32 (g 0)) R.2)) R1]
      · rw [if_neg pr] at c0
        exact absurd c0 (show ¬ (7 : Int32) = 0 by decide)
  · have l0' := l0 k11
    have hl' := hl.resolve_left l0'
    have e1 : (jar g L R).1 = mxI L.1 R.1 := if_neg k11
    have ej : jar g L R = (mxI L.1 R.1, ar_reck (g 0) L.2 R.2) := by
      rw [← e1]
      rfl
    rw [hA k11]
    rw [if_neg k11] at c0
    have mp : (pn_ptr l ≠ 0 ∨ pn_ptr r ≠ 0) → (pj_mp g l r).1 = 0 → ar_reck (g 0) (jN L) (jN R) = jN (jar g L R) ∧ (jar g L R).1 ≠ 0 := fun pp c1 => by
      unfold pj_mp at c1
      by_cases cc : pw_isOf32 g = 0 ∧ (g 6 = 0 ∨ g 6 = 1 ∧ ¬ pn_ptr l = 0) ∧ ¬ (¬ pn_ptr l = 0 ∧ ¬ pn_ptr r = 0)
      · obtain ⟨o0, gg, nb⟩ := cc
        have g01 : g 6 = 0 ∨ g 6 = 1 := gg.elim Or.inl (fun y => Or.inr y.1)
        have n4 : ¬ g 0 &&& 7 = 4 := fun y => by
          unfold pw_isOf32 at o0
          rw [if_pos y, if_neg (by rcases g01 with z | z <;> rw [z] <;> decide)] at o0
          exact i10 o0
        have ae := fun X Y => ar_01 (X := X) (Y := Y) g6 n4
        by_cases pl : pn_ptr l = 0
        · have pr : pn_ptr r ≠ 0 := pp.resolve_left (fun y => y pl)
          have g0 : g 6 = 0 := gg.resolve_right (fun y => y.2 pl)
          have L1 : L.1 = 1 := hl'.1.symm.trans (pp_n lo l0' pl)
          have R2 : R.1 = 2 ∨ R.1 = 3 := by
            rw [← hr'.1]
            exact pp_1 pr
          obtain ⟨B, b1, b2⟩ := jN_p R2
          have mx := (mxI_1 L1 (Or.inr R2)).1
          refine ⟨?_, ?_⟩
          · rw [ej, mx, b2 (ar_reck (g 0) L.2 R.2), b1, jN_1 L1, (ae _ _).1 g0, (ae _ _).1 g0, Int64.add_assoc]
          · rw [e1, mx]
            rcases R2 with y | y <;> rw [y] <;> decide
        · have pr : pn_ptr r = 0 := Classical.byContradiction fun y => nb ⟨pl, y⟩
          have R1 : R.1 = 1 := hr'.1.symm.trans (pp_n ro r0 pr)
          have L2 : L.1 = 2 ∨ L.1 = 3 := by
            rw [← hl'.1]
            exact pp_1 pl
          obtain ⟨B, b1, b2⟩ := jN_p L2
          have mx := (mxI_1 R1 (Or.inr L2)).2
          refine ⟨?_, ?_⟩
          · rw [ej, mx, b2 (ar_reck (g 0) L.2 R.2), b1, jN_1 R1]
            by_cases g0 : g 6 = 0
            · rw [(ae _ _).1 g0, (ae _ _).1 g0, i64_a]
            · have g1 := g01.resolve_left g0
              rw [(ae _ _).2 g1, (ae _ _).2 g1, i64_s]
          · rw [e1, mx]
            rcases L2 with y | y <;> rw [y] <;> decide
      · rw [if_neg cc] at c1
        exact absurd c1 (show ¬ (7 : Int32) = 0 by decide)
    by_cases pl : pn_ptr l = 0
    · rw [if_pos pl] at c0
      by_cases pr : pn_ptr r = 0
      · have L1 : L.1 = 1 := hl'.1.symm.trans (pp_n lo l0' pl)
        have R1 : R.1 = 1 := hr'.1.symm.trans (pp_n ro r0 pr)
        have mx := (mxI_1 L1 (Or.inl R1)).1
        rw [ej, mx, jN_1 L1, jN_1 R1, jN_1 (q := (R.1, ar_reck (g 0) L.2 R.2)) R1]
        exact ⟨rfl, by rw [show ((R.1, ar_reck (g 0) L.2 R.2) : Int32 × Int64).1 = 1 from R1]; exact i10⟩
      · rw [if_neg pr] at c0
        exact mp (Or.inr pr) c0
    · rw [if_neg pl] at c0
      exact mp (Or.inl pl) c0
def cR (h : ja_H) (J : jS) : Prop := (∀ c, c < 11 → (J.1 c).1 ≠ 0 → h.2.1 21 c = 1 ∧ h.2.2.1 20 c = jN (J.1 c)) ∧ (∀ j, j < 512 → ((J.2.1 (j / 8)).1 = 0 → J.2.2.2 j = true → h.2.1 23 j = 1 ∧ h.2.1 22 j &&& 255 = J.2.2.1 j) ∧ ((J.2.1 (j / 8)).1 ≠ 0 → h.2.1 23 j = 1 ∧ h.2.1 22 j &&& 255 = jo_m (jN (J.2.1 (j / 8))) (j % 8))) ∧ h.2.1 19 7 = 0
def mc_f (h g : ja_H) : Prop := g.1 = h.1 ∧ g.2.2.2 = h.2.2.2 ∧ (∀ a b, a ≠ 21 → a ≠ 22 → a ≠ 23 → g.2.1 a b = h.2.1 a b) ∧ (∀ a b, a ≠ 20 → g.2.2.1 a b = h.2.2.1 a b)
theorem mc_0 : mc_f h h := ⟨rfl, rfl, fun _ _ _ _ _ => rfl, fun _ _ _ => rfl⟩
theorem mc_t {g : ja_H} (p : mc_f h g) (q : mc_f g f) : mc_f h f := ⟨q.1.trans p.1, q.2.1.trans p.2.1, fun a b x y z => (q.2.2.1 a b x y z).trans (p.2.2.1 a b x y z), fun a b x => (q.2.2.2 a b x).trans (p.2.2.2 a b x)⟩
theorem mc_B {g : ja_H} (b : jv_B h) (p : mc_f h g) : jv_B g := by
  refine ⟨fun i hi => ?_, fun q hq => ?_⟩
  · rw [p.1]
    exact b.1 i hi
  · rw [p.2.1]
    exact b.2 q hq
theorem ma_give (b : jv_B h) (hd : d < 11) : r_Ma_give h 19 (nI d) v = some (ja_sI (ja_sL h 20 d v) 21 d 1) := by
  have b1 : jv_B (ja_sL h 20 d v) := b
  rw [r_Ma_give, jR_19_0 b, jW_20 b (jn_jx (by omega) (by decide)), jn_clamp (by omega), jR_19_1 b1, jW_21 b1 (jn_jx (by omega) (by decide)), jn_clamp (by omega), bz1]
theorem ma_gR (cr : cR h J) (hd : d < 11) (q0 : q.1 ≠ 0) : cR (ja_sI (ja_sL h 20 d (jN q)) 21 d 1) (jrg J d q) ∧ mc_f h (ja_sI (ja_sL h 20 d (jN q)) 21 d 1) := by
  refine ⟨⟨fun c hc => ?_, fun j hj => ?_, ?_⟩, rfl, rfl, fun a b' n1 _ _ => ?_, fun a b' n0 => ?_⟩
  · show ((if c = d then q else J.1 c) : Int32 × Int64).1 ≠ 0 → (ja_sI (ja_sL h 20 d (jN q)) 21 d 1).2.1 21 c = 1 ∧ (ja_sI (ja_sL h 20 d (jN q)) 21 d 1).2.2.1 20 c = jN (if c = d then q else J.1 c)
    rw [ja_rI, ja_rIL, ja_rL]
    by_cases y : c = d
    · rw [if_pos y, if_pos (c := 21 = 21 ∧ c = d) ⟨rfl, y⟩, if_pos (c := 20 = 20 ∧ c = d) ⟨rfl, y⟩]
      exact fun _ => ⟨rfl, rfl⟩
    · rw [if_neg y, if_neg (c := 21 = 21 ∧ c = d) (fun z => y z.2), if_neg (c := 20 = 20 ∧ c = d) (fun z => y z.2)]
      exact cr.1 c hc
  · have e23 : (ja_sI (ja_sL h 20 d (jN q)) 21 d 1).2.1 23 j = h.2.1 23 j := by
      rw [ja_rI, if_neg (by omega)]
      rfl
    have e22 : (ja_sI (ja_sL h 20 d (jN q)) 21 d 1).2.1 22 j = h.2.1 22 j := by
      rw [ja_rI, if_neg (by omega)]
      rfl
    rw [e23, e22]
    exact cr.2.1 j hj
  · rw [ja_rI, if_neg (by omega)]
    exact cr.2.2
  · rw [ja_rI, if_neg (fun z => n1 z.1)]
    rfl
  · rw [ja_rIL, ja_rL, if_neg (fun z => n0 z.1)]
theorem ma_use (b : jv_B h) (cr : cR h J) (hc : c < 11) (n0 : (J.1 c).1 ≠ 0) : r_Ma_use h 19 (nI c) = some (jN (J.1 c), h) := by
  obtain ⟨e, e'⟩ := cr.1 c hc n0
  rw [r_Ma_use, jR_19_1 b, jE_21 b (jn_jx (by omega) (by decide)), jn_clamp (by omega), e, if_neg i10, r_Ma_use_14, jR_19_0 b, jE_20 b (jn_jx (by omega) (by decide)), jn_clamp (by omega), e']
theorem ma_right (b : jv_B h) (cr : cR h J) (hg : h.2.1 24 = g) (w : gw g) (n0 : (jr_v g J).1 ≠ 0) : r_Ma_useRight h 19 = some (jN (jr_v g J), h) := by
  obtain ⟨e, he, e11⟩ := w.2.1
  have ee : (g 2).toNatClampNeg = e := by rw [he, jn_clamp (by omega)]
  rw [r_Ma_useRight, jR_19_4 b, jk_24 b, w_usesS (jS_24 b), jcI, hg]
  unfold jr_v at n0 ⊢
  by_cases us : pw_usesS g = 0
  · rw [if_pos us, if_pos us, jR_19_4 b, jI_24 b, hg, r_Ma_useRight_32]
    rfl
  · rw [if_neg us] at n0
    rw [if_neg us, if_neg us, jR_19_4 b, jI_24 b, hg, he, jk_19 b, jn_clamp (by omega)]
    rw [ee] at n0
    rw [ma_use b cr e11 n0, jcL, r_Ma_useRight_32]
end C0
