section C3
variable {h f : ja_H} {J : jS} {σ : sg_S} {g C : Nat → Int32} {L R q : Int32 × Int64} {a s d c k m : Nat} {v X Y z : Int64} {len : Int32}
theorem s7_1 {α : Type} {a1 a2 a3 a4 a5 a6 a7 z : Option α} : jsw 1 [1, 2, 3, 4, 5, 6, 7] [a1, a2, a3, a4, a5, a6, a7] z = a1 := by
  simp (decide := true) only [jsw, reduceIte]
theorem s7_2 {α : Type} {a1 a2 a3 a4 a5 a6 a7 z : Option α} : jsw 2 [1, 2, 3, 4, 5, 6, 7] [a1, a2, a3, a4, a5, a6, a7] z = a2 := by
  simp (decide := true) only [jsw, reduceIte]
theorem s7_3 {α : Type} {a1 a2 a3 a4 a5 a6 a7 z : Option α} : jsw 3 [1, 2, 3, 4, 5, 6, 7] [a1, a2, a3, a4, a5, a6, a7] z = a3 := by
  simp (decide := true) only [jsw, reduceIte]
theorem s7_4 {α : Type} {a1 a2 a3 a4 a5 a6 a7 z : Option α} : jsw 4 [1, 2, 3, 4, 5, 6, 7] [a1, a2, a3, a4, a5, a6, a7] z = a4 := by
  simp (decide := true) only [jsw, reduceIte]
theorem s7_5 {α : Type} {a1 a2 a3 a4 a5 a6 a7 z : Option α} : jsw 5 [1, 2, 3, 4, 5, 6, 7] [a1, a2, a3, a4, a5, a6, a7] z = a5 := by
  simp (decide := true) only [jsw, reduceIte]
theorem s7_6 {α : Type} {a1 a2 a3 a4 a5 a6 a7 z : Option α} : jsw 6 [1, 2, 3, 4, 5, 6, 7] [a1, a2, a3, a4, a5, a6, a7] z = a6 := by
  simp (decide := true) only [jsw, reduceIte]
theorem s7_7 {α : Type} {a1 a2 a3 a4 a5 a6 a7 z : Option α} : jsw 7 [1, 2, 3, 4, 5, 6, 7] [a1, a2, a3, a4, a5, a6, a7] z = a7 := by
  simp (decide := true) only [jsw, reduceIte]
def ms_ok (h : ja_H) (g C : Nat → Int32) (z : Int64) (k : Nat) (J : jS) (r : Option (Int32 × ja_H)) : Prop := ∃ f, r = some (nI (jst g z C k J).1, f) ∧ cR f (jst g z C k J).2 ∧ mc_f h f
theorem gl_n (w : gw g) (s : g 5 = 2 ∨ g 5 = 6) : g 3 = nI (g 3).toNatClampNeg := (jn_of (Int32.le_iff_toInt_le.mpr (w.2.2.2.2.2 s))).1
theorem ms_1 (b : jv_B h) (cr : cR h J) (hg : h.2.1 24 = g) (w : gw g) (V : vs g m J) (s1 : g 5 = 1) : ms_ok h g C z k J (r_Ma_step h 19 (nI k) z 3) := by
  have ej : jst g z C k J = (k + 1, jrg J (g 1).toNatClampNeg (jar g (jl_v g J) (jr_v g J))) := if_pos s1
  obtain ⟨V1, V2, V3, _⟩ := V
  obtain ⟨V4, V5⟩ := V3 s1
  obtain ⟨d11, he⟩ := gw_d w
  have G := ma_gR cr d11 V5
  unfold ms_ok
  rw [ej]
  refine ⟨_, ?_, G.1, G.2⟩
  have st : ∀ A, (g 6 ≠ 11 → A = jN (jl_v g J)) → r_Ma_step_88 h 19 (nI k) A (g 0) (g 1) 19 = some (nI (k + 1), ja_sI (ja_sL h 20 (g 1).toNatClampNeg (jN (jar g (jl_v g J) (jr_v g J)))) 21 (g 1).toNatClampNeg 1) := fun A hA => by
    have e := ma_give (v := jN (jar g (jl_v g J) (jr_v g J))) b d11
    rw [← he] at e
    rw [r_Ma_step_88, jk_19 b, ma_right b cr hg w V2, jcL, a_reck, jcL, V4 A hA, jk_19 b, e, jcV, lq_add1]
  rw [r_Ma_step, jR_19_4 b, jI_24 b, hg, s1, s7_1, jR_19_4 b, jI_24 b, jR_19_4 b, jI_24 b, jR_19_4 b, jk_24 b, w_usesOldD (jS_24 b), jcI, hg]
  by_cases u : pw_usesOldD g = 0
  · rw [if_pos u]
    exact st 0 (fun n => absurd u (by rw [pw_u1 s1 n]; exact i10))
  · have e := ma_use b cr d11 (V1 u)
    rw [← he] at e
    rw [if_neg u, jR_19_4 b, jI_24 b, hg, jk_19 b, e, jcL]
    exact st _ (fun _ => rfl)
theorem ms_2 (b : jv_B h) (cr : cR h J) (hg : h.2.1 24 = g) (w : gw g) (g6 : g 6 = g 0 >>> (4 &&& 31)) (V : vs g m J) (s2 : g 5 = 2) : ms_ok h g C z k J (r_Ma_step h 19 (nI k) z 3) := by
  have ej : jst g z C k J = ((if ah (g 6) (a32 (g 0) (jl_v g J).2) (a32 (g 0) (jr_v g J).2) = 0 then k + 1 else k + 1 + (g 3).toNatClampNeg), J) := by
    unfold jst
    rw [if_neg (by rw [s2]; decide), if_pos s2]
  obtain ⟨V1, V2, V3, V4, _⟩ := V
  obtain ⟨V5, V6⟩ := V4 s2
  obtain ⟨d11, he⟩ := gw_d w
  have gl := gl_n w (Or.inl s2)
  have e := ma_use b cr d11 (show (J.1 (g 1).toNatClampNeg).1 ≠ 0 by rw [show (J.1 (g 1).toNatClampNeg).1 = 1 from V5]; exact i10)
  rw [← he] at e
  have eL : jN (J.1 (g 1).toNatClampNeg) = (jl_v g J).2 := jN_1 V5
  unfold ms_ok
  rw [ej]
  refine ⟨h, ?_, cr, mc_0⟩
  rw [r_Ma_step, jR_19_4 b, jI_24 b, hg, s2, s7_2, jR_19_4 b, jI_24 b, jR_19_4 b, jI_24 b, hg, jk_19 b, e, jcL, jk_19 b, ma_right b cr hg w V2, jcL, a_holds, jcI, eL, jN_1 V6, ← g6]
  by_cases t : ah (g 6) (a32 (g 0) (jl_v g J).2) (a32 (g 0) (jr_v g J).2) = 0
  · rw [if_pos t, if_pos t, r_Ma_step_144, lq_add1]
  · rw [if_neg t, if_neg t, jR_19_4 b, jk_24 b, w_goalFrom (jS_24 b), jcI, r_Ma_step_144, hg, lq_add1]
    have q : nI (k + 1) + g 3 = nI (k + 1 + (g 3).toNatClampNeg) := by
      rw [← jn_add (k + 1), ← gl]
    rw [q]
theorem ms_3 (b : jv_B h) (cr : cR h J) (hg : h.2.1 24 = g) (w : gw g) (jo : jok J) (hm : m ≤ 256) (e3 : h.2.1 3 1 = nI m) (hC : ∀ i, C i = h.2.1 4 i &&& 255) (V : vs g m J) (s3 : g 5 = 3) : ms_ok h g C z k J (r_Ma_step h 19 (nI k) z 3) := by
  have ej : jst g z C k J = (k + 1, jrg J (g 1).toNatClampNeg (jrd g C J (jr_v g J))) := by
    unfold jst
    rw [if_neg (by rw [s3]; decide), if_neg (by rw [s3]; decide), if_pos s3]
  obtain ⟨V1, V2, V3, V4, V5, _⟩ := V
  obtain ⟨d11, he⟩ := gw_d w
  obtain ⟨r1, r2⟩ := ma_read b cr w jo hm e3 hC (V5 s3)
  have G := ma_gR cr d11 r2
  unfold ms_ok
  rw [ej]
  refine ⟨_, ?_, G.1, G.2⟩
  have e := ma_give (v := jN (jrd g C J (jr_v g J))) b d11
  rw [← he] at e
  rw [r_Ma_step, jR_19_4 b, jI_24 b, hg, s3, s7_3, jR_19_4 b, jI_24 b, jk_19 b, ma_right b cr hg w V2, jcL, jR_19_4 b, jI_24 b, jR_19_4 b, jk_24 b, w_size (jS_24 b), jcI, hg, jk_19 b, r1, jcL, jk_19 b, e, jcV, lq_add1]
theorem ms_45 (b : jv_B h) (cr : cR h J) (hg : h.2.1 24 = g) (w : gw g) (V : vs g m J) (s45 : g 5 = 4 ∨ g 5 = 5) : ms_ok h g C z k J (r_Ma_step h 19 (nI k) z 3) := by
  have ej : jst g z C k J = (k + 1, jso J (jat g (jl_v g J)) (pw_size g).toNatClampNeg (jr_v g J)) := by
    unfold jst
    rw [if_neg (by rcases s45 with q | q <;> rw [q] <;> decide), if_neg (by rcases s45 with q | q <;> rw [q] <;> decide), if_neg (by rcases s45 with q | q <;> rw [q] <;> decide), if_pos s45]
  have st : pw_stores g = 1 := by
    rcases s45 with q | q <;> simp (decide := true) only [pw_stores, q, reduceIte]
  have uo : pw_usesOldD g = 1 := by
    unfold pw_usesOldD
    rw [st, if_neg i10]
  obtain ⟨V1, V2, V3, V4, V5, V6, _⟩ := V
  have l0 := V1 (by rw [uo]; exact i10)
  obtain ⟨W1, W2, W3, W4⟩ := V6 s45
  obtain ⟨s, hs, hs2⟩ := pw_size_n g
  have sc : (pw_size g).toNatClampNeg = s := by rw [hs, jn_clamp (by omega)]
  rw [sc] at W3
  obtain ⟨d11, he⟩ := gw_d w
  have ad := ad_st W1 w.2.2.1 W2 (by omega)
  obtain ⟨f, f1, f2⟩ := mw_all (v := jN (jr_v g J)) b (show s ≤ 8 by omega) W3 ad
  have K : (jr_v g J).1 = 1 ∨ (s = 8 ∧ jat g (jl_v g J) % 8 = 0 ∧ ((jr_v g J).1 = 2 ∨ (jr_v g J).1 = 3)) := by
    rcases W4 with y | ⟨_, y2, y3, y4⟩
    · exact Or.inl y
    · exact Or.inr ⟨(jn_inj (a := s) (b := 8) (by omega) (by decide)).mp (hs.symm.trans y2), y3, y4⟩
  have G := ma_wR cr (by omega) f2 K
  unfold ms_ok
  rw [ej, sc]
  refine ⟨f, ?_, G.1, G.2⟩
  have e := ma_use b cr d11 l0
  rw [← he] at e
  have st : r_Ma_step_186 h 19 (nI k) = some (nI (k + 1), f) := by
    rw [r_Ma_step_186, jR_19_4 b, jI_24 b, hg, jk_19 b, e, jcL, jR_19_4 b, jI_24 b, jR_19_4 b, jk_24 b, w_size (jS_24 b), jcI, hg, jk_19 b, ma_right b cr hg w V2, jcL, jk_19 b, hs]
    rw [show r_Ma_write h 19 (jN (J.1 (g 1).toNatClampNeg) + (g 3).toInt64) (nI s) (jN (jr_v g J)) = some f from f1, jcV, lq_add1]
  rcases s45 with q | q
  · rw [r_Ma_step, jR_19_4 b, jI_24 b, hg, q, s7_4]
    exact st
  · rw [r_Ma_step, jR_19_4 b, jI_24 b, hg, q, s7_5]
    exact st
theorem ms_6 (b : jv_B h) (cr : cR h J) (hg : h.2.1 24 = g) (w : gw g) (s6 : g 5 = 6) : ms_ok h g C z k J (r_Ma_step h 19 (nI k) z 3) := by
  have ej : jst g z C k J = (k + 1 + (g 3).toNatClampNeg, J) := by
    unfold jst
    rw [if_neg (by rw [s6]; decide), if_neg (by rw [s6]; decide), if_neg (by rw [s6]; decide), if_neg (by rw [s6]; decide), if_pos s6]
  have gl := gl_n w (Or.inr s6)
  unfold ms_ok
  rw [ej]
  refine ⟨h, ?_, cr, mc_0⟩
  have q : nI (k + 1) + g 3 = nI (k + 1 + (g 3).toNatClampNeg) := by
    rw [← jn_add (k + 1), ← gl]
  rw [r_Ma_step, jR_19_4 b, jI_24 b, hg, s6, s7_6, r_Ma_step_248, jR_19_4 b, jk_24 b, w_goalFrom (jS_24 b), jcI, hg, lq_add1, q]
theorem ms_7 (b : jv_B h) (cr : cR h J) (hg : h.2.1 24 = g) (w : gw g) (s7 : g 5 = 7) : ms_ok h g C z k J (r_Ma_step h 19 (nI k) z 3) := by
  have ej : jst g z C k J = (k + 2, jrg J (g 1).toNatClampNeg (1, pw_wide g z)) := by
    unfold jst
    rw [if_neg (by rw [s7]; decide), if_neg (by rw [s7]; decide), if_neg (by rw [s7]; decide), if_neg (by rw [s7]; decide), if_neg (by rw [s7]; decide)]
  obtain ⟨d11, he⟩ := gw_d w
  have G := ma_gR (q := (1, pw_wide g z)) cr d11 i10
  unfold ms_ok
  rw [ej]
  refine ⟨_, ?_, G.1, G.2⟩
  have e := ma_give (v := jN (1, pw_wide g z)) b d11
  rw [← he] at e
  have ew : r_Wo_wideNumber h 24 z = some (jN (1, pw_wide g z), h) := by
    rw [w_wide (jS_24 b), hg, jN_k1]
    rfl
  rw [r_Ma_step, jR_19_4 b, jI_24 b, hg, s7, s7_7, jR_19_4 b, jI_24 b, hg, jR_19_4 b, jk_24 b, ew, jcL, jk_19 b, e, jcV, lq_add2]
theorem ms_all (b : jv_B h) (cr : cR h J) (hg : h.2.1 24 = g) (w : gw g) (g6 : g 6 = g 0 >>> (4 &&& 31)) (jo : jok J) (hm : m ≤ 256) (e3 : h.2.1 3 1 = nI m) (hC : ∀ i, C i = h.2.1 4 i &&& 255) (V : vs g m J) (n8' : g 5 ≠ 8) : ms_ok h g C z k J (r_Ma_step h 19 (nI k) z 3) := by
  rcases w.2.2.2.2.1 with q | q | q | q | q | q | q | q
  · exact ms_1 b cr hg w V q
  · exact ms_2 b cr hg w g6 V q
  · exact ms_3 b cr hg w jo hm e3 hC V q
  · exact ms_45 b cr hg w V (Or.inl q)
  · exact ms_45 b cr hg w V (Or.inr q)
  · exact ms_6 b cr hg w q
  · exact ms_7 b cr hg w q
  · exact absurd q n8'
end C3
