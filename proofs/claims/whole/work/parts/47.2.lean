section D2
variable {h f : ja_H} {J K : jS} {g C q : Nat → Int32} {a s d c k m n u i o e : Nat} {v X Y z : Int64} {W : Nat → Int64} {Q R P L : Int32 × Int64} {x op y4 y11 : Int32} {F : ja_H → Nat → Int32 → Int32 → Option (Int64 × ja_H)}
theorem mR_c (e34 : f.2.1 34 = h.2.1 34) (e35 : f.2.1 35 = h.2.1 35) (e38 : f.2.1 38 = h.2.1 38) (e39 : f.2.1 39 = h.2.1 39) (eL : f.2.2.1 = h.2.2.1) (mr : mR h J) : mR f J := by
  unfold mR
  rw [e34, e35, e38, e39, eL]
  exact mr
theorem mt_us (hg : jw_f (h.2.2.1 26 k) = g) (w : gw g) : mp_usesS (g 0) = pw_usesS g ∧ mp_usesD (g 0) = pw_usesOldD g ∧ so (g 0) = g 5 ∧ ∃ i : Fin 256, g 0 = nI i.val := by
  have g0 := (gq hg).1
  have n0 : g 5 ≠ 0 := by
    rcases w.2.2.2.2.1 with q | q | q | q | q | q | q | q <;> rw [q] <;> decide
  have tw := (mt_w (h.2.2.1 26 k)).2 (by rw [hg]; exact n0)
  obtain ⟨sg, i, hi⟩ := so_g hg n0
  exact ⟨by rw [← g0, tw.2.1, hg], by rw [← g0, tw.2.2.1, hg], sg, i, hi⟩
theorem mr_head (b : jv_B h) (mr : mR h J) (hk : k < 1024) (hg : jw_f (h.2.2.1 26 k) = g) (w : gw g) (V : vs g m J) : q_Mo_run_125 F h 25 0 (nI k) = r_Mo_run_193 F (ja_sI h 25 14 (h.2.1 25 14 + 1)) 25 0 (nI k) (g 0) (g 1) (g 2) := by
  obtain ⟨g0, g1, g2, g3, g4, g6⟩ := gq hg
  obtain ⟨t2, t3, _, _⟩ := mt_us hg w
  obtain ⟨d11, hd⟩ := gw_d w
  obtain ⟨e11, he⟩ := gw_s w
  obtain ⟨V1, V2, _⟩ := V
  have b1 : jv_B (ja_sI h 25 14 (h.2.1 25 14 + 1)) := b
  have mr1 : mR (ja_sI h 25 14 (h.2.1 25 14 + 1)) J := mR_c (funext fun j => by rw [ja_rI, if_neg (by omega)]) (funext fun j => by rw [ja_rI, if_neg (by omega)]) (funext fun j => by rw [ja_rI, if_neg (by omega)]) (funext fun j => by rw [ja_rI, if_neg (by omega)]) rfl mr
  have hg1 : jw_f ((ja_sI h 25 14 (h.2.1 25 14 + 1)).2.2.1 26 k) = g := hg
  rw [q_Mo_run_125, jk_25 b, mo_op b hk, jcI, jlE, jk_25 b, mo_d b hk, jcI, jlE, jk_25 b, mo_s b hk, jcI, jlE, jI_25 b, jpI_25 b, jk_25 b1, mo_usesD b1 hk, jcI, g0, g1, g2]
  generalize ja_sI h 25 14 (h.2.1 25 14 + 1) = h1 at *
  obtain ⟨g0', g1', g2', g3', g4', g6'⟩ := gq hg1
  have e173 : r_Mo_run_173 F h1 25 0 (nI k) (g 0) (g 1) (g 2) = r_Mo_run_193 F h1 25 0 (nI k) (g 0) (g 1) (g 2) := by
    rw [r_Mo_run_173, jk_25 b1, mo_usesS b1 hk, jcI, g0', t2]
    by_cases us : pw_usesS g = 0
    · rw [if_pos us]
    · have er : jr_v g J = J.1 (g 2).toNatClampNeg := if_neg us
      rw [er] at V2
      have t : ∀ G : Int32 → Option (Int64 × ja_H), je_I h1 34 0 (g 2) G = G (J.1 (g 2).toNatClampNeg).1 := fun G => by
        rw [← (mr1.1 _ e11).1]
        conv => lhs; rw [he]
        rw [jE_34 b1 (jn_jx e11 (by decide)), jn_clamp (by omega)]
      rw [if_neg us, jR_25_17 b1, t, if_neg V2]
  rw [g0', t3]
  by_cases u : pw_usesOldD g = 0
  · rw [if_pos u]
    exact e173
  · have l0 : (J.1 (g 1).toNatClampNeg).1 ≠ 0 := V1 u
    have t : ∀ G : Int32 → Option (Int64 × ja_H), je_I h1 34 0 (g 1) G = G (J.1 (g 1).toNatClampNeg).1 := fun G => by
      rw [← (mr1.1 _ d11).1]
      conv => lhs; rw [hd]
      rw [jE_34 b1 (jn_jx d11 (by decide)), jn_clamp (by omega)]
    rw [if_neg u, jR_25_17 b1, t, if_neg l0]
    exact e173
theorem mr_193 (b : jv_B h) (mr : mR h J) (hk : k < 1024) (hg : jw_f (h.2.2.1 26 k) = g) (w : gw g) (V : vs g m J) (n9 : ¬ g 0 = 149) : r_Mo_run_193 F h 25 0 (nI k) (g 0) (g 1) (g 2) = r_Mo_run_227 F h 25 0 (nI k) (g 0) (g 1) (g 2) (jr_v g J).2 := by
  obtain ⟨g0, g1, g2, g3, g4, g6⟩ := gq hg
  obtain ⟨t2, t3, _, _⟩ := mt_us hg w
  obtain ⟨e11, he⟩ := gw_s w
  obtain ⟨V1, V2, _⟩ := V
  rw [r_Mo_run_193, if_neg n9, jk_25 b, mo_usesS b hk, jcI, g0, t2]
  unfold jr_v at V2 ⊢
  by_cases us : pw_usesS g = 0
  · rw [if_pos us, if_pos us, jk_25 b, mo_imm b hk, jcI, g4]
  · rw [if_neg us] at V2
    have t : ∀ G : Int64 → Option (Int64 × ja_H), je_L h 36 (g 2) G = G (J.1 (g 2).toNatClampNeg).2 := fun G => by
      rw [← (mr.1 _ e11).2 V2]
      conv => lhs; rw [he]
      rw [jE_36 b (jn_jx e11 (by decide)), jn_clamp (by omega)]
    rw [if_neg us, if_neg us, jR_25_19 b, t]
def mk_ok (h : ja_H) (g C : Nat → Int32) (z : Int64) (k : Nat) (J : jS) : Prop := ∃ f, (∀ F : ja_H → Nat → Int32 → Int32 → Option (Int64 × ja_H), r_Mo_run_227 F h 25 0 (nI k) (g 0) (g 1) (g 2) (jr_v g J).2 = F f 25 0 (nI (jst g z C k J).1)) ∧ mR f (jst g z C k J).2 ∧ md_f h f
theorem m441 : r_Mo_run_441 F h 25 0 (nI k) = F h 25 0 (nI (k + 1)) := by
  rw [r_Mo_run_441, jlE, r_Mo_run_444, lq_add1]
theorem mk_1 (b : jv_B h) (mr : mR h J) (hk : k < 1024) (hg : jw_f (h.2.2.1 26 k) = g) (w : gw g) (V : vs g m J) (s1 : g 5 = 1) : mk_ok h g C z k J := by
  obtain ⟨g0, g1, g2, g3, g4, g6⟩ := gq hg
  obtain ⟨t2, t3, sg, i, hi⟩ := mt_us hg w
  obtain ⟨d11, hd⟩ := gw_d w
  obtain ⟨e11, he⟩ := gw_s w
  obtain ⟨V1, V2, _⟩ := V
  have ej : jst g z C k J = (k + 1, jrg J (g 1).toNatClampNeg (jar g (jl_v g J) (jr_v g J))) := if_pos s1
  have T := mt_1 i (by rw [← hi, sg, s1])
  have G := mt_1k i (by rw [← hi, sg, s1])
  rw [← hi] at T G
  rw [← g6] at G
  have im : g 6 = 13 → g 4 = 16 ∨ g 4 = 32 ∨ g 4 = 64 := fun q => by
    have p0 := G.2.2 q
    rw [g6] at p0
    have e5 : jw_f (h.2.2.1 26 k) 5 = pw_s3 (jw_op (h.2.2.1 26 k)) (jw_imm (h.2.2.1 26 k)) (jw_op (h.2.2.1 26 k) >>> (4 &&& 31)) := jw_f5 _
    rw [hg, g0, g4] at e5
    by_cases y1 : g 4 = 16
    · exact Or.inl y1
    · by_cases y2 : g 4 = 32
      · exact Or.inr (Or.inl y2)
      · by_cases y3 : g 4 = 64
        · exact Or.inr (Or.inr y3)
        · rw [s3_y y1 y2 y3, p0, s1] at e5
          exact absurd e5 i10
  have rs : ∀ G : Int32 → Option (Int64 × ja_H), je_I h 34 0 (g 2) G = G (J.1 (g 2).toNatClampNeg).1 := fun G => by
    rw [← (mr.1 _ e11).1]
    conv => lhs; rw [he]
    rw [jE_34 b (jn_jx e11 (by decide)), jn_clamp (by omega)]
  have rd : ∀ G : Int32 → Option (Int64 × ja_H), je_I h 34 0 (g 1) G = G (J.1 (g 1).toNatClampNeg).1 := fun G => by
    rw [← (mr.1 _ d11).1]
    conv => lhs; rw [hd]
    rw [jE_34 b (jn_jx d11 (by decide)), jn_clamp (by omega)]
  have kk : mk_k (g 0 >>> (4 &&& 31)) ∨ (g 0 >>> (4 &&& 31) = 13 ∧ g 0 &&& 7 = 4 ∧ (jr_v g J).2 = (jw_imm (h.2.2.1 26 k)).toInt64 ∧ (jw_imm (h.2.2.1 26 k) = 16 ∨ jw_imm (h.2.2.1 26 k) = 32 ∨ jw_imm (h.2.2.1 26 k) = 64)) := by
    rw [← g6, g4]
    rcases w.2.2.2.1 s1 with y | ⟨_, y, y13, _⟩
    · exact Or.inl (by unfold mk_k; rw [y]; decide)
    · rcases y with y | y | y | y | y | y | y | y | y | y | y | y | y
      · exact Or.inl (by unfold mk_k; rw [y]; decide)
      · exact Or.inl (by unfold mk_k; rw [y]; decide)
      · exact Or.inl (by unfold mk_k; rw [y]; decide)
      · exact Or.inl (by unfold mk_k; rw [y]; decide)
      · exact Or.inl (by unfold mk_k; rw [y]; decide)
      · exact Or.inl (by unfold mk_k; rw [y]; decide)
      · exact Or.inl (by unfold mk_k; rw [y]; decide)
      · exact Or.inl (by unfold mk_k; rw [y]; decide)
      · exact Or.inl (by unfold mk_k; rw [y]; decide)
      · exact Or.inl (by unfold mk_k; rw [y]; decide)
      · exact Or.inl (by unfold mk_k; rw [y]; decide)
      · exact Or.inl (by unfold mk_k; rw [y]; decide)
      · refine Or.inr ⟨y, y13 y, ?_, im y⟩
        unfold jr_v
        rw [if_pos (by rw [← t2]; exact G.2.1 (Or.inr y))]
  have mach := fun A : Int64 => mo_mach (a := A) (c := (jr_v g J).2) (op := g 0) b hk g0.symm G.1 kk
  have val : ar_reck (g 0) (h.2.2.1 36 (g 1).toNatClampNeg) (jr_v g J).2 = (jar g (jl_v g J) (jr_v g J)).2 := by
    show _ = ar_reck (g 0) (jl_v g J).2 (jr_v g J).2
    by_cases k11 : g 6 = 11
    · rw [ar_11 g6 k11, ar_11 g6 k11]
    · rw [(mr.1 _ d11).2 (V1 (by rw [pw_u1 s1 k11]; exact i10))]
      rfl
  have e391 : ∀ (F : ja_H → Nat → Int32 → Int32 → Option (Int64 × ja_H)) (x : Int32), x = (jar g (jl_v g J) (jr_v g J)).1 → r_Mo_run_391 F h 25 0 (nI k) (g 1) (jr_v g J).2 x = F (mgr h (g 1).toNatClampNeg (jar g (jl_v g J) (jr_v g J))) 25 0 (nI (k + 1)) := fun F x ex => by
    have b1 : jv_B (ja_sL h 36 (g 1).toNatClampNeg (jar g (jl_v g J) (jr_v g J)).2) := b
    rw [r_Mo_run_391, jlE, jR_25_19 b, jR_25_19 b]
    conv => lhs; rw [hd]
    rw [jE_36 b (jn_jx d11 (by decide)), jn_clamp (by omega), jk_25 b, mach, jcL, val, jW_36 b (jn_jx d11 (by decide)), jn_clamp (by omega), jR_25_17 b1, jW_34 b1 (jn_jx d11 (by decide)), jn_clamp (by omega), m441, ex]
    rfl
  have G2 := mgr_R (d := (g 1).toNatClampNeg) (Q := jar g (jl_v g J) (jr_v g J)) mr
  unfold mk_ok
  rw [ej]
  refine ⟨_, fun F => ?_, G2.1, G2.2⟩
  rw [r_Mo_run_227, jlE, mo_test, jcI, T.2.2.2.2.1, if_pos rfl, if_neg T.2.2.2.2.2.2.1, mo_sum, jcI, T.2.2.2.1, if_neg i10, ← g6]
  have ur : ∀ us : pw_usesS g = 0, (jr_v g J).1 = 1 := fun us => by
    unfold jr_v
    rw [if_pos us]
  have ur2 : ∀ us : ¬ pw_usesS g = 0, (J.1 (g 2).toNatClampNeg).1 = (jr_v g J).1 := fun us => by
    unfold jr_v
    rw [if_neg us]
  by_cases k11 : g 6 = 11
  · have ka : (jar g (jl_v g J) (jr_v g J)).1 = (jr_v g J).1 := if_pos k11
    rw [if_pos k11, jk_25 b, mo_usesS b hk, jcI, g0, t2]
    by_cases us : pw_usesS g = 0
    · rw [if_pos us]
      exact e391 F 1 (by rw [ka, ur us])
    · rw [if_neg us, jR_25_17 b, rs]
      exact e391 F _ (by rw [ka, ur2 us])
  · have ka : (jar g (jl_v g J) (jr_v g J)).1 = mxI (jl_v g J).1 (jr_v g J).1 := if_neg k11
    rw [if_neg k11, jR_25_17 b, rd, jk_25 b, mo_usesS b hk, jcI, g0, t2]
    by_cases us : pw_usesS g = 0
    · rw [if_pos us, r_Mo_run_388, lw_max, jcI]
      exact e391 F _ (by rw [ka, ur us]; rfl)
    · rw [if_neg us, jR_25_17 b, rs, r_Mo_run_388, lw_max, jcI]
      exact e391 F _ (by rw [ka, ← ur2 us]; rfl)
theorem t56 (e : mp_test x = 1) : x &&& 7 = 5 ∨ x &&& 7 = 6 := by
  unfold mp_test at e
  by_cases c1 : x = 149
  · rw [if_pos c1] at e
    exact absurd e (by decide)
  · rw [if_neg c1] at e
    by_cases c2 : x &&& 7 = 5
    · exact Or.inl c2
    · rw [if_neg c2] at e
      by_cases c3 : x &&& 7 = 6
      · exact Or.inr c3
      · rw [if_neg c3] at e
        exact absurd e (by decide)
theorem m261 (b : jv_B h) (hk : k < 1024) (hg : jw_f (h.2.2.1 26 k) = g) (w : gw g) (s : g 5 = 2 ∨ g 5 = 6) : r_Mo_run_261 F h 25 0 (nI k) 1 (nI k) = F h 25 0 (nI (k + 1 + (g 3).toNatClampNeg)) := by
  have g3 := (gq hg).2.2.2.1
  have gl := gl_n w s
  have e : nI k + (1 + g 3) = nI (k + 1 + (g 3).toNatClampNeg) := by
    rw [← Int32.add_assoc, lq_add1, ← jn_add (k + 1), ← gl]
  rw [r_Mo_run_261, jk_25 b, mo_off b hk, jcI, g3, r_Mo_run_270, jlE, e, r_Mo_run_444]
theorem mk_2 (b : jv_B h) (mr : mR h J) (hk : k < 1024) (hg : jw_f (h.2.2.1 26 k) = g) (w : gw g) (V : vs g m J) (s2 : g 5 = 2) : mk_ok h g C z k J := by
  obtain ⟨g0, g1, g2, g3, g4, g6⟩ := gq hg
  obtain ⟨t2, t3, sg, i, hi⟩ := mt_us hg w
  obtain ⟨d11, hd⟩ := gw_d w
  obtain ⟨V1, V2, V3, V4, _⟩ := V
  obtain ⟨V5, V6⟩ := V4 s2
  have ej : jst g z C k J = ((if ah (g 6) (a32 (g 0) (jl_v g J).2) (a32 (g 0) (jr_v g J).2) = 0 then k + 1 else k + 1 + (g 3).toNatClampNeg), J) := by
    unfold jst
    rw [if_neg (by rw [s2]; decide), if_pos s2]
  have T := mt_2 i (by rw [← hi, sg, s2])
  rw [← hi] at T
  have rl : ∀ G : Int64 → Option (Int64 × ja_H), je_L h 36 (g 1) G = G (jl_v g J).2 := fun G => by
    have e : h.2.2.1 36 (g 1).toNatClampNeg = (jl_v g J).2 := (mr.1 _ d11).2 (by rw [show (J.1 (g 1).toNatClampNeg).1 = 1 from V5]; exact i10)
    rw [← e]
    conv => lhs; rw [hd]
    rw [jE_36 b (jn_jx d11 (by decide)), jn_clamp (by omega)]
  unfold mk_ok
  rw [ej]
  refine ⟨h, fun F => ?_, mr, md_0⟩
  rw [r_Mo_run_227, jlE, mo_test, jcI, T.2.2.2.2.1, if_neg i10, mo_go, jcI, T.2.2.2.2.2.1, if_pos rfl, jR_25_19 b, rl, mo_holds (t56 T.2.2.2.2.1), jcI, ← g6]
  by_cases t : ah (g 6) (a32 (g 0) (jl_v g J).2) (a32 (g 0) (jr_v g J).2) = 0
  · rw [if_pos t, if_pos t, r_Mo_run_270, jlE, r_Mo_run_444, show (1 : Int32) + 0 = 1 from rfl, lq_add1]
  · rw [if_neg t, if_neg t, m261 b hk hg w (Or.inl s2)]
theorem mk_6 (b : jv_B h) (mr : mR h J) (hk : k < 1024) (hg : jw_f (h.2.2.1 26 k) = g) (w : gw g) (s6 : g 5 = 6) : mk_ok h g C z k J := by
  obtain ⟨t2, t3, sg, i, hi⟩ := mt_us hg w
  have ej : jst g z C k J = (k + 1 + (g 3).toNatClampNeg, J) := by
    unfold jst
    rw [if_neg (by rw [s6]; decide), if_neg (by rw [s6]; decide), if_neg (by rw [s6]; decide), if_neg (by rw [s6]; decide), if_pos s6]
  have T := mt_6 i (by rw [← hi, sg, s6])
  rw [← hi] at T
  unfold mk_ok
  rw [ej]
  refine ⟨h, fun F => ?_, mr, md_0⟩
  rw [r_Mo_run_227, jlE, mo_test, jcI, T.2.2.2.2.1, if_neg i10, mo_go, jcI, T.2.2.2.2.2.1, if_neg i10, m261 b hk hg w (Or.inr s6)]
theorem mk_7 (b : jv_B h) (mr : mR h J) (hk : k + 1 < 1024) (hg : jw_f (h.2.2.1 26 k) = g) (w : gw g) (s7 : g 5 = 7) (hz : h.2.2.1 26 (k + 1) = z) : mk_ok h g C z k J := by
  obtain ⟨g0, g1, g2, g3, g4, g6⟩ := gq hg
  obtain ⟨t2, t3, sg, i, hi⟩ := mt_us hg w
  obtain ⟨d11, hd⟩ := gw_d w
  have ej : jst g z C k J = (k + 2, jrg J (g 1).toNatClampNeg (1, pw_wide g z)) := by
    unfold jst
    rw [if_neg (by rw [s7]; decide), if_neg (by rw [s7]; decide), if_neg (by rw [s7]; decide), if_neg (by rw [s7]; decide), if_neg (by rw [s7]; decide)]
  have T := mt_7 i (by rw [← hi, sg, s7])
  rw [← hi] at T
  have G2 := mgr_R (d := (g 1).toNatClampNeg) (Q := (1, pw_wide g z)) mr
  unfold mk_ok
  rw [ej]
  refine ⟨_, fun F => ?_, G2.1, G2.2⟩
  have b1 : jv_B (ja_sL h 36 (g 1).toNatClampNeg (pw_wide g z)) := b
  rw [r_Mo_run_227, jlE, mo_test, jcI, T.2.2.2.2.1, if_pos rfl, if_pos T.2.2.2.2.2.2.1, jR_25_19 b, jk_25 b, mo_imm b (show k < 1024 by omega), jcI, jk_25 b, lq_add1, mo_imm b hk, jcI, hz, g4, wide_eq (g := g) rfl]
  conv => lhs; rw [hd]
  rw [jW_36 b (jn_jx d11 (by decide)), jn_clamp (by omega), jR_25_17 b1, jW_34 b1 (jn_jx d11 (by decide)), jn_clamp (by omega), jlE, lq_add2, r_Mo_run_444]
  rfl
theorem mk_mv (b : jv_B h) (hk : k < 1024) (F0 : mp_test (g 0) = 0) (F1 : ¬ g 0 = 24) (F2 : mp_sum (g 0) = 0) (e : r_Mo_moved h 25 (nI k) (g 0) (g 1) (g 2) = some (1, f)) : r_Mo_run_227 F h 25 0 (nI k) (g 0) (g 1) (g 2) v = F f 25 0 (nI (k + 1)) := by
  rw [r_Mo_run_227, jlE, mo_test, jcI, F0, if_pos rfl, if_neg F1, mo_sum, jcI, F2, if_pos rfl, jk_25 b, e, jcI, if_neg i10, m441]
theorem mk_3 (b : jv_B h) (mr : mR h J) (hk : k < 1024) (hg : jw_f (h.2.2.1 26 k) = g) (w : gw g) (V : vs g m J) (jo : jok J) (hm : m ≤ 256) (e9 : h.2.1 25 9 = nI m) (hM : ∀ i, i < 256 → h.2.1 29 i = C i) (hC : ∀ i, ∃ v, v < 256 ∧ C i = nI v) (s3 : g 5 = 3) : mk_ok h g C z k J := by
  obtain ⟨t2, t3, sg, i, hi⟩ := mt_us hg w
  have ej : jst g z C k J = (k + 1, jrg J (g 1).toNatClampNeg (jrd g C J (jr_v g J))) := by
    unfold jst
    rw [if_neg (by rw [s3]; decide), if_neg (by rw [s3]; decide), if_pos s3]
  have T := mt_3 i (by rw [← hi, sg, s3])
  rw [← hi] at T
  have us : ¬ pw_usesS g = 0 := by
    unfold pw_usesS
    rw [if_pos s3]
    exact i10
  have e := mo_mvr b mr hk hg w us T.1 jo hm e9 hM hC (V.2.2.2.2.1 s3)
  have G2 := mgr_R (d := (g 1).toNatClampNeg) (Q := jrd g C J (jr_v g J)) mr
  unfold mk_ok
  rw [ej]
  exact ⟨_, fun F => mk_mv b hk T.2.2.2.2.1 T.2.2.2.2.2.2.1 T.2.2.2.1 e, G2.1, G2.2⟩
theorem mk_45 (b : jv_B h) (mr : mR h J) (hk : k < 1024) (hg : jw_f (h.2.2.1 26 k) = g) (w : gw g) (V : vs g m J) (s45 : g 5 = 4 ∨ g 5 = 5) : mk_ok h g C z k J := by
  obtain ⟨t2, t3, sg, i, hi⟩ := mt_us hg w
  have ej : jst g z C k J = (k + 1, jso J (jat g (jl_v g J)) (pw_size g).toNatClampNeg (jr_v g J)) := by
    unfold jst
    rw [if_neg (by rcases s45 with q | q <;> rw [q] <;> decide), if_neg (by rcases s45 with q | q <;> rw [q] <;> decide), if_neg (by rcases s45 with q | q <;> rw [q] <;> decide), if_pos s45]
  have T : mp_reads (g 0) = 0 ∧ mp_stores (g 0) = (if g 5 = 5 then 1 else 0) ∧ mp_sum (g 0) = 0 ∧ mp_test (g 0) = 0 ∧ ¬ g 0 = 24 := by
    rcases s45 with q | q
    · have T := mt_4 i (by rw [← hi, sg, q])
      rw [← hi] at T
      exact ⟨T.1, by rw [T.2.1, if_neg (by rw [q]; decide)], T.2.2.2.1, T.2.2.2.2.1, T.2.2.2.2.2.2.1⟩
    · have T := mt_5 i (by rw [← hi, sg, q])
      rw [← hi] at T
      exact ⟨T.1, by rw [T.2.1, if_pos q], T.2.2.2.1, T.2.2.2.2.1, T.2.2.2.2.2.2.1⟩
  obtain ⟨T1, T2, T3, T4, T5⟩ := T
  have us : pw_usesS g = if g 5 = 5 then 1 else 0 := by
    rw [← t2]
    unfold mp_usesS
    rw [T3, if_pos rfl, T4, if_pos rfl, T1, if_pos rfl, T2]
    by_cases q : g 5 = 5
    · rw [if_pos q, if_neg i10]
    · rw [if_neg q, if_pos rfl]
  obtain ⟨f, e, f1, f2⟩ := mo_mvs b mr hk hg w T1 T2 us (V.2.2.2.2.2.1 s45) V.2.1
  unfold mk_ok
  rw [ej]
  exact ⟨f, fun F => mk_mv b hk T4 T5 T3 e, f1, f2⟩
theorem mk_all (b : jv_B h) (mr : mR h J) (hk : k < 1024) (hg : jw_f (h.2.2.1 26 k) = g) (w : gw g) (V : vs g m J) (jo : jok J) (hm : m ≤ 256) (e9 : h.2.1 25 9 = nI m) (hM : ∀ i, i < 256 → h.2.1 29 i = C i) (hC : ∀ i, ∃ v, v < 256 ∧ C i = nI v) (z7 : g 5 = 7 → k + 1 < 1024 ∧ h.2.2.1 26 (k + 1) = z) (n8' : g 5 ≠ 8) : mk_ok h g C z k J := by
  rcases w.2.2.2.2.1 with q | q | q | q | q | q | q | q
  · exact mk_1 b mr hk hg w V q
  · exact mk_2 b mr hk hg w V q
  · exact mk_3 b mr hk hg w V jo hm e9 hM hC q
  · exact mk_45 b mr hk hg w V (Or.inl q)
  · exact mk_45 b mr hk hg w V (Or.inr q)
  · exact mk_6 b mr hk hg w q
  · exact mk_7 b mr (z7 q).1 hg w q (z7 q).2
  · exact absurd q n8'
end D2
