section R1
variable {h g : ja_H} {c n m L p k d : Nat} {xs : Nat → Int32} {T : Nat → Option sg_S} {σ : sg_S}
def ex_I (a b : Nat) : Prop := (10 ≤ a ∧ a ≤ 24) ∨ (a = 25 ∧ (b = 0 ∨ b = 14 ∨ b = 15 ∨ b = 16)) ∨ (34 ≤ a ∧ a ≤ 40)
def ex_L (a : Nat) : Prop := (10 ≤ a ∧ a ≤ 24) ∨ (34 ≤ a ∧ a ≤ 40)
theorem jv_XF (X : jv_X n m h) (e1 : g.1 = h.1) (e2 : g.2.2.2.1 = h.2.2.2.1) (eI : ∀ a b, ¬ ex_I a b → g.2.1 a b = h.2.1 a b) (eL : ∀ a b, ¬ ex_L a → g.2.2.1 a b = h.2.2.1 a b) (e14 : g.2.1 25 14 = g.2.1 19 5) (e15 : g.2.1 25 15 = g.2.1 19 6) : jv_X n m g := by
  obtain ⟨⟨B, hn, hm, w1, w2, w3, w4, w5, w6, w7, w8, w9, w10, w11, w12⟩, ⟨c, A⟩, v⟩ := X
  have A' := jt_Ac e1 e2 A
  refine ⟨⟨A'.1, hn, hm, ?_, ?_, ?_, ?_, fun k hk => ?_, fun k hk => ?_, fun k h1 h2 => ?_, ?_, ?_, ?_, e14, e15⟩, ⟨c, A'⟩, fun q => ?_⟩
  · rw [eI 1 1 (by unfold ex_I; omega)]
    exact w1
  · rw [eI 25 2 (by unfold ex_I; omega)]
    exact w2
  · rw [eI 3 1 (by unfold ex_I; omega)]
    exact w3
  · rw [eI 25 9 (by unfold ex_I; omega)]
    exact w4
  · rw [eL 2 k (by unfold ex_L; omega), eL 26 k (by unfold ex_L; omega)]
    exact w5 k hk
  · rw [eI 29 k (by unfold ex_I; omega), eI 4 k (by unfold ex_I; omega)]
    exact w6 k hk
  · rw [eI 4 k (by unfold ex_I; omega)]
    exact w7 k h1 h2
  · rw [eI 25 5 (by unfold ex_I; omega), eI 0 5 (by unfold ex_I; omega)]
    exact w8
  · rw [eI 0 5 (by unfold ex_I; omega)]
    exact w9
  · rw [eI 25 7 (by unfold ex_I; omega), eI 0 6 (by unfold ex_I; omega)]
    exact w10
  · rw [eI 0 5 (by unfold ex_I; omega)] at q
    obtain ⟨v0, v1, v2, v3, v4, v5, v6⟩ := v q
    have e2L : g.2.2.1 2 = h.2.2.1 2 := funext fun b => eL 2 b (by unfold ex_L; omega)
    rw [e2L, eI 3 1 (by unfold ex_I; omega), eI 8 8 (by unfold ex_I; omega), eI 8 6 (by unfold ex_I; omega)]
    refine ⟨v0, v1, jt_Tc A v2 (fun a ha => ?_) (fun a ha => ?_) (by rw [e2]), mT_c v3 (fun b => eI 28 b (by unfold ex_I; omega)) (fun b => eI 30 b (by unfold ex_I; omega)) (fun b => eI 33 b (by unfold ex_I; omega)) (fun b => eL 31 b (by unfold ex_L; omega)) (fun b => eL 32 b (by unfold ex_L; omega)), v4, v5, fun k hk => ?_⟩
    · funext b
      exact eI a b (by unfold ex_I; omega)
    · funext b
      exact eL a b (by unfold ex_L; omega)
    · rw [eI 27 k (by unfold ex_I; omega)]
      exact v6 k hk
theorem jv_XP (X : jv_X n m h) {e : Int32} : jv_Q h (ja_sI (ja_lost h 1 6) 25 0 e) := jv_QP X (jv_Plost X.1)
theorem ju_no {x : Int32} (b : jv_B h) (hn : h.2.1 8 6 = nI n) (hx : x < 0 ∨ nI n ≤ x) : r_Ju_isComeTo h 8 x = some (0, h) := by
  rw [r_Ju_isComeTo, r_Ju_isComeTo_44, r_Ju_isComeTo_45, jb0]
  by_cases q : x < 0
  · rw [if_pos q]
  · rw [if_neg q, jI_8 b, hn, if_pos (hx.resolve_left q)]
def tl_v (v : pv_T) (w : Int32) : Int64 := if w = 0 then Int32.toInt64 v.1 else if w = 1 then v.2.1 else v.2.2
theorem ju_tell {w : Int32} (A : jt_A h c) (t : jt_T h T) (hn : h.2.1 8 6 = nI n) (n1 : n ≤ 1024) (hk : k < n) (hT : T k = some σ) (d11 : d < 11) : r_Ju_tell h 8 (nI k) (nI d) w = some (tl_v (σ.1 d) w, jv_p h 16 (σ.1 d)) := by
  have b := A.1
  have k1 : k < 1024 := by omega
  obtain ⟨s, τ, m1, m2, m3, m4⟩ : ∃ s τ, h.2.2.2.1 9 k = some s ∧ h.2.1 s 4 = 1 ∧ T k = some τ ∧ sR (st_c h s) (h.2.1 (s + 4)) τ := by
    rcases t k k1 with q | q
    · rw [hT] at q
      exact absurd q.1 nofun
    · exact q
  rw [hT] at m3
  cases m3
  obtain ⟨s1, s2, s3⟩ := jt_s A k1 m1
  have d0 : ¬ nI d < 0 := jn_neg (by omega)
  have d1 : nI d < 11 := (jn_lt (b := 11) (by omega) (by omega)).mpr d11
  have b' : jv_B (jv_p h 16 (σ.1 d)) := b
  have ev := sR_r m4 d11
  rw [r_Ju_tell, jk_8 b, ju_is A t hn n1 hk, hT, if_neg nofun, jcI, if_neg i10, if_neg d0, if_pos d1, jR_8_0 b, jt_E b k1 m1, jR_8_3 b, jkE s3.1, st_load s3 (show d < 80 by omega) (jS_16 b), jcV, ev]
  unfold tl_v
  by_cases z0 : w = 0
  · rw [if_pos z0, if_pos z0, jR_8_3 b', jI_16 b', jv_pI0]
  · rw [if_neg z0, if_neg z0]
    by_cases z1 : w = 1
    · rw [if_pos z1, if_pos z1, jR_8_3 b', jL_16 b', jv_pL1, r_Ju_tell_69]
    · rw [if_neg z1, if_neg z1, jR_8_3 b', jL_16 b', jv_pL2, r_Ju_tell_69]
theorem mo_47n {x r w : Int32} (b : jv_B h) (hn : h.2.1 25 2 = nI n) (n1 : n ≤ 1024) (t : mT h n T) (i0 : h.2.1 25 0 = 0) (hx : x < 0 ∨ nI n ≤ x ∨ T x.toNatClampNeg = none) : r_Mo_state_47 h 25 x r w 0 25 = some (0, ja_sI h 25 0 3) := by
  have f0 : ja_sI h 25 0 0 = h := ja_sI_same i0
  have bad : r_Mo_state_87 h 25 x r w 25 = some (0, ja_sI h 25 0 3) := by
    rw [r_Mo_state_87, r_Mo_state_92, jk_25 b, lw_fails1 b, jcI, if_neg i10]
  rw [r_Mo_state_47, jk_25 b, lw_fails0 b, jcI, if_pos rfl, f0]
  by_cases q1 : x < 0
  · rw [if_pos q1, bad]
  · rw [if_neg q1, jI_25 b, hn]
    by_cases q2 : nI n ≤ x
    · rw [if_pos q2, bad]
    · obtain ⟨e1, e2⟩ := jn_of (Int32.not_lt.mp q1)
      have xn : x.toNatClampNeg < n := by
        rw [e1, jn_le (by omega) e2] at q2
        omega
      have hT : T x.toNatClampNeg = none := by
        rcases hx with q | q | q
        · exact absurd q q1
        · exact absurd q q2
        · exact q
      generalize x.toNatClampNeg = j at *
      subst e1
      rw [if_neg q2, jR_25_3 b, jE_27 b (jn_jx (by omega) (by decide)), bad]
      rcases t j xn with ⟨_, y2⟩ | ⟨σ, y1, _⟩
      · rw [jR_25_4 b, jE_28 b (jn_jx (by omega) (by decide)), jn_clamp (by omega), y2, if_pos rfl, ite_self]
      · rw [hT] at y1
        cases y1
theorem mo_47y {w : Int32} (b : jv_B h) (hn : h.2.1 25 2 = nI n) (n1 : n ≤ 1024) (t : mT h n T) (i0 : h.2.1 25 0 = 0) (hk : k < n) (hT : T k = some σ) (ok : sg_ok σ) (h27 : h.2.1 27 k = 0) (d11 : d < 11) : r_Mo_state_47 h 25 (nI k) (nI d) w 0 25 = some (tl_v (σ.1 d) w, h) := by
  have f0 : ja_sI h 25 0 0 = h := ja_sI_same i0
  have d75 : d < 75 := by omega
  have k26 : k < 1026 := by omega
  obtain ⟨y2, y3⟩ : h.2.1 28 k = 1 ∧ mS h k σ := by
    rcases t k hk with ⟨q, _⟩ | ⟨τ, q1, q2, q3⟩
    · rw [hT] at q
      cases q
    · rw [hT] at q1
      cases q1
      exact ⟨q2, q3⟩
  have kn : ¬ nI n ≤ nI k := fun z => by
    have := (jn_le (by omega) (by omega)).mp z
    omega
  have em := y3.1 d d75
  rw [r_Mo_state_47, jk_25 b, lw_fails0 b, jcI, if_pos rfl, f0, if_neg (jn_neg (by omega)), jI_25 b, hn, if_neg kn, jR_25_3 b, jE_27 b (jn_jx (by omega) (by decide)), jn_clamp (by omega), h27, if_pos rfl, jR_25_4 b, jE_28 b (jn_jx (by omega) (by decide)), jn_clamp (by omega), y2, if_neg i10, r_Mo_state_92, jk_25 b, lw_fails0 b, jcI, if_pos rfl, f0]
  unfold tl_v
  by_cases z0 : w = 0
  · rw [if_pos z0, if_pos z0, jk_25 b, mo_is b k26 d75, jcI, em, r_Mo_state_148]
  · rw [if_neg z0, if_neg z0, jk_25 b, mo_is b k26 d75, jcI, em]
    by_cases k0 : (σ.1 d).1 = 0
    · have e0 := pv_k0 (ok d d75) k0
      rw [if_pos k0, r_Mo_state_148, e0]
      by_cases z1 : w = 1
      · rw [if_pos z1]
      · rw [if_neg z1]
    · rw [if_neg k0]
      by_cases z1 : w = 1
      · rw [if_pos z1, if_pos z1, jk_25 b, mo_least b k26 d75, jcL, em, r_Mo_state_148]
      · rw [if_neg z1, if_neg z1, jk_25 b, mo_most b k26 d75, jcL, em, r_Mo_state_148]
theorem ls_state (X : jv_X n m h) (hp : p + 3 < L) (hL : L ≤ 2048) (he : xs p &&& 15 = 6) : jv_T L xs h p (jv_Q h) := by
  by_cases hv : h.2.1 0 5 = 0
  · exact jv_TQ X (ls_state_nv X.1 hv hp hL he)
  have hX := X
  obtain ⟨⟨B, hn, hm, w1, w2, w3, w4, w5, w6, w7, w8, w9, w10, w11, w12⟩, ⟨c, A⟩, v⟩ := X
  have h1 : h.2.1 0 5 = 1 := w9.resolve_left hv
  obtain ⟨v0, v1, v2, v3, v4, v5, v6⟩ := v h1
  generalize hk : xs (p + 1) = k at *
  generalize hr : xs (p + 2) = r at *
  generalize hw : xs (p + 3) = w at *
  have Bl : jv_B (ja_lost h 1 6) := B
  by_cases hb : w < 0 ∨ 2 < w ∨ r < 0 ∨ ¬ r < 11
  · have c1 : r_WJ_state h 0 k r w = some ([.retAddr 19], h) := by
      rw [r_WJ_state, r_WJ_state_19]
      by_cases q1 : w < 0
      · rw [if_pos q1]
      · rw [if_neg q1]
        by_cases q2 : 2 < w
        · rw [if_pos q2]
        · rw [if_neg q2]
          by_cases q3 : r < 0
          · rw [if_pos q3]
          · rw [if_neg q3, if_neg (by
              rcases hb with q | q | q | q
              · exact absurd q q1
              · exact absurd q q2
              · exact absurd q q3
              · exact q)]
    have c2 : r_Mo_state (ja_lost h 1 6) 25 k r w = some (0, ja_sI (ja_lost h 1 6) 25 0 1) := by
      have bad : r_Mo_state_20 (ja_lost h 1 6) 25 k r w 25 = some (0, ja_sI (ja_lost h 1 6) 25 0 1) := by
        rw [r_Mo_state_20, r_Mo_state_25, jk_25 Bl, lw_fails1 Bl, jcI, if_neg i10]
      rw [r_Mo_state, bad]
      by_cases q1 : w < 0
      · rw [if_pos q1]
      · rw [if_neg q1]
        by_cases q2 : 2 < w
        · rw [if_pos q2]
        · rw [if_neg q2]
          by_cases q3 : r < 0
          · rw [if_pos q3]
          · rw [if_neg q3, if_neg (fun z => by
              rcases hb with q | q | q | q
              · exact q1 q
              · exact q2 q
              · exact q3 q
              · exact q (jle11.mp z))]
    refine ⟨ja_sI (ja_lost h 1 6) 25 0 1, fun C => lq_state (h1 := ja_lost h 1 6) (v := 1) (b := 0) hp hL he B B ?_ (by rw [hk, hr, hw]; exact c2) (by rw [ja_rI]; rfl) (fun e => absurd e i10), jv_XP hX⟩
    rw [hk, hr, hw]
    simp only [r_La_state, jk_0 B, c1, jt_L, jth, if_true]
  · have q1 : ¬ w < 0 := fun q => hb (Or.inl q)
    have q2 : ¬ 2 < w := fun q => hb (Or.inr (Or.inl q))
    have q3 : ¬ r < 0 := fun q => hb (Or.inr (Or.inr (Or.inl q)))
    have q4 : r < 11 := Classical.byContradiction fun q => hb (Or.inr (Or.inr (Or.inr q)))
    obtain ⟨er, erl⟩ := jn_of (Int32.not_lt.mp q3)
    generalize r.toNatClampNeg = d at er erl
    subst er
    have d11 : d < 11 := (jn_lt (b := 11) erl (by omega)).mp q4
    have cw : r_WJ_state h 0 k (nI d) w = jc_I (r_Ju_isComeTo h 8 k) (fun v104 h103 => if v104 = 0 then some ([.retAddr 57], h103) else jf_R h103 0 0 3 (fun a105 => jk h103 a105 5 (jc_L (r_Ju_tell h103 a105 k (nI d) w) (fun v107 h106 => some ([.long v107], h106))))) := by
      rw [r_WJ_state, if_neg q1, if_neg q2, if_neg q3, if_pos q4, jI_0 B, if_neg hv, jR_0_3 B, jk_8 B]
    have cm : ∀ g : ja_H, jv_B g → g.2.1 25 5 = 1 → r_Mo_state g 25 k (nI d) w = r_Mo_state_47 (ja_sI g 25 0 0) 25 k (nI d) w 0 25 := fun g bg g5 => by
      have bg0 : jv_B (ja_sI g 25 0 0) := bg
      have g50 : (ja_sI g 25 0 0).2.1 25 5 = 1 := by
        rw [ja_rI, if_neg (by omega)]
        exact g5
      rw [r_Mo_state, if_neg q1, if_neg q2, if_neg q3, if_pos (jle11.mpr q4), r_Mo_state_25, jk_25 bg, lw_fails0 bg, jcI, if_pos rfl, jI_25 bg0, g50, if_neg i10]
    have h25 : h.2.1 25 5 = 1 := w8.trans h1
    have no : (k < 0 ∨ nI n ≤ k ∨ (vr (h.2.2.1 2) n (h.2.1 3 1)).2.2.1 k.toNatClampNeg = none) → r_Ju_isComeTo h 8 k = some (0, h) → jv_T L xs h p (jv_Q h) := fun hx ci => by
      have c2 : r_Mo_state (ja_lost h 1 6) 25 k (nI d) w = some (0, ja_sI (ja_lost h 1 6) 25 0 3) := by
        rw [cm _ Bl h25, mo_47n (h := ja_sI (ja_lost h 1 6) 25 0 0) (n := n) (T := (vr (h.2.2.1 2) n (h.2.1 3 1)).2.2.1) Bl (by rw [ja_rI, if_neg (by omega)]; exact w2) hn (mT_25 (h := ja_lost h 1 6) v3) (by rw [ja_rI, if_pos ⟨rfl, rfl⟩]) hx, ja_sI_sI]
      have e57 : ¬ (57 : Nat) = 19 := by decide
      have e58 : ¬ (57 : Nat) = 36 := by decide
      refine ⟨ja_sI (ja_lost h 1 6) 25 0 3, fun C => lq_state (h1 := ja_lost h 1 6) (v := 3) (b := 0) hp hL he B B ?_ (by rw [hk, hr, hw]; exact c2) (by rw [ja_rI]; rfl) (fun e => absurd e i30), jv_XP hX⟩
      rw [hk, hr, hw]
      have c1 : r_WJ_state h 0 k (nI d) w = some ([.retAddr 57], h) := by rw [cw, ci, jcI, if_pos rfl]
      simp only [r_La_state, jk_0 B, c1, jt_L, jth, if_true, if_neg e57, if_neg e58]
    by_cases k0 : k < 0 ∨ nI n ≤ k
    · exact no (k0.elim Or.inl (fun q => Or.inr (Or.inl q))) (ju_no B v5 k0)
    · have k1 : ¬ k < 0 := fun q => k0 (Or.inl q)
      obtain ⟨ek, ekl⟩ := jn_of (Int32.not_lt.mp k1)
      have kk : k.toNatClampNeg < n := by
        have : ¬ nI n ≤ k := fun q => k0 (Or.inr q)
        rw [ek, jn_le (by omega) ekl] at this
        omega
      cases hT : (vr (h.2.2.1 2) n (h.2.1 3 1)).2.2.1 k.toNatClampNeg with
      | none =>
        refine no (Or.inr (Or.inr hT)) ?_
        have := ju_is A v2 v5 hn kk
        rw [hT, if_pos rfl, ← ek] at this
        exact this
      | some σ =>
        obtain ⟨jq, _, _, _⟩ := vr_fin hn v0 v1
        obtain ⟨_, hsec, ok⟩ := jq _ _ hT
        have h27 := v6 _ kk
        rw [hsec] at h27
        have ic := ju_is A v2 v5 hn kk
        rw [hT, if_neg nofun, ← ek] at ic
        have te := ju_tell (w := w) A v2 v5 hn kk hT d11
        rw [← ek] at te
        have c1 : r_WJ_state h 0 k (nI d) w = some ([.long (tl_v (σ.1 d) w)], jv_p h 16 (σ.1 d)) := by
          rw [cw, ic, jcI, if_neg i10, jR_0_3 B, jk_8 B, te, jcL]
        have B1 : jv_B (jv_p h 16 (σ.1 d)) := B
        have B2 : jv_B (ja_sL (jv_p h 16 (σ.1 d)) 40 0 (tl_v (σ.1 d) w)) := B
        have B3 : jv_B (ja_sI (ja_sL (jv_p h 16 (σ.1 d)) 40 0 (tl_v (σ.1 d) w)) 25 0 0) := B
        have gI : ∀ a b, a ≠ 16 → ¬ (a = 25 ∧ b = 0) → (ja_sI (ja_sL (jv_p h 16 (σ.1 d)) 40 0 (tl_v (σ.1 d) w)) 25 0 0).2.1 a b = h.2.1 a b := fun a b z1 z2 => by
          rw [ja_rI, if_neg z2, ja_rLI, jv_pI, if_neg (fun z => z1 z.1)]
        have gL : ∀ a b, a ≠ 16 → a ≠ 40 → (ja_sI (ja_sL (jv_p h 16 (σ.1 d)) 40 0 (tl_v (σ.1 d) w)) 25 0 0).2.2.1 a b = h.2.2.1 a b := fun a b z1 z2 => by
          rw [ja_rIL, ja_rL, if_neg (fun z => z2 z.1), jv_pL, if_neg (fun z => z1 z.1), if_neg (fun z => z1 z.1)]
        have mt : mT (ja_sI (ja_sL (jv_p h 16 (σ.1 d)) 40 0 (tl_v (σ.1 d) w)) 25 0 0) n (vr (h.2.2.1 2) n (h.2.1 3 1)).2.2.1 := mT_c v3 (fun b => gI 28 b (by omega) (by omega)) (fun b => gI 30 b (by omega) (by omega)) (fun b => gI 33 b (by omega) (by omega)) (fun b => gL 31 b (by omega) (by omega)) (fun b => gL 32 b (by omega) (by omega))
        have c2 : r_Mo_state (ja_sL (jv_p h 16 (σ.1 d)) 40 0 (tl_v (σ.1 d) w)) 25 k (nI d) w = some (tl_v (σ.1 d) w, ja_sI (ja_sL (jv_p h 16 (σ.1 d)) 40 0 (tl_v (σ.1 d) w)) 25 0 0) := by
          have g5 : (ja_sL (jv_p h 16 (σ.1 d)) 40 0 (tl_v (σ.1 d) w)).2.1 25 5 = 1 := by
            rw [ja_rLI, jv_pI, if_neg (by omega)]
            exact h25
          have r := mo_47y (w := w) B3 ((gI 25 2 (by omega) (by omega)).trans w2) hn mt (by rw [ja_rI, if_pos ⟨rfl, rfl⟩]) kk hT ok ((gI 27 _ (by omega) (by omega)).trans h27) d11
          rw [← ek] at r
          rw [cm _ B2 g5]
          exact r
        refine ⟨ja_sI (ja_sL (jv_p h 16 (σ.1 d)) 40 0 (tl_v (σ.1 d) w)) 25 0 0, fun C => lq_state (h1 := ja_sL (jv_p h 16 (σ.1 d)) 40 0 (tl_v (σ.1 d) w)) (v := 0) (b := tl_v (σ.1 d) w) hp hL he B2 B3 ?_ (by rw [hk, hr, hw]; exact c2) (by rw [ja_rI]; rfl) (fun _ => by rw [ja_rIL, ja_rL]; rfl), n, m, ?_, Nat.le_succ _, Nat.le_add_right _ _⟩
        · rw [hk, hr, hw]
          simp only [r_La_state, jk_0 B, c1, jt_L, jW_40 B1 jx0]
          rfl
        · refine jv_XF hX rfl rfl (fun a b z => gI a b (fun y => z (by unfold ex_I; omega)) (fun y => z (by unfold ex_I; omega))) (fun a b z => gL a b (fun y => z (by unfold ex_L; omega)) (fun y => z (by unfold ex_L; omega))) ?_ ?_
          · rw [gI 25 14 (by omega) (by omega), gI 19 5 (by omega) (by omega)]
            exact w11
          · rw [gI 25 15 (by omega) (by omega), gI 19 6 (by omega) (by omega)]
            exact w12
end R1
