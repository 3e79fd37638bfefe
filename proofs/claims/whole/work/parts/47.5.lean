section LW2
variable {L : Nat} {xs : Nat → Int32}
theorem ls_run : ls_R := by
  intro n m L p xs h hX h5 hp hL he
  have hX0 := hX
  obtain ⟨⟨B, hn, hm, w1, w2, w3, w4, w5, w6, w7, w8, w9, w10, w11, w12⟩, _, V⟩ := hX
  obtain ⟨v0, v1, _⟩ := V h5
  rw [w3] at v1
  obtain ⟨_, _, _, f0⟩ := vr_fin hn v0 v1
  obtain ⟨u, K, u1, r⟩ := jr_ex (C := fun i => h.2.1 4 i &&& 255) hn hm v1 (fun j => oc_c _) n 0 jS_0' (by omega) v0 ⟨sg_b, f0, sJ_0⟩ (fun j => by show (0 : Int32).toNatClampNeg < 256; decide)
  obtain ⟨h1, c1, px, e5⟩ := ma_exec hn hm r (by omega) B w1 rfl w3 (fun i => rfl)
  have B1 : jv_B h1 := by
    refine ⟨fun i hi => ?_, fun q hq => ?_⟩
    · rw [px.1]
      exact B.1 i hi
    · rw [px.2.1]
      exact B.2 q hq
  have B2 : jv_B (ja_sL h1 40 0 (K.1 0).2) := B1
  have gI : ∀ a b, a ≠ 21 → a ≠ 22 → a ≠ 23 → a ≠ 24 → ¬ (a = 19 ∧ (b = 5 ∨ b = 7)) → (ja_sL h1 40 0 (K.1 0).2).2.1 a b = h.2.1 a b := px.2.2.1
  have gL : ∀ a b, a ≠ 20 → a ≠ 40 → (ja_sL h1 40 0 (K.1 0).2).2.2.1 a b = h.2.2.1 a b := fun a b q1 q2 => by
    rw [ja_rL, if_neg (fun q => q2 q.1), px.2.2.2 a b q1]
  have g0 : (ja_sL h1 40 0 (K.1 0).2).2.2.1 40 0 = (K.1 0).2 := by
    rw [ja_rL, if_pos ⟨rfl, rfl⟩]
  have g5 : (ja_sL h1 40 0 (K.1 0).2).2.1 19 5 = nI u := e5
  have gY : (ja_sL h1 40 0 (K.1 0).2).2.2.2 = h.2.2.2 := px.2.1
  have g1 : (ja_sL h1 40 0 (K.1 0).2).1 = h.1 := px.1
  have cw : r_WJ_run h 0 = some ([.long (K.1 0).2], h1) := by
    rw [r_WJ_run, jI_0 B, h5, if_neg i10, jR_0_4 B, jR_0_0 B, jR_0_1 B, jk_19 B, c1, jcL]
  have cl : r_La_run h 0 40 = some (0, ja_sL h1 40 0 (K.1 0).2) := by
    simp only [r_La_run, jk_0 B, cw, jt_L, jW_40 B1 jx0]
    rfl
  generalize ja_sL h1 40 0 (K.1 0).2 = h2 at *
  obtain ⟨f, c2, mx, e14⟩ := mo_runs (h := h2) hn hm (fun i => oc_n _) r (by omega) B2 (by rw [gI 25 5 (by decide) (by decide) (by decide) (by decide) (by omega), w8, h5]) (fun k hk => by rw [gL 26 k (by decide) (by decide), w5 k hk]) (by rw [gI 25 9 (by decide) (by decide) (by decide) (by decide) (by omega), w4]) (fun i hi => by rw [gI 29 i (by decide) (by decide) (by decide) (by decide) (by omega), w6 i hi])
  have B3 : jv_B f := by
    refine ⟨fun i hi => ?_, fun q hq => ?_⟩
    · rw [mx.1]
      exact B2.1 i hi
    · rw [mx.2.1]
      exact B2.2 q hq
  have oI : ∀ a b, ¬ (a = 25 ∧ b = 0) → (ja_sI h2 25 0 0).2.1 a b = h2.2.1 a b := fun a b q => by
    rw [ja_rI, if_neg q]
  have eY : f.2.2.2 = h.2.2.2 := mx.2.1.trans gY
  refine ⟨f, fun D => lq_run (h1 := h2) (v := 0) (b := (K.1 0).2) hp hL he B2 B3 cl c2 ?_ (fun _ => ?_), n, m, ?_, ?_, ?_⟩
  · rw [mx.2.2.1 25 0 (by decide) (by decide) (by decide) (by decide) (by omega), ja_rI, if_pos ⟨rfl, rfl⟩]
  · rw [mx.2.2.2 40 0 (by decide) (by decide)]
    exact g0
  · refine jv_XF hX0 (mx.1.trans g1) (congrArg Prod.fst eY) (fun a b z => ?_) (fun a b z => ?_) ?_ ?_
    · unfold ex_I at z
      rw [mx.2.2.1 a b (by omega) (by omega) (by omega) (by omega) (by omega), oI a b (by omega), gI a b (by omega) (by omega) (by omega) (by omega) (by omega)]
    · unfold ex_L at z
      rw [mx.2.2.2 a b (by omega) (by omega)]
      exact gL a b (by omega) (by omega)
    · rw [e14, mx.2.2.1 19 5 (by decide) (by decide) (by decide) (by decide) (by omega), oI 19 5 (by omega), g5]
    · rw [mx.2.2.1 25 15 (by decide) (by decide) (by decide) (by decide) (by omega), oI 25 15 (by omega), gI 25 15 (by decide) (by decide) (by decide) (by decide) (by omega), mx.2.2.1 19 6 (by decide) (by decide) (by decide) (by decide) (by omega), oI 19 6 (by omega), gI 19 6 (by decide) (by decide) (by decide) (by decide) (by omega), w12]
  · rw [eY]
    exact Nat.le_succ _
  · rw [eY]
    exact Nat.le_add_right _ _
theorem ja_lawN (hL : L ≤ 2048) : ∃ hf, r_La_law L xs ja_h0 = some (1, hf) ∧ ja_nc hf ≤ 601024 ∧ ja_ns hf ≤ 7293034 := ja_lawR ls_run hL
end LW2
