section VE
variable {h g f : ja_H} {c n m L p : Nat} {W : Nat → Int64} {xs : Nat → Int32} {len x : Int32} {T : Nat → Option sg_S}
theorem jt_Ac (e1 : g.1 = h.1) (e2 : g.2.2.2.1 = h.2.2.2.1) (A : jt_A h c) : jt_A g c := by
  have : jt_A g c = jt_A h c := by
    unfold jt_A jv_B st_ok
    rw [e1, e2]
  rw [this]
  exact A
def wj_f (h g : ja_H) : Prop := (∀ a b, a < 41 → a ≠ 5 → a ≠ 6 → a ≠ 7 → a ≠ 8 → (a < 10 ∨ 18 < a) → ¬ (a = 0 ∧ (b = 5 ∨ b = 6)) → g.2.1 a b = h.2.1 a b) ∧ (∀ a b, a < 41 → (a < 10 ∨ 18 < a) → g.2.2.1 a b = h.2.2.1 a b) ∧ (∀ a, a < 41 → a ≠ 9 → g.2.2.2.1 a = h.2.2.2.1 a) ∧ g.2.2.2.2 = h.2.2.2.2
theorem wj_f0 : wj_f h h := ⟨fun _ _ _ _ _ _ _ _ _ => rfl, fun _ _ _ _ => rfl, fun _ _ _ => rfl, rfl⟩
theorem wj_ft (p : wj_f h g) (q : wj_f g f) : wj_f h f := ⟨fun a b h1 h2 h3 h4 h5 h6 h7 => (q.1 a b h1 h2 h3 h4 h5 h6 h7).trans (p.1 a b h1 h2 h3 h4 h5 h6 h7), fun a b h1 h2 => (q.2.1 a b h1 h2).trans (p.2.1 a b h1 h2), fun a h1 h2 => (q.2.2.1 a h1 h2).trans (p.2.2.1 a h1 h2), q.2.2.2.trans p.2.2.2⟩
theorem wj_fs {b : Nat} (hb : b = 5 ∨ b = 6) : wj_f h (ja_sI h 0 b x) := by
  refine ⟨fun a b' _ _ _ _ _ _ q => ?_, fun _ _ _ _ => rfl, fun _ _ _ => rfl, rfl⟩
  rw [ja_rI, if_neg (fun z => q ⟨z.1, by omega⟩)]
theorem wj_77 (b : jv_B h) : r_WJ_verify_77 h 0 x = some ([.int x], ja_sI h 0 5 (if x = 0 then 1 else 0)) := by
  rw [r_WJ_verify_77, r_WJ_verify_87, r_WJ_verify_87]
  by_cases z : x = 0
  · rw [if_pos z, if_pos z, jpZ_0 b (Or.inr rfl)]
  · rw [if_neg z, if_neg z, jpZ_0 b (Or.inl rfl)]
theorem wj_verify (A : jt_A h c) (n1 : n ≤ 1024) (n0 : 0 < n) (hn : h.2.1 1 1 = nI n) (hm : h.2.1 3 1 = len) (hW : ∀ k, k < n → h.2.2.1 2 k = W k) : ∃ h' c', r_WJ_verify h 0 = some ([.int (vr W n len).1], h') ∧ jt_A h' c' ∧ h'.2.1 0 5 = (if (vr W n len).1 = 0 then 1 else 0) ∧ h'.2.1 0 6 = (vr W n len).2.1 ∧ ((vr W n len).1 = 0 → jt_T h' (vr W n len).2.2.1 ∧ h'.2.1 8 8 = (vr W n len).2.2.2 ∧ h'.2.1 8 6 = nI n) ∧ wj_f h h' := by
  have b := A.1
  have n0' : ¬ nI n = 0 := fun q => by
    have := (jn_inj (a := n) (b := 0) (by omega) (by decide)).mp q
    omega
  obtain ⟨h1, u1, u2, u3, u4, u5⟩ := fo_examine b n1 hn hW
  have A1 : jt_A h1 c := jt_Ac u2 (by rw [u3]) A
  have b1 := A1.1
  have f1 : wj_f h h1 := ⟨fun a b' _ h5 h6 h7 _ _ _ => by rw [u4 a h5 h6 h7], fun a b' _ _ => by rw [u3], fun a _ _ => by rw [u3], by rw [u3]⟩
  rw [r_WJ_verify, jR_0_0 b, jI_1 b, hn, if_neg n0', jR_0_2 b, jR_0_0 b, jk_5 b, u1, jcI, jlE, jR_0_2 b1, jI_5 b1, u5, jpI_0 b1]
  have A2 : jt_A (ja_sI h1 0 6 (px W n n 0).2) c := A1
  have b2 := A2.1
  have f2 : wj_f h (ja_sI h1 0 6 (px W n n 0).2) := wj_ft f1 (wj_fs (Or.inr rfl))
  unfold vr
  by_cases z : (px W n n 0).1 = 0
  · rw [if_pos z, if_pos z, jR_0_3 b2, jR_0_0 b2, jR_0_1 b2, jI_3 b2, jk_8 b2, f2.1 3 1 (by omega) (by omega) (by omega) (by omega) (by omega) (by omega) (by omega), hm]
    obtain ⟨h3, c3, w1, w2, w3, w4, w5, w6, w7, w8, w9, w10⟩ := ju_examine (sec := sec W) (W := W) (m := len) A2 (by rw [f2.1 1 1 (by omega) (by omega) (by omega) (by omega) (by omega) (by omega) (by omega)]; exact hn) n1 n0 (fun k hk => by rw [f2.2.1 2 k (by omega) (by omega)]; exact hW k hk) rfl (jq_of n1 z)
    have b3 := w2.1
    have b4 : jv_B (ja_sI h3 0 6 (pe W n len n 0 pe_0 0).2.1) := b3
    have f3 : wj_f (ja_sI h1 0 6 (px W n n 0).2) h3 := ⟨fun a b' h1 _ _ _ h8 h9 _ => by rw [w3 a h1 h8 h9], fun a b' h1 h2 => by rw [w4 a h1 h2], w5, w6⟩
    rw [w1, jcI, jlE, jR_0_3 b3, jI_8 b3, w9, jpI_0 b3, wj_77 b4]
    refine ⟨_, c3, rfl, w2, ?_, ?_, fun q => ⟨?_, ?_, ?_⟩, wj_ft (wj_ft f2 f3) (wj_ft (wj_fs (Or.inr rfl)) (wj_fs (Or.inl rfl)))⟩
    · rw [ja_rI, if_pos ⟨rfl, rfl⟩]
    · rw [ja_rI, if_neg (by omega), ja_rI, if_pos ⟨rfl, rfl⟩]
    · exact jt_TI (A := (w2 : jt_A (ja_sI h3 0 6 (pe W n len n 0 pe_0 0).2.1) c3)) (jt_TI w2 (w10 q) (by decide)) (by decide)
    · rw [ja_rI, if_neg (by omega), ja_rI, if_neg (by omega)]
      exact w8
    · rw [ja_rI, if_neg (by omega), ja_rI, if_neg (by omega)]
      exact w7
  · rw [if_neg z, if_neg z, wj_77 b2]
    refine ⟨_, c, rfl, A2, ?_, ?_, fun q => absurd q z, wj_ft f2 (wj_fs (Or.inl rfl))⟩
    · rw [ja_rI, if_pos ⟨rfl, rfl⟩]
    · rw [ja_rI, if_neg (by omega), ja_rI, if_pos ⟨rfl, rfl⟩]
def jv_V (n : Nat) (h : ja_H) : Prop := h.2.1 0 5 = 1 → 0 < n ∧ (vr (h.2.2.1 2) n (h.2.1 3 1)).1 = 0 ∧ jt_T h (vr (h.2.2.1 2) n (h.2.1 3 1)).2.2.1 ∧ mT h n (vr (h.2.2.1 2) n (h.2.1 3 1)).2.2.1 ∧ h.2.1 8 8 = (vr (h.2.2.1 2) n (h.2.1 3 1)).2.2.2 ∧ h.2.1 8 6 = nI n ∧ ∀ k, k < n → h.2.1 27 k = bo (sec (h.2.2.1 2) k)
def jv_X (n m : Nat) (h : ja_H) : Prop := jv_W n m h ∧ (∃ c, jt_A h c) ∧ jv_V n h
def jv_Y (h g : ja_H) : Prop := g.2.2.2.2.1 ≤ h.2.2.2.2.1 + 1 ∧ g.2.2.2.2.2 ≤ h.2.2.2.2.2 + 6
def jv_Q (h h' : ja_H) : Prop := ∃ n' m', jv_X n' m' h' ∧ jv_Y h h'
theorem mT_c (t : mT h n T) (e28 : ∀ b, g.2.1 28 b = h.2.1 28 b) (e30 : ∀ b, g.2.1 30 b = h.2.1 30 b) (e33 : ∀ b, g.2.1 33 b = h.2.1 33 b) (e31 : ∀ b, g.2.2.1 31 b = h.2.2.1 31 b) (e32 : ∀ b, g.2.2.1 32 b = h.2.2.1 32 b) : mT g n T := by
  intro k hk
  rw [e28]
  rcases t k hk with q | ⟨σ, q1, q2, q3⟩
  · exact Or.inl q
  · refine Or.inr ⟨σ, q1, q2, fun c hc => ?_, fun j hj => ?_⟩
    · rw [← q3.1 c hc]
      unfold mv
      rw [e30, e31, e32]
    · rw [e33]
      exact q3.2 j hj
theorem jv_VF (A : jt_A h c) (v : jv_V n h) (F : jv_F h g) : jv_V n g := by
  obtain ⟨f1, f2, f3, f4⟩ := F
  intro q
  rw [f3 0 5 (by omega) (by omega) (by omega)] at q
  obtain ⟨v0, v1, v2, v3, v4, v5, v6⟩ := v q
  have eL : g.2.2.1 2 = h.2.2.1 2 := funext fun b => f4 2 b (by omega)
  rw [eL, f3 3 1 (by omega) (by omega) (by omega), f3 8 8 (by omega) (by omega) (by omega), f3 8 6 (by omega) (by omega) (by omega)]
  refine ⟨v0, v1, jt_Tc A v2 (fun a ha => ?_) (fun a ha => ?_) (by rw [f2]), mT_c v3 (fun b => f3 28 b (by omega) (by omega) (by omega)) (fun b => f3 30 b (by omega) (by omega) (by omega)) (fun b => f3 33 b (by omega) (by omega) (by omega)) (fun b => f4 31 b (by omega)) (fun b => f4 32 b (by omega)), v4, v5, fun k hk => ?_⟩
  · funext b
    exact f3 a b (by omega) (by omega) (by omega)
  · funext b
    exact f4 a b (by omega)
  · rw [f3 27 k (by omega) (by omega) (by omega)]
    exact v6 k hk
theorem jv_QP (X : jv_X n m h) (P : jv_P n m h g) : jv_Q h g := by
  obtain ⟨n', m', hW, hg, hor⟩ := P
  obtain ⟨c, A⟩ := X.2.1
  refine ⟨n', m', ⟨hW, ⟨c, jt_Ac hg.1 hg.2.2.2 A⟩, ?_⟩, hg.2.1, hg.2.2.1⟩
  rcases hor with q | ⟨q1, q2, F⟩
  · intro z
    rw [q] at z
    exact absurd z (by decide)
  · rw [q1]
    exact jv_VF A X.2.2 F
theorem jv_TQ (X : jv_X n m h) (t : jv_T L xs h p (jv_P n m h)) : jv_T L xs h p (jv_Q h) := by
  obtain ⟨h', e, P⟩ := t
  exact ⟨h', e, jv_QP X P⟩
theorem ls_verify_n (X : jv_X n m h) (n0 : 0 < n) (hp : p + 3 < L) (hL : L ≤ 2048) (he : xs p &&& 15 = 4) : jv_T L xs h p (jv_Q h) := by
  obtain ⟨⟨B, hn, hm, w1, w2, w3, w4, w5, w6, w7, w8, w9, w10, w11, w12⟩, ⟨c, A⟩, _⟩ := X
  obtain ⟨h1, c1, u1, u2, u3, u4, u5, u6⟩ := wj_verify (W := h.2.2.1 2) (len := nI m) A hn n0 w1 w3 (fun k hk => rfl)
  have b1 := u2.1
  have A2 : jt_A (ja_sL h1 40 0 (Int32.toInt64 (vr (h.2.2.1 2) n (nI m)).1)) c1 := u2
  have b2 := A2.1
  have eI : (ja_sL h1 40 0 (Int32.toInt64 (vr (h.2.2.1 2) n (nI m)).1)).2.1 = h1.2.1 := rfl
  have eLo : ∀ a b, a ≠ 40 → (ja_sL h1 40 0 (Int32.toInt64 (vr (h.2.2.1 2) n (nI m)).1)).2.2.1 a b = h1.2.2.1 a b := fun a b ha => by
    rw [ja_rL, if_neg (fun z => ha z.1)]
  have ur : ∀ a b, a < 41 → a ≠ 5 → a ≠ 6 → a ≠ 7 → a ≠ 8 → (a < 10 ∨ 18 < a) → ¬ (a = 0 ∧ (b = 5 ∨ b = 6)) → h1.2.1 a b = h.2.1 a b := u6.1
  have i25 : ∀ b, h1.2.1 25 b = h.2.1 25 b := fun b => ur 25 b (by omega) (by omega) (by omega) (by omega) (by omega) (by omega) (by omega)
  obtain ⟨h2, v1, v2, v3, v4, v5, v6⟩ := mo_verify (W := h.2.2.1 2) (len := nI m) b2 hn n0 (by rw [eI, i25]; exact w2) (by rw [eI, i25]; exact w4) (fun k hk => by
    rw [eLo 26 k (by omega), u6.2.1 26 k (by omega) (by omega)]
    exact (w5 k (by omega)).symm)
  have vI : ∀ a b, a ≠ 27 → a ≠ 28 → a ≠ 30 → a ≠ 33 → a ≠ 25 → h2.2.1 a b = h1.2.1 a b := fun a b q1 q2 q3 q4 q5 => v2.2.2.1 a b q1 q2 q3 q4 (fun z => q5 z.1)
  have v25 : ∀ b, b ≠ 0 → b ≠ 5 → b ≠ 6 → b ≠ 7 → b ≠ 16 → h2.2.1 25 b = h.2.1 25 b := fun b q0 q5 q6 q7 q16 => (v2.2.2.1 25 b (by omega) (by omega) (by omega) (by omega) (by omega)).trans (i25 b)
  have vL : ∀ a b, a ≠ 31 → a ≠ 32 → a ≠ 40 → a < 41 → (a < 10 ∨ 18 < a) → h2.2.2.1 a b = h.2.2.1 a b := fun a b q1 q2 q3 q4 q5 => (v2.2.2.2 a b q1 q2).trans ((eLo a b q3).trans (u6.2.1 a b q4 q5))
  have A3 : jt_A h2 c1 := jt_Ac v2.1 (by rw [v2.2.1]) A2
  have e40 : h2.2.2.1 40 0 = Int32.toInt64 (vr (h.2.2.1 2) n (nI m)).1 := by
    rw [v2.2.2.2 40 0 (by omega) (by omega), ja_rL, if_pos ⟨rfl, rfl⟩]
  have el : r_La_verify h 0 40 = some (0, ja_sL h1 40 0 (Int32.toInt64 (vr (h.2.2.1 2) n (nI m)).1)) := by
    rw [r_La_verify, jk_0 B, u1]
    simp only [jt_I]
    rw [jW_40 b1 jx0, show Int32.toNatClampNeg 0 = 0 by decide]
  refine ⟨h2, fun C => lq_verify (v := 0) hp hL he b2 A3.1 el v1 v3 (fun _ => e40), n, m, ⟨⟨A3.1, hn, hm, ?_, ?_, ?_, ?_, fun k hk => ?_, fun k hk => ?_, fun k h1 h2 => ?_, ?_, ?_, ?_, ?_, ?_⟩, ⟨c1, A3⟩, ?_⟩, ?_, ?_⟩
  · rw [vI 1 1 (by omega) (by omega) (by omega) (by omega) (by omega), ur 1 1 (by omega) (by omega) (by omega) (by omega) (by omega) (by omega) (by omega)]
    exact w1
  · rw [v25 2 (by omega) (by omega) (by omega) (by omega) (by omega)]
    exact w2
  · rw [vI 3 1 (by omega) (by omega) (by omega) (by omega) (by omega), ur 3 1 (by omega) (by omega) (by omega) (by omega) (by omega) (by omega) (by omega)]
    exact w3
  · rw [v25 9 (by omega) (by omega) (by omega) (by omega) (by omega)]
    exact w4
  · rw [vL 2 k (by omega) (by omega) (by omega) (by omega) (by omega), vL 26 k (by omega) (by omega) (by omega) (by omega) (by omega)]
    exact w5 k hk
  · rw [vI 29 k (by omega) (by omega) (by omega) (by omega) (by omega), ur 29 k (by omega) (by omega) (by omega) (by omega) (by omega) (by omega) (by omega), vI 4 k (by omega) (by omega) (by omega) (by omega) (by omega), ur 4 k (by omega) (by omega) (by omega) (by omega) (by omega) (by omega) (by omega)]
    exact w6 k hk
  · rw [vI 4 k (by omega) (by omega) (by omega) (by omega) (by omega), ur 4 k (by omega) (by omega) (by omega) (by omega) (by omega) (by omega) (by omega)]
    exact w7 k h1 h2
  · rw [v4, vI 0 5 (by omega) (by omega) (by omega) (by omega) (by omega), u3]
  · rw [vI 0 5 (by omega) (by omega) (by omega) (by omega) (by omega), u3]
    split
    · exact Or.inr rfl
    · exact Or.inl rfl
  · rw [v5, vI 0 6 (by omega) (by omega) (by omega) (by omega) (by omega), u4]
  · rw [v25 14 (by omega) (by omega) (by omega) (by omega) (by omega), vI 19 5 (by omega) (by omega) (by omega) (by omega) (by omega), ur 19 5 (by omega) (by omega) (by omega) (by omega) (by omega) (by omega) (by omega)]
    exact w11
  · rw [v25 15 (by omega) (by omega) (by omega) (by omega) (by omega), vI 19 6 (by omega) (by omega) (by omega) (by omega) (by omega), ur 19 6 (by omega) (by omega) (by omega) (by omega) (by omega) (by omega) (by omega)]
    exact w12
  · intro q
    have eW : h2.2.2.1 2 = h.2.2.1 2 := funext fun b => vL 2 b (by omega) (by omega) (by omega) (by omega) (by omega)
    have e3 : h2.2.1 3 1 = nI m := by
      rw [vI 3 1 (by omega) (by omega) (by omega) (by omega) (by omega), ur 3 1 (by omega) (by omega) (by omega) (by omega) (by omega) (by omega) (by omega)]
      exact w3
    rw [vI 0 5 (by omega) (by omega) (by omega) (by omega) (by omega), u3] at q
    have z : (vr (h.2.2.1 2) n (nI m)).1 = 0 := Classical.byContradiction fun y => by
      rw [if_neg y] at q
      exact absurd q (by decide)
    obtain ⟨y1, y2, y3⟩ := u5 z
    rw [eW, e3]
    refine ⟨n0, z, ?_, (v6 z).1, ?_, ?_, (v6 z).2⟩
    · have t2 : jt_T (ja_sL h1 40 0 (Int32.toInt64 (vr (h.2.2.1 2) n (nI m)).1)) (vr (h.2.2.1 2) n (nI m)).2.2.1 := jt_Tc u2 y1 (fun a ha => rfl) (fun a ha => by
        funext b
        exact eLo a b (by omega)) rfl
      exact jt_Tc A2 t2 (fun a ha => by
        funext b
        exact vI a b (by omega) (by omega) (by omega) (by omega) (by omega)) (fun a ha => by
        funext b
        exact v2.2.2.2 a b (by omega) (by omega)) (by rw [v2.2.1])
    · rw [vI 8 8 (by omega) (by omega) (by omega) (by omega) (by omega)]
      exact y2
    · rw [vI 8 6 (by omega) (by omega) (by omega) (by omega) (by omega)]
      exact y3
  · rw [v2.2.1]
    show h1.2.2.2.2.1 ≤ _
    rw [u6.2.2.2]
    exact Nat.le_succ _
  · rw [v2.2.1]
    show h1.2.2.2.2.2 ≤ _
    rw [u6.2.2.2]
    exact Nat.le_add_right _ _
theorem ls_verify (X : jv_X n m h) (hp : p + 3 < L) (hL : L ≤ 2048) (he : xs p &&& 15 = 4) : jv_T L xs h p (jv_Q h) := by
  by_cases n0 : n = 0
  · subst n0
    exact jv_TQ X (ls_verify_0 X.1 hp hL he)
  · exact ls_verify_n X (by omega) hp hL he
end VE
