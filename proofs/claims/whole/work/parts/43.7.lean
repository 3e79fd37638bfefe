section FW
variable {h g : ja_H} {c k : Nat} {T : Nat → Option sg_S} {V : Nat → pv_T} {B : Nat → Int32} {σ : sg_S} {l r n : pv_T}
def jt_f1 (h g : ja_H) : Prop := (∀ a, a < 41 → (a < 10 ∨ a = 15 ∨ 18 < a) → g.2.1 a = h.2.1 a) ∧ (∀ a, a < 41 → (a < 10 ∨ 18 < a) → g.2.2.1 a = h.2.2.1 a) ∧ (∀ a, a < 41 → a ≠ 9 → g.2.2.2.1 a = h.2.2.2.1 a) ∧ g.2.2.2.2 = h.2.2.2.2
theorem jt_f10 : jt_f1 h h := ⟨fun _ _ _ => rfl, fun _ _ _ => rfl, fun _ _ _ => rfl, rfl⟩
theorem jt_f1t {f : ja_H} (a : jt_f1 h g) (b : jt_f1 g f) : jt_f1 h f := ⟨fun x q r => (b.1 x q r).trans (a.1 x q r), fun x q r => (b.2.1 x q r).trans (a.2.1 x q r), fun x q r => (b.2.2.1 x q r).trans (a.2.2.1 x q r), b.2.2.2.trans a.2.2.2⟩
theorem jt_f1r (a : jt_fr h g) : jt_f1 h g := ⟨fun x q _ => a.1 x q, fun x q _ => a.2.1 x q, a.2.2.1, a.2.2.2⟩
theorem jt_f1d : jt_f1 h (jd h V B l r n) := ⟨fun a _ q => jd_I (by omega), fun a _ q => jd_L (by omega), fun _ _ _ => rfl, rfl⟩
theorem jt_Ad : jt_A (jd h V B l r n) c = jt_A h c := rfl
theorem jt_Tc (A : jt_A h c) (t : jt_T h T) (eI : ∀ a, 41 ≤ a → g.2.1 a = h.2.1 a) (eL : ∀ a, 41 ≤ a → g.2.2.1 a = h.2.2.1 a) (eR : g.2.2.2.1 9 = h.2.2.2.1 9) : jt_T g T := by
  intro k hk
  rw [eR]
  rcases t k hk with q | ⟨s, σ, q1, q2, q3, q4⟩
  · refine Or.inl ⟨q.1, ?_⟩
    rcases q.2 with q2 | ⟨s, q2, q3⟩
    · exact Or.inl q2
    · exact Or.inr ⟨s, q2, by rw [eI s (jt_s A hk q2).1]; exact q3⟩
  · have s41 := (jt_s A hk q1).1
    refine Or.inr ⟨s, σ, q1, by rw [eI s s41]; exact q2, q3, ?_⟩
    have e2 : st_c g s = st_c h s := by
      funext i
      simp only [st_c]
      rw [eI (s + 1) (by omega), eL (s + 2) (by omega), eL (s + 3) (by omega)]
    rw [e2, eI (s + 4) (by omega)]
    exact q4
theorem jt_Td (A : jt_A h c) (t : jt_T h T) : jt_T (jd h V B l r n) T := jt_Tc A t (fun a ha => jd_I (by omega)) (fun a ha => jd_L (by omega)) rfl
def fls (T : Nat → Option sg_S) : List (Nat × sg_S) → Nat → Option sg_S
  | [] => T
  | p :: q => fls (fl T p.1 p.2) q
def jt_res (h : ja_H) (T : Nat → Option sg_S) (x : Option (Int32 × ja_H)) (q : sg_F) : Prop := ∃ h' c', x = some (q.1, h') ∧ jt_A h' c' ∧ jt_f1 h h' ∧ (q.1 = 0 → jt_T h' (fls T q.2))
theorem jt_step {k : Nat} (A : jt_A h c) (t : jt_T h T) (hr : sR V B σ) (hk : k < 1024) : ∃ h' c', r_Ju_flowTo (jd h V B l r n) 8 (nI k) = some h' ∧ jt_A h' c' ∧ jt_fr (jd h V B l r n) h' ∧ jt_T h' (fl T k σ) :=
  jt_flow (h := jd h V B l r n) A hk (jt_Td A t) (by rw [jd_V, jd_14]; exact hr)
theorem jcVs {x : Option ja_H} : jc_V x (fun h1 => some h1) = x := by
  cases x <;> rfl
theorem ju_28 (b : jv_B h) : r_Ju_goOn_28 (jd h V B l r n) 8 (nI k) = r_Ju_flowTo (jd h V B l r n) 8 (if h.2.1 15 5 = 6 then nI k + 1 + h.2.1 15 3 else nI k + pw_words (h.2.1 15)) := by
  have b' : jv_B (jd h V B l r n) := b
  simp only [r_Ju_goOn_28, r_Ju_goOn_61, jR_8_2 b', jI_15 b', jd_15, jk_15 b', w_goalFrom (jS_15 b'), w_words (jS_15 b'), jcI, jk_8 b', jcVs]
  split <;> rfl
theorem ju_go {d : Nat} (b : jv_B h) (hd : h.2.1 15 1 = nI d) (d11 : d < 11) : r_Ju_goOn (jd h V B l r n) 8 (nI k) = r_Ju_flowTo (jd h (if pw_getsD (h.2.1 15) = 0 then V else pu_f V d l) B l r n) 8 (if h.2.1 15 5 = 6 then nI k + 1 + h.2.1 15 3 else nI k + pw_words (h.2.1 15)) := by
  have b' : ∀ V, jv_B (jd h V B l r n) := fun _ => b
  simp only [r_Ju_goOn, jR_8_1 (b' _), jR_8_2 (b' _), jR_8_3 (b' _), jI_15 (b' _), jd_15, jk_15 (b' _), w_getsD (jS_15 (b' _)), jcI, hd, jk_10 (b' _), (ju_save b (show d < 80 by omega)).1, jcV, ju_28 b]
  by_cases q : pw_getsD (h.2.1 15) = 0
  · simp only [if_pos q]
  · simp only [if_neg q]
theorem jt_210 {V0 : Nat → pv_T} {k' : Nat} {x : Int32} (A : jt_A h c) (t : jt_T h T) (hr : sR V B σ) (hk : k' < 1024) (hx : x = nI k') (hg : r_Ju_goOn (jd h V0 B l r n) 8 (nI k) = r_Ju_flowTo (jd h V B l r n) 8 x) : jt_res h T (r_Ju_examineWord_210 (jd h V0 B l r n) 8 (nI k) 0) (0, [(k', σ)]) := by
  have b' : jv_B (jd h V0 B l r n) := A.1
  subst hx
  obtain ⟨h', c', e1, e2, e3, e4⟩ := jt_step (l := l) (r := r) (n := n) A t hr hk
  refine ⟨h', c', ?_, e2, jt_f1t jt_f1d (jt_f1r e3), fun _ => e4⟩
  simp only [r_Ju_examineWord_210, r_Ju_examineWord_220, if_true, jk_8 b', hg, e1, jcV]
theorem jt_bad {x : Option (Int32 × ja_H)} {f : Int32} (A : jt_A h c) (e : x = some (f, jd h V B l r n)) (f0 : ¬ f = 0) : jt_res h T x (f, []) :=
  ⟨jd h V B l r n, c, e, A, jt_f1d, fun q => absurd q f0⟩
theorem jt_210n {f : Int32} (f0 : ¬ f = 0) (A : jt_A h c) : jt_res h T (r_Ju_examineWord_210 (jd h V B l r n) 8 (nI k) f) (f, []) :=
  jt_bad (V := V) (B := B) (l := l) (r := r) (n := n) A (by simp only [r_Ju_examineWord_210, r_Ju_examineWord_220, if_neg f0]) f0
theorem jn_k1 : nI k + 1 = nI (k + 1) := lq_ad1 k
theorem pw_w1 {g : Nat → Int32} (e : ¬ g 5 = 7) : pw_words g = 1 := if_neg e
theorem jt_D {d : Nat} {q : Int32 × pv_T} (A : jt_A h c) (t : jt_T h T) (hr : sR V B σ) (hd : h.2.1 15 1 = nI d) (d11 : d < 11) (hs : h.2.1 15 5 = 1 ∨ h.2.1 15 5 = 3) (hk : q.1 = 0 → k + 1 < 1024) : jt_res h T (r_Ju_examineWord_210 (jd h V B q.2 r n) 8 (nI k) q.1) (sg_to (k + 1) (sg_gd (h.2.1 15) σ q)) := by
  have gd : pw_getsD (h.2.1 15) = 1 := by
    rcases hs with e | e <;> simp (decide := true) only [pw_getsD, e, reduceIte]
  have n6 : ¬ h.2.1 15 5 = 6 := by
    rcases hs with e | e <;> rw [e] <;> decide
  have n7 : ¬ h.2.1 15 5 = 7 := by
    rcases hs with e | e <;> rw [e] <;> decide
  have dd : (h.2.1 15 1).toNatClampNeg = d := by rw [hd, jn_clamp (by omega)]
  unfold sg_to
  rw [sg_gd_1, sg_gd_2, dd]
  by_cases z : q.1 = 0
  · rw [if_pos z, z]
    refine jt_210 A t (sR_set hr d11) (hk z) jn_k1 ?_
    rw [ju_go A.1 hd d11, gd, if_neg i10, if_neg n6, pw_w1 n7]
  · rw [if_neg z]
    exact jt_210n z A
theorem ju_stN (b : jv_B h) (hr : ¬ pj_reach (h.2.1 15) (h.2.1 8 7) l = 0) : r_Ju_examineStoring (jd h V B l r n) 8 = some (pj_reach (h.2.1 15) (h.2.1 8 7) l, jd h V B l r n) := by
  have b' : jv_B (jd h V B l r n) := b
  simp only [r_Ju_examineStoring, jR_8_3 b', jk_8 b', (ju_reach b).2, jcI, jlE, if_neg hr]
theorem ju_rdN (b : jv_B h) (hr : ¬ pj_reach (h.2.1 15) (h.2.1 8 7) r = 0) : r_Ju_examineReading (jd h V B l r n) 8 = some (pj_reach (h.2.1 15) (h.2.1 8 7) r, jd h V B l r n) := by
  have b' : jv_B (jd h V B l r n) := b
  simp only [r_Ju_examineReading, jR_8_4 b', jk_8 b', (ju_reach b).1, jcI, jlE, if_neg hr]
theorem pj_r3 {g : Nat → Int32} {len : Int32} {p : pv_T} (st : ¬ pw_stores g = 0) (e : pj_reach g len p = 0) : p.1 = 3 := by
  unfold pj_reach at e
  by_cases c1 : pn_ptr p = 0
  · rw [if_pos c1] at e
    exact absurd e (by decide)
  · rw [if_neg c1] at e
    by_cases c2 : p.1 = 2
    · rw [if_pos c2, if_neg st] at e
      exact absurd e (by decide)
    · unfold pn_ptr at c1
      rw [if_neg c2] at c1
      by_cases c3 : p.1 = 3
      · exact c3
      · rw [if_neg c3] at c1
        exact absurd rfl c1
theorem ju_store {z : Nat} (A : jt_A h c) (t : jt_T h T) (hr : sR V B σ) (w : gw (h.2.1 15)) (ok : sg_ok σ) (hl : l = sg_l (h.2.1 15) σ) (hrr : r = sg_r (h.2.1 15) σ) (hs : h.2.1 15 5 = 4 ∨ h.2.1 15 5 = 5) (hk : (sg_stv (h.2.1 15) (h.2.1 8 7) σ).1 = 0 → k + 1 < 1024) : jt_res h T (r_Ju_examineWord_174 (jd h V B l r n) 8 (nI k)) (sg_to (k + 1) (sg_stv (h.2.1 15) (h.2.1 8 7) σ)) := by
  have b := A.1
  have b' : jv_B (jd h V B l r n) := b
  obtain ⟨d, hd, d11⟩ := w.1
  have st : ¬ pw_stores (h.2.1 15) = 0 := by
    rcases hs with e | e <;> simp (decide := true) only [pw_stores, e, reduceIte]
  have gd : pw_getsD (h.2.1 15) = 0 := by
    rcases hs with e | e <;> simp (decide := true) only [pw_getsD, e, reduceIte]
  have n6 : ¬ h.2.1 15 5 = 6 := by
    rcases hs with e | e <;> rw [e] <;> decide
  have n7 : ¬ h.2.1 15 5 = 7 := by
    rcases hs with e | e <;> rw [e] <;> decide
  have go : ∀ (V : Nat → pv_T) (B : Nat → Int32) (l r n : pv_T), r_Ju_goOn (jd h V B l r n) 8 (nI k) = r_Ju_flowTo (jd h V B l r n) 8 (nI k + 1) := fun V B l r n => by
    rw [ju_go b hd d11, if_pos gd, if_neg n6, pw_w1 n7]
  simp only [r_Ju_examineWord_174, jk_8 b']
  unfold sg_to
  unfold sg_stv at hk ⊢
  rw [← hl, ← hrr] at hk ⊢
  by_cases c1 : pj_reach (h.2.1 15) (h.2.1 8 7) l = 0
  · simp only [if_pos c1] at hk ⊢
    have l3 : l.1 = 3 := pj_r3 st c1
    obtain ⟨z, hz, hz2⟩ := pw_size_n (h.2.1 15)
    have z8 : z ≤ 8 ∧ 0 < z := by omega
    obtain ⟨a1, a2, a3⟩ := sg_at_ok (hl ▸ sg_l_ok w ok) l3 hz z8.1 w.2.2.1 c1
    have hzc : (pw_size (h.2.1 15)).toNatClampNeg = z := by rw [hz, jn_clamp (by omega)]
    rw [hzc] at hk ⊢
    rw [ju_st b hz c1 a1 a2 z8.2]
    simp only [jcI, jlE]
    unfold pj_st
    by_cases c2 : h.2.1 15 5 = 5 ∧ pw_size (h.2.1 15) = 8 ∧ sg_at (h.2.1 15) l % 8 = 0
    · simp only [if_pos c2, if_true] at hk ⊢
      exact jt_210 A t (sR_kp hr (by omega)) (hk trivial) jn_k1 (go _ _ _ _ _)
    · simp only [if_neg c2] at hk ⊢
      by_cases c3 : pn_ptr r = 0
      · simp only [if_pos c3, if_true] at hk ⊢
        exact jt_210 A t (sR_st hr z8.2 a2) (hk trivial) jn_k1 (go _ _ _ _ _)
      · simp only [if_neg c3]
        exact jt_210n (by decide) A
  · simp only [if_neg c1, ju_stN b c1, jcI, jlE]
    exact jt_210n c1 A
theorem ju_read (A : jt_A h c) (t : jt_T h T) (hr : sR V B σ) (w : gw (h.2.1 15)) (ok : sg_ok σ) (hl : l = sg_l (h.2.1 15) σ) (hrr : r = sg_r (h.2.1 15) σ) (hs : h.2.1 15 5 = 3) (hk : (sg_rdv (h.2.1 15) (h.2.1 8 7) σ).1 = 0 → k + 1 < 1024) : jt_res h T (jc_I (r_Ju_examineReading (jd h V B l r n) 8) (fun v10 h9 => jl v10 (fun x11 => r_Ju_examineWord_210 h9 8 (nI k) x11))) (sg_to (k + 1) (sg_gd (h.2.1 15) σ (sg_rdv (h.2.1 15) (h.2.1 8 7) σ))) := by
  have b := A.1
  obtain ⟨d, hd, d11⟩ := w.1
  have e : ∃ q, q = sg_rdv (h.2.1 15) (h.2.1 8 7) σ ∧ r_Ju_examineReading (jd h V B l r n) 8 = some (q.1, jd h V B q.2 r n) := by
    refine ⟨_, rfl, ?_⟩
    unfold sg_rdv
    rw [← hl, ← hrr]
    by_cases c1 : pj_reach (h.2.1 15) (h.2.1 8 7) r = 0
    · simp only [if_pos c1]
      obtain ⟨z, hz, hz2⟩ := pw_size_n (h.2.1 15)
      have z8 : z ≤ 8 ∧ 0 < z := by omega
      have hzc : (pw_size (h.2.1 15)).toNatClampNeg = z := by rw [hz, jn_clamp (by omega)]
      have at3 : r.1 = 3 → Int64.toInt32 (r.2.1 + (h.2.1 15 3).toInt64 + 512) = nI (sg_at (h.2.1 15) r) ∧ sg_at (h.2.1 15) r + z ≤ 512 ∧ 0 < z := fun r3 => by
        obtain ⟨a1, a2, a3⟩ := sg_at_ok (hrr ▸ sg_r_ok w ok) r3 hz z8.1 w.2.2.1 c1
        exact ⟨a1, a2, z8.2⟩
      rw [ju_rd b hz z8.1 c1 at3]
      unfold pj_ret pj_rd
      by_cases c2 : r.1 = 3
      · obtain ⟨a1, a2, a3⟩ := at3 c2
        rw [if_pos c2, if_pos c2, sR_e hr (by omega), hzc, sR_rd hr z _ a2]
      · rw [if_neg c2, if_neg c2]
    · simp only [if_neg c1]
      exact ju_rdN b c1
  obtain ⟨q, q1, q2⟩ := e
  rw [← q1] at hk ⊢
  rw [q2, jcI, jlE]
  exact jt_D A t hr hd d11 (Or.inr hs) hk
theorem pw_goal (h0 : 0 ≤ (h.2.1 15 3).toInt) : nI k + 1 + h.2.1 15 3 = nI (k + 1 + (h.2.1 15 3).toNatClampNeg) := by
  have h1 : (0 : Int32) ≤ h.2.1 15 3 := Int32.le_iff_toInt_le.mpr h0
  obtain ⟨e, _⟩ := jn_of h1
  rw [jn_k1]
  conv => lhs; rw [e]
  rw [jn_add]
theorem pu_if {p : Prop} [Decidable p] {d : Nat} {x y : pv_T} : pu_f (if p then V else pu_f V d x) d y = pu_f V d y := by
  split
  · rfl
  · exact pu_up
theorem fls_app {a b : List (Nat × sg_S)} : ∀ T, fls T (a ++ b) = fls (fls T a) b := by
  induction a with
  | nil => intro T; rfl
  | cons p q ih => intro T; exact ih _
theorem ju_c49 {d : Nat} {V1 : Nat → pv_T} (A : jt_A h c) (t : jt_T h T) (hr : sR V B σ) (e1 : ∀ y, pu_f V1 d y = pu_f V d y) (hd : h.2.1 15 1 = nI d) (d11 : d < 11) (hl : l = sg_l (h.2.1 15) σ) (hrr : r = sg_r (h.2.1 15) σ) (hk : ∀ p ∈ sg_nar (h.2.1 15) (k + 1) σ (pw_opp (h.2.1 15)), p.1 < 1024) : jt_res h T (r_Ju_examineCondition_49 (jd h V1 B l r n) 8 (nI k)) (0, sg_nar (h.2.1 15) (k + 1) σ (pw_opp (h.2.1 15))) := by
  have b := A.1
  have b' : ∀ V n, jv_B (jd h V B l r n) := fun _ _ => b
  have dd : (h.2.1 15 1).toNatClampNeg = d := by rw [hd, jn_clamp (by omega)]
  simp only [r_Ju_examineCondition_49, r_Ju_examineCondition_70, jR_8_2 (b' _ _), jk_15 (b' _ _), w_opp (jS_15 (b' _ _)), jd_15, jcI, jk_8 (b' _ _), ju_nw b hd (show d < 80 by omega)]
  unfold sg_nar at hk ⊢
  rw [← hl, ← hrr, dd] at hk ⊢
  by_cases q : (pj_nw (h.2.1 15) l r (pw_opp (h.2.1 15))).1 = 0
  · simp only [if_pos q, if_true]
    exact ⟨_, c, rfl, A, jt_f1d, fun _ => jt_Td A t⟩
  · simp only [if_neg q, if_neg i10, e1] at hk ⊢
    obtain ⟨h', c', f1, f2, f3, f4⟩ := jt_step (l := l) (r := r) (n := (pj_nw (h.2.1 15) l r (pw_opp (h.2.1 15))).2) A t (sR_set hr d11 (v := (pj_nw (h.2.1 15) l r (pw_opp (h.2.1 15))).2)) (hk _ (List.mem_singleton.mpr rfl))
    rw [jn_k1, f1, jcV]
    exact ⟨h', c', rfl, f2, jt_f1t jt_f1d (jt_f1r f3), fun _ => f4⟩
theorem ju_cond (A : jt_A h c) (t : jt_T h T) (hr : sR V B σ) (w : gw (h.2.1 15)) (hl : l = sg_l (h.2.1 15) σ) (hrr : r = sg_r (h.2.1 15) σ) (hs : h.2.1 15 5 = 2) (hk : ∀ p ∈ (sg_cnd (h.2.1 15) k σ).2, p.1 < 1024) : jt_res h T (r_Ju_examineCondition (jd h V B l r n) 8 (nI k)) (sg_cnd (h.2.1 15) k σ) := by
  have b := A.1
  have b' : ∀ V n, jv_B (jd h V B l r n) := fun _ _ => b
  obtain ⟨d, hd, d11⟩ := w.1
  have dd : (h.2.1 15 1).toNatClampNeg = d := by rw [hd, jn_clamp (by omega)]
  simp only [r_Ju_examineCondition, r_Ju_examineCondition_20, jR_8_2 (b' _ _), jR_8_3 (b' _ _), jR_8_4 (b' _ _), jk_16 (b' _ _), jk_17 (b' _ _), v_ptr (jS_16 (b' _ _)), v_ptr (jS_17 (b' _ _)), jd_l, jd_r, jcI, jI_15 (b' _ _), jd_15, jk_8 (b' _ _), ju_nw b hd (show d < 80 by omega), jk_15 (b' _ _), w_goalFrom (jS_15 (b' _ _))]
  unfold sg_cnd at hk ⊢
  rw [← hl, ← hrr] at hk ⊢
  by_cases p1 : pn_ptr l = 0
  · by_cases p2 : pn_ptr r = 0
    · simp only [if_pos p1, if_pos p2] at hk ⊢
      by_cases q : (pj_nw (h.2.1 15) l r (h.2.1 15 6)).1 = 0
      · have e0 : sg_nar (h.2.1 15) (k + 1 + (h.2.1 15 3).toNatClampNeg) σ (h.2.1 15 6) = [] := by
          unfold sg_nar
          rw [← hl, ← hrr, if_pos q]
        rw [e0, List.nil_append] at hk ⊢
        simp only [if_pos q, if_true]
        exact ju_c49 A t hr (fun _ => rfl) hd d11 hl hrr hk
      · have e0 : sg_nar (h.2.1 15) (k + 1 + (h.2.1 15 3).toNatClampNeg) σ (h.2.1 15 6) = [(k + 1 + (h.2.1 15 3).toNatClampNeg, sg_set σ d (pj_nw (h.2.1 15) l r (h.2.1 15 6)).2)] := by
          unfold sg_nar
          rw [← hl, ← hrr, if_neg q, dd]
        rw [e0] at hk ⊢
        simp only [if_neg q, if_neg i10]
        obtain ⟨h', c', f1, f2, f3, f4⟩ := jt_step (l := l) (r := r) (n := (pj_nw (h.2.1 15) l r (h.2.1 15 6)).2) A t (sR_set hr d11 (v := (pj_nw (h.2.1 15) l r (h.2.1 15 6)).2)) (hk _ (List.mem_append_left _ (List.mem_singleton.mpr rfl)))
        rw [pw_goal (w.2.2.2.2.2 (Or.inl hs)), f1, jcV]
        have g15 : h'.2.1 15 = h.2.1 15 := (f3.1 15 (by omega)).trans jd_15
        have self : h' = jd h' (pu_f V d (pj_nw (h.2.1 15) l r (h.2.1 15 6)).2) B l r (pj_nw (h.2.1 15) l r (h.2.1 15 6)).2 := by
          have a1 : st_c h' 10 = pu_f V d (pj_nw (h.2.1 15) l r (h.2.1 15 6)).2 := by
            refine Eq.trans ?_ (jd_V (h := h) (B := B) (l := l) (r := r) (n := (pj_nw (h.2.1 15) l r (h.2.1 15 6)).2))
            funext i
            simp only [st_c]
            rw [f3.1 11 (by omega), f3.2.1 12 (by omega), f3.2.1 13 (by omega)]
          have a2 : h'.2.1 14 = B := (f3.1 14 (by omega)).trans jd_14
          have vv : ∀ o, o < 41 → jv_v h' o = jv_v (jd h (pu_f V d (pj_nw (h.2.1 15) l r (h.2.1 15 6)).2) B l r (pj_nw (h.2.1 15) l r (h.2.1 15 6)).2) o := fun o ho => by
            simp only [jv_v]
            rw [f3.1 o ho, f3.2.1 o ho]
          have a3 : jv_v h' 16 = l := (vv 16 (by omega)).trans jd_l
          have a4 : jv_v h' 17 = r := (vv 17 (by omega)).trans jd_r
          have a5 : jv_v h' 18 = (pj_nw (h.2.1 15) l r (h.2.1 15 6)).2 := (vv 18 (by omega)).trans jd_n
          have := jd_self (h := h')
          rw [a1, a2, a3, a4, a5] at this
          exact this.symm
        rw [self]
        have r2 := ju_c49 (n := (pj_nw (h.2.1 15) l r (h.2.1 15 6)).2) (V1 := pu_f V d (pj_nw (h.2.1 15) l r (h.2.1 15 6)).2) f2 f4 hr (fun _ => pu_up) (g15 ▸ hd) d11 (g15 ▸ hl) (g15 ▸ hrr) (by rw [g15]; exact fun p hp => hk p (List.mem_append_right _ hp))
        rw [g15] at r2
        obtain ⟨h2, c2, m1, m2, m3, m4⟩ := r2
        refine ⟨h2, c2, m1, m2, jt_f1t (jt_f1t jt_f1d (jt_f1r f3)) m3, fun z => ?_⟩
        exact m4 z
    · simp only [if_pos p1, if_neg p2]
      exact jt_bad (V := V) (B := B) (l := l) (r := r) (n := n) A rfl (by decide)
  · simp only [if_neg p1]
    exact jt_bad (V := V) (B := B) (l := l) (r := r) (n := n) A rfl (by decide)
def sg_65 (g : Nat → Int32) (z : Int64) (len : Int32) (k : Nat) (s : sg_S) : sg_F := if g 5 = 1 then sg_to (k + 1) (sg_gd g s (pj_ar g (sg_l g s) (sg_r g s))) else if g 5 = 2 then sg_cnd g k s else if g 5 = 3 then sg_to (k + 1) (sg_gd g s (sg_rdv g len s)) else if g 5 = 4 then sg_to (k + 1) (sg_stv g len s) else if g 5 = 5 then sg_to (k + 1) (sg_stv g len s) else if g 5 = 6 then (0, [(k + 1 + (g 3).toNatClampNeg, s)]) else if g 5 = 7 then (0, [(k + 2, sg_set s (g 1).toNatClampNeg (1, pw_wide g z, pw_wide g z))]) else (if (s.1 0).1 = 1 then 0 else 14, [])
theorem sg_one_e {g : Nat → Int32} {z : Int64} {len : Int32} : sg_one g z len k σ = if ¬ pw_usesOldD g = 0 ∧ (sg_l g σ).1 = 0 then (6, []) else if ¬ pw_usesS g = 0 ∧ (sg_r g σ).1 = 0 then (6, []) else sg_65 g z len k σ := rfl
theorem sg_to_m {k : Nat} {q : Int32 × sg_S} {N : Nat} (hk : ∀ p ∈ (sg_to k q).2, p.1 < N) : q.1 = 0 → k < N := by
  intro z
  unfold sg_to at hk
  rw [if_pos z] at hk
  exact hk _ (List.mem_singleton.mpr rfl)
theorem ju_65 {z : Int64} (A : jt_A h c) (t : jt_T h T) (hr : sR V B σ) (w : gw (h.2.1 15)) (ok : sg_ok σ) (hl : l = sg_l (h.2.1 15) σ) (hrr : r = sg_r (h.2.1 15) σ) (hk : ∀ p ∈ (sg_65 (h.2.1 15) z (h.2.1 8 7) k σ).2, p.1 < 1024) : jt_res h T (r_Ju_examineWord_65 (jd h V B l r n) 8 (nI k) z) (sg_65 (h.2.1 15) z (h.2.1 8 7) k σ) := by
  have b := A.1
  have b' : ∀ l r, jv_B (jd h V B l r n) := fun _ _ => b
  obtain ⟨d, hd, d11⟩ := w.1
  have dd : (h.2.1 15 1).toNatClampNeg = d := by rw [hd, jn_clamp (by omega)]
  simp only [r_Ju_examineWord_65, jlE, jR_8_2 (b' _ _), jI_15 (b' _ _), jd_15, jsw]
  unfold sg_65 at hk ⊢
  by_cases s1 : h.2.1 15 5 = 1
  · simp only [if_pos s1] at hk ⊢
    obtain ⟨r', e⟩ := ju_ar (V := V) (B := B) (l := l) (r := r) (n := n) b
    rw [jk_8 (b' _ _), e]
    unfold pj_ret
    rw [← hl, ← hrr] at hk ⊢
    rw [jcI]
    exact jt_D A t hr hd d11 (Or.inl s1) (fun q => sg_to_m hk (sg_gd_1.trans q))
  by_cases s2 : h.2.1 15 5 = 2
  · simp only [if_neg s1, if_pos s2] at hk ⊢
    rw [jk_8 (b' _ _)]
    obtain ⟨h', c', m1, m2, m3, m4⟩ := ju_cond (l := l) (r := r) (n := n) A t hr w hl hrr s2 hk
    exact ⟨h', c', by rw [m1]; rfl, m2, m3, m4⟩
  by_cases s3 : h.2.1 15 5 = 3
  · simp only [if_neg s1, if_neg s2, if_pos s3] at hk ⊢
    rw [jk_8 (b' _ _)]
    exact ju_read A t hr w ok hl hrr s3 (fun q => sg_to_m hk (sg_gd_1.trans q))
  by_cases s4 : h.2.1 15 5 = 4
  · simp only [if_neg s1, if_neg s2, if_neg s3, if_pos s4] at hk ⊢
    exact ju_store (z := 0) A t hr w ok hl hrr (Or.inl s4) (sg_to_m hk)
  by_cases s5 : h.2.1 15 5 = 5
  · simp only [if_neg s1, if_neg s2, if_neg s3, if_neg s4, if_pos s5] at hk ⊢
    exact ju_store (z := 0) A t hr w ok hl hrr (Or.inr s5) (sg_to_m hk)
  by_cases s6 : h.2.1 15 5 = 6
  · simp only [if_neg s1, if_neg s2, if_neg s3, if_neg s4, if_neg s5, if_pos s6] at hk ⊢
    refine jt_210 A t hr (hk _ (List.mem_singleton.mpr rfl)) (pw_goal (w.2.2.2.2.2 (Or.inr s6))) ?_
    rw [ju_go b hd d11, if_pos s6, if_pos (by simp (decide := true) only [pw_getsD, s6, reduceIte])]
  by_cases s7 : h.2.1 15 5 = 7
  · simp only [if_neg s1, if_neg s2, if_neg s3, if_neg s4, if_neg s5, if_neg s6, if_pos s7] at hk ⊢
    simp only [jR_8_3 (b' _ _), jk_15 (b' _ _), w_wide (jS_15 (b' _ _)), jcL, jk_16 (b' _ _), v_become (jS_16 (b' _ _)), jcV, jd_p16, jR_8_2 (b' _ _), jd_15]
    rw [dd] at hk ⊢
    have gd : pw_getsD (h.2.1 15) = 1 := by
      simp (decide := true) only [pw_getsD, s7, reduceIte]
    refine jt_210 A t (sR_set hr d11) (hk _ (List.mem_singleton.mpr rfl)) (k' := k + 2) (x := nI k + 2) (jn_add k 2) ?_
    rw [ju_go b hd d11, gd, if_neg i10, if_neg s6, show pw_words (h.2.1 15) = 2 from if_pos s7]
    rfl
  have s8 : h.2.1 15 5 = 8 := by
    rcases w.2.2.2.2.1 with e | e | e | e | e | e | e | e
    · exact absurd e s1
    · exact absurd e s2
    · exact absurd e s3
    · exact absurd e s4
    · exact absurd e s5
    · exact absurd e s6
    · exact absurd e s7
    · exact e
  simp only [if_neg s1, if_neg s2, if_neg s3, if_neg s4, if_neg s5, if_neg s6, if_neg s7, if_pos s8] at hk ⊢
  have ld := ju_load (V := V) (B := B) (l := l) (r := r) (n := n) b (show 0 < 80 by decide) (jS_16 b)
  rw [jd_p16] at ld
  simp only [jR_8_1 (b' _ _), jR_8_3 (b' _ _), jk_10 (b' _ _), show (0 : Int32) = nI 0 from rfl, ld, jcV, jI_16 (b' _ _), jdI0, r_Ju_examineWord_155]
  rw [sR_r hr (by decide)]
  by_cases q : (σ.1 0).1 = 1
  · simp only [if_pos q]
    exact ⟨_, c, rfl, A, jt_f1d, fun _ => jt_Td A t⟩
  · simp only [if_neg q]
    exact jt_bad A rfl (by decide)
theorem ju_lr {e : Nat} (b : jv_B h) (he : h.2.1 15 2 = nI e) (e11 : e < 11) : r_Ju_loadRight (jd h V B l r n) 8 = some (jd h V B l (if pw_usesS (h.2.1 15) = 0 then (1, (h.2.1 15 4).toInt64, (h.2.1 15 4).toInt64) else V e) n) := by
  have b' : ∀ l r, jv_B (jd h V B l r n) := fun _ _ => b
  have ld := ju_load (V := V) (B := B) (l := l) (r := r) (n := n) b (show e < 80 by omega) (jS_17 b)
  rw [jd_p17] at ld
  simp only [r_Ju_loadRight, r_Ju_loadRight_55, jR_8_1 (b' _ _), jR_8_2 (b' _ _), jR_8_4 (b' _ _), jk_15 (b' _ _), w_usesS (jS_15 (b' _ _)), jcI, jI_15 (b' _ _), jd_15, jk_17 (b' _ _), v_become (jS_17 (b' _ _)), jcV, jd_p17, he, jk_10 (b' _ _), ld]
  split <;> rfl
theorem ju_word {z : Int64} (A : jt_A h c) (t : jt_T h T) (hr : sR (st_c h 10) (h.2.1 14) σ) (w : gw (h.2.1 15)) (ok : sg_ok σ) (hk : ∀ p ∈ (sg_one (h.2.1 15) z (h.2.1 8 7) k σ).2, p.1 < 1024) : jt_res h T (r_Ju_examineWord h 8 (nI k) z) (sg_one (h.2.1 15) z (h.2.1 8 7) k σ) := by
  have b := A.1
  obtain ⟨d, hd, d11⟩ := w.1
  obtain ⟨e, he, e11⟩ := w.2.1
  have dd : (h.2.1 15 1).toNatClampNeg = d := by rw [hd, jn_clamp (by omega)]
  have ee : (h.2.1 15 2).toNatClampNeg = e := by rw [he, jn_clamp (by omega)]
  have key : ∀ (V : Nat → pv_T) (B : Nat → Int32) (l r n : pv_T), sR V B σ → jt_res h T (r_Ju_examineWord (jd h V B l r n) 8 (nI k) z) (sg_one (h.2.1 15) z (h.2.1 8 7) k σ) := by
    intro V B l r n hr
    have b' : ∀ l r, jv_B (jd h V B l r n) := fun _ _ => b
    have ld := ju_load (V := V) (B := B) (l := l) (r := r) (n := n) b (show d < 80 by omega) (jS_16 b)
    rw [jd_p16] at ld
    have hl : V d = sg_l (h.2.1 15) σ := by
      unfold sg_l
      rw [dd, sR_r hr d11]
    have hrr : (if pw_usesS (h.2.1 15) = 0 then (1, (h.2.1 15 4).toInt64, (h.2.1 15 4).toInt64) else V e) = sg_r (h.2.1 15) σ := by
      unfold sg_r
      rw [ee, sR_r hr e11]
    simp only [r_Ju_examineWord, r_Ju_examineWord_42, r_Ju_examineWord_62, jR_8_1 (b' _ _), jR_8_2 (b' _ _), jR_8_3 (b' _ _), jR_8_4 (b' _ _), jI_15 (b' _ _), jd_15, hd, jk_10 (b' _ _), ld, jcV, jk_8 (b' _ _), ju_lr b he e11, jk_15 (b' _ _), w_usesOldD (jS_15 (b' _ _)), w_usesS (jS_15 (b' _ _)), jcI, jI_16 (b' _ _), jI_17 (b' _ _), jdI0, jdJ0, hrr, hl]
    rw [sg_one_e] at hk ⊢
    have bad : jt_res h T (some (6, jd h V B (sg_l (h.2.1 15) σ) (sg_r (h.2.1 15) σ) n)) (6, []) := jt_bad A rfl (by decide)
    have X : ¬ (¬ pw_usesOldD (h.2.1 15) = 0 ∧ (sg_l (h.2.1 15) σ).1 = 0) → jt_res h T (if pw_usesS (h.2.1 15) = 0 then r_Ju_examineWord_65 (jd h V B (sg_l (h.2.1 15) σ) (sg_r (h.2.1 15) σ) n) 8 (nI k) z else if (sg_r (h.2.1 15) σ).1 = 0 then some (6, jd h V B (sg_l (h.2.1 15) σ) (sg_r (h.2.1 15) σ) n) else r_Ju_examineWord_65 (jd h V B (sg_l (h.2.1 15) σ) (sg_r (h.2.1 15) σ) n) 8 (nI k) z) (if ¬ pw_usesS (h.2.1 15) = 0 ∧ (sg_r (h.2.1 15) σ).1 = 0 then (6, []) else sg_65 (h.2.1 15) z (h.2.1 8 7) k σ) := by
      intro c1
      rw [if_neg c1] at hk
      by_cases c2 : pw_usesS (h.2.1 15) = 0
      · have c3 : ¬ (¬ pw_usesS (h.2.1 15) = 0 ∧ (sg_r (h.2.1 15) σ).1 = 0) := fun q => q.1 c2
        rw [if_neg c3] at hk
        rw [if_pos c2, if_neg c3]
        exact ju_65 A t hr w ok rfl rfl hk
      · rw [if_neg c2]
        by_cases c3 : (sg_r (h.2.1 15) σ).1 = 0
        · rw [if_pos c3, if_pos ⟨c2, c3⟩]
          exact bad
        · have c4 : ¬ (¬ pw_usesS (h.2.1 15) = 0 ∧ (sg_r (h.2.1 15) σ).1 = 0) := fun q => c3 q.2
          rw [if_neg c4] at hk
          rw [if_neg c3, if_neg c4]
          exact ju_65 A t hr w ok rfl rfl hk
    by_cases c1 : pw_usesOldD (h.2.1 15) = 0
    · rw [if_pos c1, if_neg (c := ¬ pw_usesOldD (h.2.1 15) = 0 ∧ _) (fun q => q.1 c1)]
      exact X (fun q => q.1 c1)
    · rw [if_neg c1]
      by_cases c2 : (sg_l (h.2.1 15) σ).1 = 0
      · rw [if_pos c2, if_pos ⟨c1, c2⟩]
        exact bad
      · rw [if_neg c2, if_neg (c := ¬ pw_usesOldD (h.2.1 15) = 0 ∧ _) (fun q => c2 q.2)]
        exact X (fun q => c2 q.2)
  have := key (st_c h 10) (h.2.1 14) (jv_v h 16) (jv_v h 17) (jv_v h 18) hr
  rw [jd_self] at this
  exact this
end FW
