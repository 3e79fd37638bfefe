section FL
variable {h g : ja_H} {c k n s : Nat} {T : Nat → Option sg_S} {V : Nat → pv_T} {B : Nat → Int32} {σ : sg_S} {W : Nat → Int64} {sec : Nat → Bool} {len : Int32}
def jt_f2 (h g : ja_H) : Prop := (∀ a, a < 41 → a ≠ 8 → (a < 10 ∨ 18 < a) → g.2.1 a = h.2.1 a) ∧ (∀ a, a < 41 → (a < 10 ∨ 18 < a) → g.2.2.1 a = h.2.2.1 a) ∧ (∀ a, a < 41 → a ≠ 9 → g.2.2.2.1 a = h.2.2.2.1 a) ∧ g.2.2.2.2 = h.2.2.2.2 ∧ ∀ b, b < 8 → g.2.1 8 b = h.2.1 8 b
theorem jt_f20 : jt_f2 h h := ⟨fun _ _ _ _ => rfl, fun _ _ _ => rfl, fun _ _ _ => rfl, rfl, fun _ _ => rfl⟩
theorem jt_f2t {f : ja_H} (a : jt_f2 h g) (b : jt_f2 g f) : jt_f2 h f := ⟨fun x q r s => (b.1 x q r s).trans (a.1 x q r s), fun x q r => (b.2.1 x q r).trans (a.2.1 x q r), fun x q r => (b.2.2.1 x q r).trans (a.2.2.1 x q r), b.2.2.2.1.trans a.2.2.2.1, fun x q => (b.2.2.2.2 x q).trans (a.2.2.2.2 x q)⟩
theorem jt_f2r (a : jt_f1 h g) : jt_f2 h g := ⟨fun x q _ s => a.1 x q (by omega), a.2.1, a.2.2.1, a.2.2.2, fun b _ => by rw [a.1 8 (by omega) (by omega)]⟩
theorem jt_f2s {a b : Nat} {x : Int32} (ha : a = 8 ∧ (b = 8 ∨ b = 9) ∨ 41 ≤ a) : jt_f2 h (ja_sI h a b x) := by
  refine ⟨fun i h1 h2 h3 => ?_, fun _ _ _ => rfl, fun _ _ _ => rfl, rfl, fun i h1 => ?_⟩
  · funext j
    rw [ja_rI, if_neg (by omega)]
  · rw [ja_rI, if_neg (by omega)]
theorem jt_f2w : jt_f2 h (st_w h 10 V B) := ⟨fun a _ _ q => st_wIo (by omega) (by omega), fun a _ q => st_wLo (by omega) (by omega), fun _ _ _ => rfl, rfl, fun b _ => by rw [st_wIo (by omega) (by omega)]⟩
theorem jt_f2q {w : Int64} : jt_f2 h (jw_t h 15 w) := by
  refine ⟨fun i h1 h2 h3 => ?_, fun _ _ _ => rfl, fun _ _ _ => rfl, rfl, fun i h1 => ?_⟩
  · funext j
    unfold jw_t
    rw [ja_oIr, if_neg (by omega)]
  · unfold jw_t
    rw [ja_oIr, if_neg (by omega)]
theorem jt_TI {a b : Nat} {x : Int32} (A : jt_A h c) (t : jt_T h T) (ha : a < 41) : jt_T (ja_sI h a b x) T := jt_Tc A t (fun i hi => by
  funext j
  rw [ja_rI, if_neg (by omega)]) (fun i hi => rfl) rfl
theorem jt_Tw (A : jt_A h c) (t : jt_T h T) : jt_T (st_w h 10 V B) T := jt_Tc A t (fun i hi => st_wIo (by omega) (by omega)) (fun i hi => st_wLo (by omega) (by omega)) rfl
theorem jt_Tq {w : Int64} (A : jt_A h c) (t : jt_T h T) : jt_T (jw_t h 15 w) T := jt_Tc A t (fun i hi => by
  funext j
  unfold jw_t
  rw [ja_oIr, if_neg (by omega)]) (fun i hi => rfl) rfl
def jt_Z (h : ja_H) (j : Nat) : Prop := ∀ k, k < j → h.2.2.2.1 9 k = none ∨ ∃ s, h.2.2.2.1 9 k = some s ∧ h.2.1 s 4 = 0
theorem ju_b22 : ∀ (t : Nat) (h : ja_H) (j : Nat), jt_A h c → jt_Z h j → j ≤ 1024 → 1024 - j < t → ∃ h', jt_A h' c ∧ jt_Z h' 1024 ∧ jt_f2 h h' ∧ h'.2.1 8 = h.2.1 8 ∧ r_Ju_begin_22 t h 8 (nI j) = jc_V (r_St_begin h' 10) (fun h2 => r_Ju_flowTo h2 8 0) := by
  intro t
  induction t with
  | zero => intro h j _ _ _ ht; omega
  | succ t ih =>
    intro h j A Z hj ht
    have b := A.1
    have e1 : ((1024 : Int32) ≤ nI j) = (1024 ≤ j) := propext (jn_le (a := 1024) (by omega) (by omega))
    show ∃ h', _ ∧ _ ∧ _ ∧ _ ∧ q_Ju_begin_22 (r_Ju_begin_22 t) h 8 (nI j) = _
    simp only [q_Ju_begin_22, r_Ju_begin_48, e1]
    by_cases q : 1024 ≤ j
    · have j1 : j = 1024 := by omega
      subst j1
      refine ⟨h, A, Z, jt_f20, rfl, ?_⟩
      rw [if_pos q, jR_8_1 b, jk_10 b]
      cases z : r_St_begin h 10 with
      | none => rfl
      | some h2 =>
        show jk h2 8 5 (jc_V (r_Ju_flowTo h2 8 0) fun h3 => some h3) = r_Ju_flowTo h2 8 0
        obtain ⟨V, B, e, _⟩ := st_begin (st_10 b)
        rw [e] at z
        cases z
        rw [jcVs, jkE (h := st_w h 10 V B) (jS_8 b)]
    · have hk : j < 1024 := by omega
      rw [if_neg q, jR_8_0 b, jt_N b hk]
      by_cases z : h.2.2.2.1 9 j = none
      · rw [if_pos z, jlE, lq_ad1]
        refine ih h (j + 1) A (fun k hk' => ?_) (by omega) (by omega)
        by_cases kj : k = j
        · exact Or.inl (kj ▸ z)
        · exact Z k (by omega)
      · rw [if_neg z]
        cases y : h.2.2.2.1 9 j with
        | none => exact absurd y z
        | some s =>
          obtain ⟨s1, s2, s3⟩ := jt_s A hk y
          simp only [jR_8_0 b, jt_E b hk y]
          unfold jp_Z
          rw [if_pos ⟨s3.1, Or.inl rfl⟩]
          simp only [jlE, lq_ad1]
          have A' : jt_A (ja_sI h s 4 0) c := A
          obtain ⟨h', a1, a2, a3, a4, a5⟩ := ih (ja_sI h s 4 0) (j + 1) A' (fun k hk' => by
            show h.2.2.2.1 9 k = none ∨ ∃ s', h.2.2.2.1 9 k = some s' ∧ (ja_sI h s 4 0).2.1 s' 4 = 0
            by_cases kj : k = j
            · subst kj
              exact Or.inr ⟨s, y, by rw [ja_rI, if_pos ⟨rfl, rfl⟩]⟩
            · rcases Z k (by omega) with w | ⟨s', w1, w2⟩
              · exact Or.inl w
              · refine Or.inr ⟨s', w1, ?_⟩
                rw [ja_rI]
                split
                · rfl
                · exact w2) (by omega) (by omega)
          refine ⟨h', a1, a2, jt_f2t (jt_f2s (Or.inr s1)) a3, a4.trans ?_, a5⟩
          funext i
          rw [ja_rI, if_neg (by omega)]
def pe_0 : Nat → Option sg_S := fun k => if k = 0 then some sg_b else none
theorem ju_begin {x y : Int32} (A : jt_A h c) : ∃ h' c', r_Ju_begin h 8 x y = some h' ∧ jt_A h' c' ∧ jt_T h' pe_0 ∧ (∀ a, a < 41 → a ≠ 8 → (a < 10 ∨ 18 < a) → h'.2.1 a = h.2.1 a) ∧ (∀ a, a < 41 → (a < 10 ∨ 18 < a) → h'.2.2.1 a = h.2.2.1 a) ∧ (∀ a, a < 41 → a ≠ 9 → h'.2.2.2.1 a = h.2.2.2.1 a) ∧ h'.2.2.2.2 = h.2.2.2.2 ∧ h'.2.1 8 6 = x ∧ h'.2.1 8 7 = y ∧ h'.2.1 8 8 = 0 ∧ h'.2.1 8 9 = -1 := by
  have b : ∀ {g : ja_H} {i : Nat} {x : Int32}, jv_B g → jv_B (ja_sI g 8 i x) := fun q => q
  have b0 := A.1
  have b1 := b (i := 6) (x := x) b0
  have b2 := b (i := 7) (x := y) b1
  have b3 := b (i := 8) (x := 0) b2
  unfold r_Ju_begin
  rw [jpI_8 b0, jpI_8 b1, jpI_8 b2, jpI_8 b3, jlE]
  have A4 : jt_A (ja_sI (ja_sI (ja_sI (ja_sI h 8 6 x) 8 7 y) 8 8 0) 8 9 (-1)) c := A
  obtain ⟨h', a1, a2, a3, a4, a5⟩ := ju_b22 ja_fu _ 0 A4 (fun k hk => by omega) (by omega) (by rw [ja_fu_eq]; decide)
  have a5' : r_Ju_begin_22 ja_fu (ja_sI (ja_sI (ja_sI (ja_sI h 8 6 x) 8 7 y) 8 8 0) 8 9 (-1)) 8 0 = _ := a5
  rw [a5']
  obtain ⟨V, B, e1, hV, hB⟩ := st_begin (st_10 a1.1)
  rw [e1, jcV]
  have AW : jt_A (st_w h' 10 V B) c := a1
  have t0 : jt_T (st_w h' 10 V B) (fun _ => none) := fun k hk => Or.inl ⟨rfl, by
    rcases a2 k hk with w | ⟨s, w1, w2⟩
    · exact Or.inl w
    · refine Or.inr ⟨s, w1, ?_⟩
      have := (jt_s a1 hk w1).1
      rw [st_wIo (by omega) (by omega)]
      exact w2⟩
  have r0 : sR (st_c (st_w h' 10 V B) 10) ((st_w h' 10 V B).2.1 14) sg_b := by
    rw [st_wc, show (st_w h' 10 V B).2.1 14 = B from st_wb (s := 10)]
    exact sR_b hV hB
  obtain ⟨h2, c2, f1, f2, f3, f4⟩ := jt_flow AW (show 0 < 1024 by decide) t0 r0
  have i8 : ∀ i, h2.2.1 8 i = (ja_sI (ja_sI (ja_sI (ja_sI h 8 6 x) 8 7 y) 8 8 0) 8 9 (-1)).2.1 8 i := fun i => by
    rw [f3.1 8 (by omega), st_wIo (by omega) (by omega), a4]
  have fr := jt_f2t (jt_f2t a3 (jt_f2w (V := V) (B := B))) (jt_f2r (jt_f1r f3))
  refine ⟨h2, c2, f1, f2, ?_, fun a p1 p2 p3 => ?_, fun a p1 p3 => ?_, fun a p1 p2 => ?_, fr.2.2.2.1, ?_, ?_, ?_, ?_⟩
  · have : fl (fun _ => none) 0 sg_b = pe_0 := by
      funext k
      rfl
    rw [← this]
    exact f4
  · rw [fr.1 a p1 p2 p3]
    funext i
    simp only [ja_rI]
    rw [if_neg (by omega), if_neg (by omega), if_neg (by omega), if_neg (by omega)]
  · exact fr.2.1 a p1 p3
  · exact fr.2.2.1 a p1 p2
  · rw [i8]
    simp [ja_rI]
  · rw [i8]
    simp [ja_rI]
  · rw [i8]
    simp [ja_rI]
  · rw [i8]
    simp [ja_rI]
theorem ju_is (A : jt_A h c) (t : jt_T h T) (hn : h.2.1 8 6 = nI n) (n1 : n ≤ 1024) (hk : k < n) : r_Ju_isComeTo h 8 (nI k) = some (if T k = none then 0 else 1, h) := by
  have b := A.1
  have e1 : (nI n ≤ nI k) = (n ≤ k) := propext (jn_le (by omega) (by omega))
  have e2 : ((1024 : Int32) ≤ nI k) = (1024 ≤ k) := propext (jn_le (a := 1024) (by omega) (by omega))
  have hk' : k < 1024 := by omega
  simp only [r_Ju_isComeTo, r_Ju_isComeTo_44, r_Ju_isComeTo_45, jI_8 b, hn, e1, e2, jR_8_0 b, jt_N b hk', jb0, jb1]
  rw [if_neg (jn_neg (by omega)), if_neg (by omega), if_neg (by omega)]
  rcases t k hk' with q | ⟨s, σ, q1, q2, q3, q4⟩
  · rw [if_pos q.1]
    rcases q.2 with w | ⟨s, w1, w2⟩
    · rw [if_pos w]
    · rw [if_neg (by rw [w1]; exact nofun), jt_E b hk' w1, jfI (jt_s A hk' w1).2.2.1, if_pos w2]
  · rw [if_neg (by rw [q1]; exact nofun), jt_E b hk' q1, jfI (jt_s A hk' q1).2.2.1, q2, if_neg i10, q3, if_neg nofun]
def jq_F (W : Nat → Int64) (n : Nat) (sec : Nat → Bool) : Prop := ∀ k, k < n → sec k = false → gw (jw_f (W k)) ∧ ∀ z len σ p, p ∈ (sg_one (jw_f (W k)) z len k σ).2 → p.1 < n ∧ sec p.1 = false
def jq_T (n : Nat) (sec : Nat → Bool) (T : Nat → Option sg_S) : Prop := ∀ k σ, T k = some σ → k < n ∧ sec k = false ∧ sg_ok σ
theorem fl_at {k j : Nat} : fl T k σ j = if j = k then some (fl_c (T k) σ) else T j := rfl
theorem fl_q (q : jq_T n sec T) (hk : k < n) (hs : sec k = false) (ok : sg_ok σ) : jq_T n sec (fl T k σ) := by
  intro j τ e
  rw [fl_at] at e
  by_cases z : j = k
  · rw [if_pos z] at e
    cases e
    subst z
    refine ⟨hk, hs, ?_⟩
    cases y : T j with
    | none => exact ok
    | some τ => exact sg_j_ok (q j τ y).2.2 ok
  · rw [if_neg z] at e
    exact q j τ e
theorem fls_q : ∀ (l : List (Nat × sg_S)) (T : Nat → Option sg_S), jq_T n sec T → (∀ p ∈ l, p.1 < n ∧ sec p.1 = false ∧ sg_ok p.2) → jq_T n sec (fls T l) := by
  intro l
  induction l with
  | nil => intro T q _; exact q
  | cons p l ih =>
    intro T q hp
    have := hp p List.mem_cons_self
    exact ih _ (fl_q q this.1 this.2.1 this.2.2) (fun x hx => hp x (List.mem_cons_of_mem _ hx))
theorem fls_ne : ∀ (l : List (Nat × sg_S)) (T : Nat → Option sg_S) (j : Nat), (∀ p ∈ l, j < p.1) → fls T l j = T j := by
  intro l
  induction l with
  | nil => intro T j _; rfl
  | cons p l ih =>
    intro T j hp
    have := hp p List.mem_cons_self
    show fls (fl T p.1 p.2) l j = T j
    rw [ih _ j (fun x hx => hp x (List.mem_cons_of_mem _ hx)), fl_at, if_neg (by omega)]
def pe (W : Nat → Int64) (n : Nat) (len : Int32) : Nat → Nat → (Nat → Option sg_S) → Int32 → Int32 × Int32 × (Nat → Option sg_S) × Int32
  | 0, _, T, q => (0, -1, T, q)
  | f + 1, k, T, q => match T k with
    | none => pe W n len f (k + 1) T q
    | some σ => if (sg_one (jw_f (W k)) (pf_nx W n (k + 1)) len k σ).1 = 0 then pe W n len f (k + 1) (fls T (sg_one (jw_f (W k)) (pf_nx W n (k + 1)) len k σ).2) (q + 1) else ((sg_one (jw_f (W k)) (pf_nx W n (k + 1)) len k σ).1, nI k, T, q + 1)
theorem pe_n {f : Nat} {q : Int32} (e : T k = none) : pe W n len (f + 1) k T q = pe W n len f (k + 1) T q := by
  show (match T k with | none => _ | some σ => _) = _
  rw [e]
theorem pe_s {f : Nat} {q : Int32} (e : T k = some σ) : pe W n len (f + 1) k T q = if (sg_one (jw_f (W k)) (pf_nx W n (k + 1)) len k σ).1 = 0 then pe W n len f (k + 1) (fls T (sg_one (jw_f (W k)) (pf_nx W n (k + 1)) len k σ).2) (q + 1) else ((sg_one (jw_f (W k)) (pf_nx W n (k + 1)) len k σ).1, nI k, T, q + 1) := by
  show (match T k with | none => _ | some σ => _) = _
  rw [e]
theorem gw_t {w : Int64} {b : Nat} (hb : b < 7) : (jw_t h 15 w).2.1 15 b = jw_f w b := by
  unfold jw_t
  rw [ja_oI_at, if_pos hb]
theorem sg_one_c {g g' : Nat → Int32} {z : Int64} (e : ∀ b, b < 7 → g b = g' b) : sg_one g z len k σ = sg_one g' z len k σ ∧ (gw g' → gw g) := by
  have a : ∃ F : Int32 → Int32 → Int32 → Int32 → Int32 → Int32 → Int32 → sg_F × Prop, ∀ f : Nat → Int32, (sg_one f z len k σ, gw f) = F (f 0) (f 1) (f 2) (f 3) (f 4) (f 5) (f 6) := ⟨fun a0 a1 a2 a3 a4 a5 a6 => (sg_one (fun b => match b with | 0 => a0 | 1 => a1 | 2 => a2 | 3 => a3 | 4 => a4 | 5 => a5 | _ => a6) z len k σ, gw (fun b => match b with | 0 => a0 | 1 => a1 | 2 => a2 | 3 => a3 | 4 => a4 | 5 => a5 | _ => a6)), fun f => rfl⟩
  obtain ⟨F, hF⟩ := a
  have : (sg_one g z len k σ, gw g) = (sg_one g' z len k σ, gw g') := by
    rw [hF g, hF g', e 0 (by decide), e 1 (by decide), e 2 (by decide), e 3 (by decide), e 4 (by decide), e 5 (by decide), e 6 (by decide)]
  have e1 := congrArg Prod.fst this
  have e2 : gw g = gw g' := congrArg Prod.snd this
  exact ⟨e1, fun q => e2 ▸ q⟩
theorem ju_loop (hn : n ≤ 1024) (F : jq_F W n sec) : ∀ (t : Nat) (h : ja_H) (c k : Nat) (T : Nat → Option sg_S) (q : Int32), jt_A h c → jt_T h T → h.2.1 1 1 = nI n → h.2.1 8 6 = nI n → h.2.1 8 7 = len → h.2.1 8 8 = q → h.2.1 8 9 = -1 → (∀ k, k < n → h.2.2.1 2 k = W k) → jq_T n sec T → k ≤ n → n - k < t → ∃ h' c', r_Ju_examine_11 t h 8 1 (nI k) = some ((pe W n len (n - k) k T q).1, h') ∧ jt_A h' c' ∧ jt_f2 h h' ∧ h'.2.1 8 8 = (pe W n len (n - k) k T q).2.2.2 ∧ h'.2.1 8 9 = (pe W n len (n - k) k T q).2.1 ∧ ((pe W n len (n - k) k T q).1 = 0 → jt_T h' (pe W n len (n - k) k T q).2.2.1) := by
  intro t
  induction t with
  | zero => intro h c k T q _ _ _ _ _ _ _ _ _ _ ht; omega
  | succ t ih =>
    intro h c k T q A tt h11 h86 h87 h88 h89 hW Q hk ht
    have b := A.1
    have e1 : (nI n ≤ nI k) = (n ≤ k) := propext (jn_le (by omega) (by omega))
    show ∃ h' c', q_Ju_examine_11 (r_Ju_examine_11 t) h 8 1 (nI k) = _ ∧ _
    simp only [q_Ju_examine_11, r_Ju_examine_89, jI_8 b, h86, e1, jk_8 b, jlE, lq_ad1]
    by_cases kn : n ≤ k
    · rw [if_pos kn, show n - k = 0 by omega]
      exact ⟨h, c, rfl, A, jt_f20, h88, h89, fun _ => tt⟩
    · have kn' : k < n := by omega
      have k1 : k < 1024 := by omega
      rw [if_neg kn, ju_is A tt h86 hn kn', jcI, show n - k = n - (k + 1) + 1 by omega]
      cases y : T k with
      | none =>
        rw [if_pos rfl, if_pos rfl, pe_n y]
        exact ih h c (k + 1) T q A tt h11 h86 h87 h88 h89 hW Q (by omega) (by omega)
      | some σ =>
        obtain ⟨_, hsec, ok⟩ := Q k σ y
        rw [if_neg (show ¬ (if some σ = none then (0 : Int32) else 1) = 0 by rw [if_neg nofun]; exact i10), pe_s y, jI_8 b, jpI_8 b]
        obtain ⟨s, τ, m1, m2, m3, m4⟩ : ∃ s τ, h.2.2.2.1 9 k = some s ∧ h.2.1 s 4 = 1 ∧ T k = some τ ∧ sR (st_c h s) (h.2.1 (s + 4)) τ := by
          rcases tt k k1 with w | w
          · rw [y] at w
            exact absurd w.1 nofun
          · exact w
        rw [y] at m3
        cases m3
        obtain ⟨s1, s2, s3⟩ := jt_s A k1 m1
        have b1 : jv_B (ja_sI h 8 8 (h.2.1 8 8 + 1)) := b
        have A1 : jt_A (ja_sI h 8 8 (h.2.1 8 8 + 1)) c := A
        have t1 : jt_T (ja_sI h 8 8 (h.2.1 8 8 + 1)) T := jt_TI A tt (by decide)
        have s31 : st_ok (ja_sI h 8 8 (h.2.1 8 8 + 1)) s := s3
        have m11 : (ja_sI h 8 8 (h.2.1 8 8 + 1)).2.2.2.1 9 k = some s := m1
        rw [jR_8_1 b1, jR_8_0 b1, jt_E b1 k1 m11, jk_10 b1]
        obtain ⟨V, B, e2, hV, hB⟩ := st_copy (st_10 b1) s31 (Or.inl (by omega))
        rw [e2, jcV]
        have b2 : jv_B (st_w (ja_sI h 8 8 (h.2.1 8 8 + 1)) 10 V B) := b
        have A2 : jt_A (st_w (ja_sI h 8 8 (h.2.1 8 8 + 1)) 10 V B) c := A
        have t2 : jt_T (st_w (ja_sI h 8 8 (h.2.1 8 8 + 1)) 10 V B) T := jt_Tw A1 t1
        have h2 : ∃ g2, g2 = st_w (ja_sI h 8 8 (h.2.1 8 8 + 1)) 10 V B := ⟨_, rfl⟩
        obtain ⟨g2, hg2⟩ := h2
        have f02 : jt_f2 h g2 := by
          rw [hg2]
          exact jt_f2t (jt_f2s (Or.inl ⟨rfl, Or.inl rfl⟩)) jt_f2w
        have i8 : ∀ i, g2.2.1 8 i = if i = 8 then h.2.1 8 8 + 1 else h.2.1 8 i := fun i => by
          rw [hg2, st_wIo (by omega) (by omega), ja_rI]
          by_cases z : i = 8
          · rw [if_pos z, if_pos ⟨rfl, z⟩]
          · rw [if_neg z, if_neg (fun w => z w.2)]
        have r2 : sR (st_c g2 10) (g2.2.1 14) σ := by
          rw [hg2, st_wc, show (st_w (ja_sI h 8 8 (h.2.1 8 8 + 1)) 10 V B).2.1 14 = B from st_wb (s := 10)]
          refine sR_congr m4 (fun i hi => ?_) (fun e he => ?_)
          · rw [hV i hi]
            show ((ja_sI h 8 8 (h.2.1 8 8 + 1)).2.1 (s + 1) i, _, _) = (h.2.1 (s + 1) i, _, _)
            rw [ja_rI, if_neg (by omega)]
            rfl
          · rw [hB e he, ja_rI, if_neg (by omega)]
        rw [← hg2] at b2 A2 t2 ⊢
        have l2 : ∀ j, g2.2.2.1 2 j = h.2.2.1 2 j := fun j => by rw [f02.2.1 2 (by omega) (by omega)]
        have n2 : g2.2.1 1 1 = nI n := by
          rw [f02.1 1 (by omega) (by omega) (by omega)]
          exact h11
        rw [jR_8_2 b2, jk_1 b2, w_at b2 n2 hn (by omega), if_pos kn', jcL, jk_15 b2, w_take (jS_15 b2), jcV, l2, hW k kn']
        have b3 : jv_B (jw_t g2 15 (W k)) := b2
        have A3 : jt_A (jw_t g2 15 (W k)) c := A2
        have t3 := jt_Tq (w := W k) A2 t2
        have f23 : jt_f2 g2 (jw_t g2 15 (W k)) := jt_f2q
        have n3 : (jw_t g2 15 (W k)).2.1 1 1 = nI n := by
          rw [f23.1 1 (by omega) (by omega) (by omega)]
          exact n2
        have nx : (if k + 1 < n then (jw_t g2 15 (W k)).2.2.1 2 (k + 1) else 0) = pf_nx W n (k + 1) := by
          unfold pf_nx
          by_cases z : k + 1 < n
          · rw [if_pos z, if_pos z, f23.2.1 2 (by omega) (by omega), l2, hW _ z]
          · rw [if_neg z, if_neg z]
        rw [jk_1 b3, w_at b3 n3 hn (by omega), nx, jcL, jk_8 b3]
        have r3 : sR (st_c (jw_t g2 15 (W k)) 10) ((jw_t g2 15 (W k)).2.1 14) σ := by
          have w1 : st_c (jw_t g2 15 (W k)) 10 = st_c g2 10 := by
            funext i
            show ((jw_t g2 15 (W k)).2.1 11 i, _, _) = (g2.2.1 11 i, _, _)
            unfold jw_t
            rw [ja_oIr, if_neg (by decide)]
            rfl
          have w2 : (jw_t g2 15 (W k)).2.1 14 = g2.2.1 14 := by
            funext i
            unfold jw_t
            rw [ja_oIr, if_neg (by decide)]
          rw [w1, w2]
          exact r2
        have len3 : (jw_t g2 15 (W k)).2.1 8 7 = len := by
          rw [f23.2.2.2.2 7 (by decide), i8, if_neg (by decide)]
          exact h87
        have cc := fun z => sg_one_c (k := k) (σ := σ) (len := len) (z := z) (g := (jw_t g2 15 (W k)).2.1 15) (g' := jw_f (W k)) (fun b hb => gw_t hb)
        obtain ⟨Fw, Fp⟩ := F k kn' hsec
        have w3 : gw ((jw_t g2 15 (W k)).2.1 15) := (cc 0).2 Fw
        have res := ju_word (z := pf_nx W n (k + 1)) (k := k) A3 t3 r3 w3 ok (by
          rw [len3, (cc _).1]
          exact fun p hp => Nat.lt_of_lt_of_le (Fp _ _ _ p hp).1 hn)
        rw [len3, (cc _).1] at res
        obtain ⟨h4, c4, m1, m2, m3, m4⟩ := res
        rw [m1, jcI]
        have f34 := jt_f2r m3
        have f04 := jt_f2t (jt_f2t f02 f23) f34
        have i84 : ∀ i, h4.2.1 8 i = if i = 8 then q + 1 else h.2.1 8 i := fun i => by
          rw [m3.1 8 (by omega) (by omega)]
          have : (jw_t g2 15 (W k)).2.1 8 i = g2.2.1 8 i := by
            unfold jw_t
            rw [ja_oIr, if_neg (by decide)]
          rw [this, i8, h88]
        by_cases z : (sg_one (jw_f (W k)) (pf_nx W n (k + 1)) len k σ).1 = 0
        · simp only [if_pos z]
          have Q4 : jq_T n sec (fls T (sg_one (jw_f (W k)) (pf_nx W n (k + 1)) len k σ).2) := fls_q _ _ Q (fun p hp => ⟨(Fp _ _ _ p hp).1, (Fp _ _ _ p hp).2, sg_one_ok Fw ok p hp⟩)
          obtain ⟨h5, c5, u1, u2, u3, u4, u5, u6⟩ := ih h4 c4 (k + 1) _ (q + 1) m2 (m4 z) (by rw [f04.1 1 (by omega) (by omega) (by omega)]; exact h11) (by rw [i84, if_neg (by decide)]; exact h86) (by rw [i84, if_neg (by decide)]; exact h87) (by rw [i84, if_pos rfl]) (by rw [i84, if_neg (by decide)]; exact h89) (fun j hj => by rw [f04.2.1 2 (by omega) (by omega)]; exact hW j hj) Q4 (by omega) (by omega)
          exact ⟨h5, c5, u1, u2, jt_f2t f04 u3, u4, u5, u6⟩
        · simp only [if_neg z, jpI_8 m2.1]
          refine ⟨_, c4, rfl, m2, jt_f2t f04 (jt_f2s (Or.inl ⟨rfl, Or.inr rfl⟩)), ?_, ?_, fun w => absurd w z⟩
          · rw [ja_rI, if_neg (by decide), i84, if_pos rfl]
          · rw [ja_rI, if_pos ⟨rfl, rfl⟩]
theorem ju_examine {m : Int32} (A : jt_A h c) (h11 : h.2.1 1 1 = nI n) (hn : n ≤ 1024) (n0 : 0 < n) (hW : ∀ k, k < n → h.2.2.1 2 k = W k) (s0 : sec 0 = false) (F : jq_F W n sec) : ∃ h' c', r_Ju_examine h 8 1 m = some ((pe W n m n 0 pe_0 0).1, h') ∧ jt_A h' c' ∧ (∀ a, a < 41 → a ≠ 8 → (a < 10 ∨ 18 < a) → h'.2.1 a = h.2.1 a) ∧ (∀ a, a < 41 → (a < 10 ∨ 18 < a) → h'.2.2.1 a = h.2.2.1 a) ∧ (∀ a, a < 41 → a ≠ 9 → h'.2.2.2.1 a = h.2.2.2.1 a) ∧ h'.2.2.2.2 = h.2.2.2.2 ∧ h'.2.1 8 6 = nI n ∧ h'.2.1 8 8 = (pe W n m n 0 pe_0 0).2.2.2 ∧ h'.2.1 8 9 = (pe W n m n 0 pe_0 0).2.1 ∧ ((pe W n m n 0 pe_0 0).1 = 0 → jt_T h' (pe W n m n 0 pe_0 0).2.2.1) := by
  have b := A.1
  obtain ⟨h1, c1, e1, e2, e3, e4, e5, e6, e7, e8, e9, e10, e11⟩ := ju_begin (x := h.2.1 1 1) (y := m) A
  simp only [r_Ju_examine, jI_1 b, jk_8 b, e1, jcV, jlE]
  have Q0 : jq_T n sec pe_0 := fun k σ e => by
    unfold pe_0 at e
    by_cases z : k = 0
    · rw [if_pos z] at e
      cases e
      subst z
      exact ⟨n0, s0, sg_b_ok⟩
    · rw [if_neg z] at e
      cases e
  obtain ⟨h2, c2, u1, u2, u3, u4, u5, u6⟩ := ju_loop (len := m) hn F ja_fu h1 c1 0 pe_0 0 e2 e3 (by rw [e4 1 (by omega) (by omega) (by omega)]; exact h11) (e8.trans h11) e9 e10 e11 (fun j hj => by rw [e5 2 (by omega) (by omega)]; exact hW j hj) Q0 (by omega) (by rw [ja_fu_eq]; omega)
  refine ⟨h2, c2, u1, u2, fun a p1 p2 p3 => (u3.1 a p1 p2 p3).trans (e4 a p1 p2 p3), fun a p1 p3 => (u3.2.1 a p1 p3).trans (e5 a p1 p3), fun a p1 p2 => (u3.2.2.1 a p1 p2).trans (e6 a p1 p2), u3.2.2.2.1.trans e7, ?_, u4, u5, u6⟩
  rw [u3.2.2.2.2 6 (by decide), e8]
  exact h11
end FL
