section TB
variable {h g : ja_H} {c k n s : Nat} {T : Nat → Option sg_S} {V : Nat → pv_T} {B : Nat → Int32} {σ : sg_S}
def jt_cn (f : Nat → Option Nat) : Nat → Nat
  | 0 => 0
  | n + 1 => jt_cn f n + (if f n = none then 0 else 1)
theorem jt_cn_le (f : Nat → Option Nat) : ∀ n, jt_cn f n ≤ n := by
  intro n
  induction n with
  | zero => exact Nat.le_refl 0
  | succ n ih =>
    show jt_cn f n + (if f n = none then 0 else 1) ≤ n + 1
    split <;> omega
theorem jt_cn_o {f g : Nat → Option Nat} : ∀ n, (∀ k, k < n → f k = g k) → jt_cn f n = jt_cn g n := by
  intro n
  induction n with
  | zero => intro _; rfl
  | succ n ih =>
    intro e
    show jt_cn f n + (if f n = none then 0 else 1) = jt_cn g n + (if g n = none then 0 else 1)
    rw [ih (fun k hk => e k (by omega)), e n (by omega)]
theorem jt_cn_s {f : Nat → Option Nat} {k s : Nat} (e : f k = none) : ∀ n, k < n → jt_cn (pu_f f k (some s)) n = jt_cn f n + 1 := by
  intro n
  induction n with
  | zero => intro h; omega
  | succ n ih =>
    intro hk
    show jt_cn (pu_f f k (some s)) n + (if pu_f f k (some s) n = none then 0 else 1) = jt_cn f n + (if f n = none then 0 else 1) + 1
    by_cases q : k = n
    · subst q
      rw [pu_at, e, jt_cn_o (f := pu_f f k (some s)) (g := f) k (fun j hj => if_neg (show ¬ j = k by omega))]
      rfl
    · rw [ih (by omega), show pu_f f k (some s) n = f n from if_neg (by omega)]
      omega
def jt_A (h : ja_H) (c : Nat) : Prop := jv_B h ∧ h.1.length = 41 + 5 * c ∧ c = jt_cn (h.2.2.2.1 9) 1024 ∧ (h.1.map ja_sl).sum ≤ 800000 + 400 * c ∧ (∀ k s, k < 1024 → h.2.2.2.1 9 k = some s → ∃ j, j < c ∧ s = 41 + 5 * j ∧ st_ok h s) ∧ (∀ k k' s, k < 1024 → k' < 1024 → h.2.2.2.1 9 k = some s → h.2.2.2.1 9 k' = some s → k = k')
def jt_fr (h g : ja_H) : Prop := (∀ a, a < 41 → g.2.1 a = h.2.1 a) ∧ (∀ a, a < 41 → g.2.2.1 a = h.2.2.1 a) ∧ (∀ a, a < 41 → a ≠ 9 → g.2.2.2.1 a = h.2.2.2.1 a) ∧ g.2.2.2.2 = h.2.2.2.2
def jt_T (h : ja_H) (T : Nat → Option sg_S) : Prop := ∀ k, k < 1024 → (T k = none ∧ (h.2.2.2.1 9 k = none ∨ ∃ s, h.2.2.2.1 9 k = some s ∧ h.2.1 s 4 = 0)) ∨ (∃ s σ, h.2.2.2.1 9 k = some s ∧ h.2.1 s 4 = 1 ∧ T k = some σ ∧ sR (st_c h s) (h.2.1 (s + 4)) σ)
theorem jt_fr0 : jt_fr h h := ⟨fun _ _ => rfl, fun _ _ => rfl, fun _ _ _ => rfl, rfl⟩
theorem jt_frt {f : ja_H} (a : jt_fr h g) (b : jt_fr g f) : jt_fr h f := ⟨fun x q => (b.1 x q).trans (a.1 x q), fun x q => (b.2.1 x q).trans (a.2.1 x q), fun x q r => (b.2.2.1 x q r).trans (a.2.2.1 x q r), b.2.2.2.trans a.2.2.2⟩
theorem jw_80 {α : Type} {t : Nat} {K : Nat → ja_H → Option α} : jw_A h t 80 K = K h.1.length (ja_nw h (.inr (t, 80))) := by
  unfold jw_A
  rw [if_pos (by decide), show (80 : Int32).toNatClampNeg = 80 by decide]
theorem jw_64 {α : Type} {t : Nat} {K : Nat → ja_H → Option α} : jw_A h t 64 K = K h.1.length (ja_nw h (.inr (t, 64))) := by
  unfold jw_A
  rw [if_pos (by decide), show (64 : Int32).toNatClampNeg = 64 by decide]
theorem jpR {α : Type} {i c k x : Nat} {K : ja_H → Option α} (hs : h.1[i]? = some (.inl c)) : jp_R h i c k x K = K (ja_sR h i k (some x)) := if_pos hs
theorem nw_at {z : ja_S} : (ja_nw h z).1[h.1.length]? = some z := by
  simp [ja_nw]
theorem nw_lt {z x : ja_S} {i : Nat} (e : h.1[i]? = some x) : (ja_nw h z).1[i]? = some x := by
  show (h.1 ++ [z])[i]? = some x
  rw [List.getElem?_append_left (List.getElem?_eq_some_iff.mp e).1]
  exact e
def st_n (h : ja_H) : ja_H := (h.1 ++ [.inl 6, .inr (0, 80), .inr (1, 80), .inr (1, 80), .inr (0, 64)], fun a b => if h.1.length ≤ a ∧ a < h.1.length + 5 then 0 else h.2.1 a b, fun a b => if h.1.length ≤ a ∧ a < h.1.length + 5 then 0 else h.2.2.1 a b, fun a b => if a = h.1.length then (if b = 0 then some (h.1.length + 1) else if b = 1 then some (h.1.length + 2) else if b = 2 then some (h.1.length + 3) else if b = 3 then some (h.1.length + 4) else none) else if h.1.length ≤ a ∧ a < h.1.length + 5 then none else h.2.2.2.1 a b, h.2.2.2.2)
theorem st_init : r_St_init (ja_nw h (.inl 6)) h.1.length = some (st_n h) := by
  have b : ∀ (f : ja_H) (i k m : Nat) (x : Option Nat), f.1[m]? = some (.inl 6) → (ja_sR f i k x).1[m]? = some (.inl 6) := fun _ _ _ _ _ e => e
  have a0 : (ja_nw h (.inl 6)).1[h.1.length]? = some (.inl 6) := nw_at
  simp only [r_St_init, jw_80, jw_64]
  rw [jpR (nw_lt a0), jpR (nw_lt (b _ _ _ _ _ (nw_lt a0))), jpR (nw_lt (b _ _ _ _ _ (nw_lt (b _ _ _ _ _ (nw_lt a0))))), jpR (nw_lt (b _ _ _ _ _ (nw_lt (b _ _ _ _ _ (nw_lt (b _ _ _ _ _ (nw_lt a0)))))))]
  congr 1
  refine ja_hext ?_ (fun a b => ?_) (fun a b => ?_) (Prod.ext (funext fun a => funext fun b => ?_) rfl)
  · simp [ja_sR, ja_nw, st_n]
  · simp only [ja_sR, ja_nw, st_n, List.length_append, List.length_cons, List.length_nil]
    by_cases q : h.1.length ≤ a ∧ a < h.1.length + 5
    · rw [if_pos q]
      have : a = h.1.length ∨ a = h.1.length + 1 ∨ a = h.1.length + 2 ∨ a = h.1.length + 3 ∨ a = h.1.length + 4 := by omega
      rcases this with e | e | e | e | e <;> simp [e]
    · rw [if_neg q, if_neg (by omega), if_neg (by omega), if_neg (by omega), if_neg (by omega), if_neg (by omega)]
  · simp only [ja_sR, ja_nw, st_n, List.length_append, List.length_cons, List.length_nil]
    by_cases q : h.1.length ≤ a ∧ a < h.1.length + 5
    · rw [if_pos q]
      have : a = h.1.length ∨ a = h.1.length + 1 ∨ a = h.1.length + 2 ∨ a = h.1.length + 3 ∨ a = h.1.length + 4 := by omega
      rcases this with e | e | e | e | e <;> simp [e]
    · rw [if_neg q, if_neg (by omega), if_neg (by omega), if_neg (by omega), if_neg (by omega), if_neg (by omega)]
  · simp only [ja_sR, ja_nw, st_n, ja_u, List.length_append, List.length_cons, List.length_nil]
    by_cases q0 : a = h.1.length
    · subst q0
      by_cases b3 : b = 3
      · simp [b3]
        try omega
      · by_cases b2 : b = 2
        · simp [b2]
          try omega
        · by_cases b1 : b = 1
          · simp [b1]
            try omega
          · by_cases b0 : b = 0
            · simp [b0]
              try omega
            · simp [b0, b1, b2, b3]
    · by_cases q : h.1.length ≤ a ∧ a < h.1.length + 5
      · have : a = h.1.length + 1 ∨ a = h.1.length + 2 ∨ a = h.1.length + 3 ∨ a = h.1.length + 4 := by omega
        rcases this with e | e | e | e <;> simp [e]
      · have h1 : ¬ a = h.1.length + 1 := by omega
        have h2 : ¬ a = h.1.length + 2 := by omega
        have h3 : ¬ a = h.1.length + 3 := by omega
        have h4 : ¬ a = h.1.length + 4 := by omega
        simp [q0, q, h1, h2, h3, h4]
theorem st_nI {a : Nat} (ha : a < h.1.length) : (st_n h).2.1 a = h.2.1 a := by
  funext b
  exact if_neg (by omega)
theorem st_nL {a : Nat} (ha : a < h.1.length) : (st_n h).2.2.1 a = h.2.2.1 a := by
  funext b
  exact if_neg (by omega)
theorem st_nR {a : Nat} (ha : a < h.1.length) : (st_n h).2.2.2.1 a = h.2.2.2.1 a := by
  funext b
  show (if a = h.1.length then _ else if h.1.length ≤ a ∧ a < h.1.length + 5 then none else h.2.2.2.1 a b) = _
  rw [if_neg (by omega), if_neg (by omega)]
theorem st_n0 : (st_n h).2.1 h.1.length 4 = 0 := if_pos (by omega)
theorem st_n1 {i : Nat} {x : ja_S} (e : h.1[i]? = some x) : (st_n h).1[i]? = some x := by
  show (h.1 ++ _)[i]? = some x
  rw [List.getElem?_append_left (List.getElem?_eq_some_iff.mp e).1]
  exact e
theorem st_mono (k : st_ok h s) (e : ∀ (i : Nat) (x : ja_S), h.1[i]? = some x → g.1[i]? = some x) (r : g.2.2.2.1 s = h.2.2.2.1 s) : st_ok g s := by
  unfold st_ok
  rw [r]
  exact ⟨e _ _ k.1, e _ _ k.2.1, e _ _ k.2.2.1, e _ _ k.2.2.2.1, e _ _ k.2.2.2.2.1, k.2.2.2.2.2⟩
theorem st_nk : st_ok (st_n h) h.1.length := by
  simp [st_ok, st_n, List.getElem?_append]
theorem jt_ref : ∀ q ∈ ja_refs, q.1 < 41 ∧ q.1 ≠ 9 := by decide
theorem jt_B (b : jv_B h) (e : ∀ (i : Nat) (x : ja_S), h.1[i]? = some x → g.1[i]? = some x) (r : ∀ a, a < 41 → a ≠ 9 → g.2.2.2.1 a = h.2.2.2.1 a) : jv_B g := by
  refine ⟨fun i hi => ?_, fun q hq => ?_⟩
  · have l : i < ja_base.length := hi
    have q := b.1 i hi
    rw [List.getElem?_eq_getElem l] at q ⊢
    exact e i _ q
  · rw [r _ (jt_ref q hq).1 (jt_ref q hq).2]
    exact b.2 q hq
theorem jt_E {α : Type} {K : Nat → Option α} (b : jv_B h) (hk : k < 1024) (e : h.2.2.2.1 9 k = some s) : je_R h 9 (nI k) K = K s := by
  unfold je_R
  rw [ja_inE (jS_9 b) (jn_jx hk (by decide)), jn_clamp (by omega), e]
  rfl
theorem jt_N {α : Type} {X Y : Option α} (b : jv_B h) (hk : k < 1024) : je_N h 9 (nI k) X Y = if h.2.2.2.1 9 k = none then X else Y := by
  unfold je_N
  rw [ja_inE (jS_9 b) (jn_jx hk (by decide)), jn_clamp (by omega)]
theorem jt_s (A : jt_A h c) (hk : k < 1024) (e : h.2.2.2.1 9 k = some s) : 41 ≤ s ∧ s + 4 < h.1.length ∧ st_ok h s := by
  obtain ⟨j, j1, j2, j3⟩ := A.2.2.2.2.1 k s hk e
  have := A.2.1
  exact ⟨by omega, by omega, j3⟩
theorem jt_dj (A : jt_A h c) {k' s' : Nat} (hk : k < 1024) (hk' : k' < 1024) (e : h.2.2.2.1 9 k = some s) (e' : h.2.2.2.1 9 k' = some s') (n : k' ≠ k) : st_dj s s' := by
  obtain ⟨j, j1, j2, j3⟩ := A.2.2.2.2.1 k s hk e
  obtain ⟨i, i1, i2, i3⟩ := A.2.2.2.2.1 k' s' hk' e'
  have : s' ≠ s := fun q => n (A.2.2.2.2.2 k' k s hk' hk (q ▸ e') e)
  unfold st_dj
  omega
theorem jt_new (A : jt_A h c) (hk : k < 1024) (e : h.2.2.2.1 9 k = none) (t : jt_T h T) : jt_A (ja_sR (st_n h) 9 k (some h.1.length)) (c + 1) ∧ jt_fr h (ja_sR (st_n h) 9 k (some h.1.length)) ∧ jt_T (ja_sR (st_n h) 9 k (some h.1.length)) T ∧ (ja_sR (st_n h) 9 k (some h.1.length)).2.2.2.1 9 k = some h.1.length := by
  have l := A.2.1
  have r9 : (ja_sR (st_n h) 9 k (some h.1.length)).2.2.2.1 9 = pu_f (h.2.2.2.1 9) k (some h.1.length) := by
    funext b
    show (if 9 = 9 ∧ b = k then some h.1.length else (st_n h).2.2.2.1 9 b) = if b = k then some h.1.length else h.2.2.2.1 9 b
    rw [st_nR (by omega)]
    by_cases q : b = k
    · rw [if_pos ⟨rfl, q⟩, if_pos q]
    · rw [if_neg (fun z => q z.2), if_neg q]
  have ro : ∀ a, a ≠ 9 → (ja_sR (st_n h) 9 k (some h.1.length)).2.2.2.1 a = (st_n h).2.2.2.1 a := fun a ha => by
    funext b
    exact if_neg (fun z => ha z.1)
  have e1 : ∀ i x, h.1[i]? = some x → (ja_sR (st_n h) 9 k (some h.1.length)).1[i]? = some x := fun i x q => st_n1 q
  have at9 : ∀ k', k' ≠ k → (ja_sR (st_n h) 9 k (some h.1.length)).2.2.2.1 9 k' = h.2.2.2.1 9 k' := fun k' n => by
    rw [r9]
    exact if_neg n
  have at0 : (ja_sR (st_n h) 9 k (some h.1.length)).2.2.2.1 9 k = some h.1.length := by
    rw [r9]
    exact if_pos rfl
  have fr : jt_fr h (ja_sR (st_n h) 9 k (some h.1.length)) := ⟨fun a ha => st_nI (by omega), fun a ha => st_nL (by omega), fun a ha n9 => (ro a n9).trans (st_nR (by omega)), rfl⟩
  have ok : ∀ k' s', k' < 1024 → k' ≠ k → (ja_sR (st_n h) 9 k (some h.1.length)).2.2.2.1 9 k' = some s' → ∃ j, j < c ∧ s' = 41 + 5 * j ∧ st_ok h s' ∧ s' + 4 < h.1.length ∧ h.2.2.2.1 9 k' = some s' := fun k' s' hk' n q => by
    rw [at9 k' n] at q
    obtain ⟨j, j1, j2, j3⟩ := A.2.2.2.2.1 k' s' hk' q
    exact ⟨j, j1, j2, j3, by omega, q⟩
  refine ⟨⟨jt_B A.1 e1 fr.2.2.1, ?_, ?_, ?_, fun k' s' hk' q => ?_, fun k1 k2 s' hk1 hk2 q1 q2 => ?_⟩, fr, fun k' hk' => ?_, at0⟩
  · show (h.1 ++ _).length = _
    rw [List.length_append, l]
    simp only [List.length_cons, List.length_nil]
    omega
  · rw [r9, jt_cn_s e 1024 hk, ← A.2.2.1]
  · show ((h.1 ++ _).map ja_sl).sum ≤ _
    rw [List.map_append, List.sum_append]
    have q := A.2.2.2.1
    have : (List.map ja_sl [.inl 6, .inr (0, 80), .inr (1, 80), .inr (1, 80), .inr (0, 64)]).sum ≤ 400 := by decide
    omega
  · by_cases n : k' = k
    · subst n
      rw [at0] at q
      cases q
      exact ⟨c, by omega, l, st_mono (h := st_n h) st_nk (fun i x q => q) (ro _ (by omega))⟩
    · obtain ⟨j, j1, j2, j3, j4, j5⟩ := ok k' s' hk' n q
      exact ⟨j, by omega, j2, st_mono j3 e1 ((ro _ (by omega)).trans (st_nR (by omega)))⟩
  · by_cases n1 : k1 = k
    · by_cases n2 : k2 = k
      · rw [n1, n2]
      · obtain ⟨j, j1, j2, j3, j4, j5⟩ := ok k2 s' hk2 n2 q2
        rw [n1, at0] at q1
        cases q1
        omega
    · obtain ⟨j, j1, j2, j3, j4, j5⟩ := ok k1 s' hk1 n1 q1
      by_cases n2 : k2 = k
      · rw [n2, at0] at q2
        cases q2
        omega
      · rw [at9 k2 n2] at q2
        exact A.2.2.2.2.2 k1 k2 s' hk1 hk2 j5 q2
  · by_cases n : k' = k
    · subst n
      rcases t k' hk' with q | ⟨s', σ, q, _⟩
      · exact Or.inl ⟨q.1, Or.inr ⟨_, at0, st_n0⟩⟩
      · rw [e] at q
        cases q
    · rw [at9 k' n]
      rcases t k' hk' with q | ⟨s', σ, q1, q2, q3, q4⟩
      · refine Or.inl ⟨q.1, ?_⟩
        rcases q.2 with q2 | ⟨s', q2, q3⟩
        · exact Or.inl q2
        · refine Or.inr ⟨s', q2, ?_⟩
          have := (jt_s A hk' q2).2.1
          show (st_n h).2.1 s' 4 = 0
          rw [st_nI (by omega)]
          exact q3
      · have := (jt_s A hk' q1).2.1
        refine Or.inr ⟨s', σ, q1, ?_, q3, ?_⟩
        · show (st_n h).2.1 s' 4 = 1
          rw [st_nI (by omega)]
          exact q2
        · have e2 : st_c (ja_sR (st_n h) 9 k (some h.1.length)) s' = st_c h s' := by
            funext i
            show ((st_n h).2.1 (s' + 1) i, (st_n h).2.2.1 (s' + 2) i, (st_n h).2.2.1 (s' + 3) i) = _
            rw [st_nI (by omega), st_nL (by omega), st_nL (by omega)]
            rfl
          have e3 : (ja_sR (st_n h) 9 k (some h.1.length)).2.1 (s' + 4) = h.2.1 (s' + 4) := st_nI (by omega)
          rw [e2, e3]
          exact q4
theorem jt_put (A : jt_A h c) (hk : k < 1024) (e : h.2.2.2.1 9 k = some s) (t : jt_T h T) (r : sR V B σ) : jt_A (ja_sI (st_w h s V B) s 4 1) c ∧ jt_fr h (ja_sI (st_w h s V B) s 4 1) ∧ jt_T (ja_sI (st_w h s V B) s 4 1) (pu_f T k (some σ)) := by
  have hs := jt_s A hk e
  have so : ∀ a, a ≠ s → (ja_sI (st_w h s V B) s 4 1).2.1 a = (st_w h s V B).2.1 a := fun a ha => by
    funext b
    rw [ja_rI, if_neg (fun q => ha q.1)]
  have cs : ∀ s', s' + 1 ≠ s → st_c (ja_sI (st_w h s V B) s 4 1) s' = st_c (st_w h s V B) s' := fun s' n => by
    funext i
    show ((ja_sI (st_w h s V B) s 4 1).2.1 (s' + 1) i, _, _) = ((st_w h s V B).2.1 (s' + 1) i, _, _)
    rw [so _ n]
    rfl
  refine ⟨A, ⟨fun a ha => ?_, fun a ha => ?_, fun a ha n9 => rfl, rfl⟩, fun k' hk' => ?_⟩
  · rw [so a (by omega), st_wIo (by omega) (by omega)]
  · show (st_w h s V B).2.2.1 a = _
    rw [st_wLo (by omega) (by omega)]
  · by_cases n : k' = k
    · subst n
      refine Or.inr ⟨s, σ, e, ?_, if_pos rfl, ?_⟩
      · rw [ja_rI, if_pos ⟨rfl, rfl⟩]
      · rw [cs s (by omega), st_wc, so (s + 4) (by omega), st_wb]
        exact r
    · have d : ∀ s', h.2.2.2.1 9 k' = some s' → st_dj s s' := fun s' q => jt_dj A hk hk' e q n
      have v4 : ∀ s', h.2.2.2.1 9 k' = some s' → (ja_sI (st_w h s V B) s 4 1).2.1 s' = h.2.1 s' := fun s' q => by
        have := d s' q
        unfold st_dj at this
        rw [so s' (by omega), st_wIo (by omega) (by omega)]
      rcases t k' hk' with q | ⟨s', τ, q1, q2, q3, q4⟩
      · refine Or.inl ⟨(if_neg n).trans q.1, ?_⟩
        rcases q.2 with q2 | ⟨s', q2, q3⟩
        · exact Or.inl q2
        · exact Or.inr ⟨s', q2, by rw [v4 s' q2]; exact q3⟩
      · have dd := d s' q1
        refine Or.inr ⟨s', τ, q1, by rw [v4 s' q1]; exact q2, (if_neg n).trans q3, ?_⟩
        rw [cs s' (by unfold st_dj at dd; omega), st_wco dd, so (s' + 4) (by unfold st_dj at dd; omega), st_wbo dd]
        exact q4
def fl_c (o : Option sg_S) (σ : sg_S) : sg_S := match o with
  | none => σ
  | some τ => sg_j τ σ
def fl (T : Nat → Option sg_S) (k : Nat) (σ : sg_S) : Nat → Option sg_S := pu_f T k (some (fl_c (T k) σ))
theorem jt_34 (A : jt_A h c) (hk : k < 1024) (e : h.2.2.2.1 9 k = some s) (t : jt_T h T) (r : sR (st_c h 10) (h.2.1 14) σ) : ∃ h', r_Ju_flowTo_34 h 8 (nI k) = some h' ∧ jt_A h' c ∧ jt_fr h h' ∧ jt_T h' (fl T k σ) := by
  have b := A.1
  obtain ⟨s1, s2, s3⟩ := jt_s A hk e
  have d : st_dj s 10 := Or.inr (by omega)
  simp only [r_Ju_flowTo_34, jR_8_0 b, jR_8_1 b, jt_E b hk e, jfI s3.1, jkE s3.1]
  have m := t k hk
  by_cases q : h.2.1 s 4 = 0
  · rw [if_pos q]
    obtain ⟨V, B, e1, hV, hB⟩ := st_copy s3 (st_10 b) d
    have b' : jv_B (st_w h s V B) := b
    have e' : (st_w h s V B).2.2.2.1 9 k = some s := e
    have s3' : (st_w h s V B).1[s]? = some (.inl 6) := s3.1
    rw [e1, jcV, jR_8_0 b', jt_E b' hk e']
    simp only [r_Ju_flowTo_85]
    unfold jp_Z
    rw [if_pos ⟨s3', Or.inr rfl⟩]
    have tk : T k = none := by
      rcases m with m | ⟨s', τ, m1, m2, _⟩
      · exact m.1
      · rw [e] at m1
        cases m1
        rw [q] at m2
        exact absurd m2 (by decide)
    refine ⟨_, rfl, ?_⟩
    have := jt_put A hk e t (sR_congr r hV hB)
    unfold fl
    rw [tk]
    exact this
  · rw [if_neg q]
    obtain ⟨V, B, e1, hV, hB⟩ := st_join s3 (st_10 b) d
    rw [e1, jcV]
    simp only [r_Ju_flowTo_85]
    rcases m with m | ⟨s', τ, m1, m2, m3, m4⟩
    · rcases m.2 with m2 | ⟨s', m2, m3⟩
      · rw [e] at m2
        cases m2
      · rw [e] at m2
        cases m2
        exact absurd m3 q
    · rw [e] at m1
      cases m1
      have p := jt_put A hk e t (sR_j m4 r hV hB)
      have w4 : (st_w h s V B).2.1 s 4 = 1 := by
        rw [st_wIo (by omega) (by omega)]
        exact m2
      rw [ja_sI_same w4] at p
      refine ⟨_, rfl, ?_⟩
      unfold fl
      rw [m3]
      exact p
theorem jt_flow (A : jt_A h c) (hk : k < 1024) (t : jt_T h T) (r : sR (st_c h 10) (h.2.1 14) σ) : ∃ h' c', r_Ju_flowTo h 8 (nI k) = some h' ∧ jt_A h' c' ∧ jt_fr h h' ∧ jt_T h' (fl T k σ) := by
  have b := A.1
  have k1 : nI k < 1024 := (jn_lt (b := 1024) (by omega) (by omega)).mpr hk
  unfold r_Ju_flowTo
  rw [if_neg (jn_neg (by omega)), if_pos k1, jR_8_0 b, jt_N b hk]
  by_cases q : h.2.2.2.1 9 k = none
  · rw [if_pos q, jR_8_0 b]
    simp only [jw_O, st_init, jcV]
    obtain ⟨A', fr, t', e'⟩ := jt_new A hk q t
    have e1 : js_R (st_n h) 9 6 (nI k) h.1.length (fun h106 => r_Ju_flowTo_34 h106 8 (nI k)) = r_Ju_flowTo_34 (ja_sR (st_n h) 9 k (some h.1.length)) 8 (nI k) := by
      unfold js_R
      rw [ja_inE (st_n1 (jS_9 b)) (jn_jx hk (by decide)), jn_clamp (by omega), if_pos st_nk.1]
    rw [e1]
    have r' : sR (st_c (ja_sR (st_n h) 9 k (some h.1.length)) 10) ((ja_sR (st_n h) 9 k (some h.1.length)).2.1 14) σ := by
      have c1 : st_c (ja_sR (st_n h) 9 k (some h.1.length)) 10 = st_c h 10 := by
        funext i
        simp only [st_c]
        rw [fr.1 11 (by omega), fr.2.1 12 (by omega), fr.2.1 13 (by omega)]
      rw [c1, fr.1 14 (by omega)]
      exact r
    obtain ⟨h', f1, f2, f3, f4⟩ := jt_34 A' hk e' t' r'
    exact ⟨h', c + 1, f1, f2, jt_frt fr f3, f4⟩
  · rw [if_neg q]
    cases z : h.2.2.2.1 9 k with
    | none => exact absurd z q
    | some s =>
      obtain ⟨h', f1, f2, f3, f4⟩ := jt_34 A hk z t r
      exact ⟨h', c, f1, f2, f3, f4⟩
end TB
