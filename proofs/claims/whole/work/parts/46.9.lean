section C4
variable {h f : ja_H} {J K : jS} {σ : sg_S} {g g' C : Nat → Int32} {a s d c k m n u : Nat} {v X Y z : Int64} {len : Int32} {W : Nat → Int64}
theorem js7_c (e : ∀ b, b < 7 → g b = g' b) : jst g z C k J = jst g' z C k J ∧ vs g m J = vs g' m J := by
  have a : ∃ F : Int32 → Int32 → Int32 → Int32 → Int32 → Int32 → Int32 → (Nat × jS) × Prop, ∀ f : Nat → Int32, (jst f z C k J, vs f m J) = F (f 0) (f 1) (f 2) (f 3) (f 4) (f 5) (f 6) := ⟨fun a0 a1 a2 a3 a4 a5 a6 => (jst (fun b => match b with | 0 => a0 | 1 => a1 | 2 => a2 | 3 => a3 | 4 => a4 | 5 => a5 | _ => a6) z C k J, vs (fun b => match b with | 0 => a0 | 1 => a1 | 2 => a2 | 3 => a3 | 4 => a4 | 5 => a5 | _ => a6) m J), fun _ => rfl⟩
  obtain ⟨F, hF⟩ := a
  have : (jst g z C k J, vs g m J) = (jst g' z C k J, vs g' m J) := by
    rw [hF g, hF g', e 0 (by decide), e 1 (by decide), e 2 (by decide), e 3 (by decide), e 4 (by decide), e 5 (by decide), e 6 (by decide)]
  exact ⟨congrArg Prod.fst this, congrArg Prod.snd this⟩
theorem jst_c (e : ∀ b, b < 7 → g b = g' b) : jst g z C k J = jst g' z C k J := (js7_c (m := 0) e).1
theorem vs_c (e : ∀ b, b < 7 → g b = g' b) : vs g m J = vs g' m J := (js7_c (z := 0) (C := fun _ => 0) (k := 0) e).2
def jrn (W : Nat → Int64) (C : Nat → Int32) (n m : Nat) : Nat → Nat → jS → jS → Prop
  | 0, _, _, _ => False
  | u + 1, k, J, K => k < n ∧ gw (jw_f (W k)) ∧ vs (jw_f (W k)) m J ∧ jok J ∧ (jw_f (W k) 5 = 7 → k + 1 < n) ∧ ((jw_f (W k) 5 = 8 ∧ u = 0 ∧ K = J) ∨ (jw_f (W k) 5 ≠ 8 ∧ jrn W C n m u (jst (jw_f (W k)) (pf_nx W n (k + 1)) C k J).1 (jst (jw_f (W k)) (pf_nx W n (k + 1)) C k J).2 K))
theorem jr_ex (n1 : n ≤ 1024) (hm : m ≤ 256) (z : (vr W n (nI m)).1 = 0) (hC : ∀ j, (C j).toNatClampNeg < 256) : ∀ (f k : Nat) (J : jS), n - k ≤ f → k < n → sT J (vr W n (nI m)).2.2.1 k → jok J → ∃ u K, u ≤ n - k ∧ jrn W C n m u k J K := by
  intro f
  induction f with
  | zero => intro k J hf hk; omega
  | succ f ih =>
    intro k J hf hk hT jo
    obtain ⟨σ, e, hJ⟩ := hT
    obtain ⟨Q, _, F, _⟩ := vr_fin n1 (by omega) z
    obtain ⟨_, hs, ok⟩ := Q k σ e
    obtain ⟨w, Fp⟩ := F k hk hs
    obtain ⟨c0, cl⟩ := vr_cl n1 (by omega) z k hk σ e
    have g6 : jw_f (W k) 6 = jw_f (W k) 0 >>> (4 &&& 31) := rfl
    have V := vs_of w g6 ok jo hm hJ c0
    have l0 : 0 ≤ (nI m).toInt := by
      rw [jn_int (by omega)]
      omega
    have w7 : jw_f (W k) 5 = 7 → k + 1 < n := fun s7 => by
      obtain ⟨k1, k2, k3⟩ := gw_k w
      obtain ⟨p, p1, p2, p3⟩ := step_s (C := C) w g6 k1 k2 k3 ok jo hC l0 hJ c0 (by rw [s7]; decide)
      have q := (Fp _ _ _ p p1).1
      have ej : (jst (jw_f (W k)) (pf_nx W n (k + 1)) C k J).1 = k + 2 := by
        unfold jst
        rw [if_neg (by rw [s7]; decide), if_neg (by rw [s7]; decide), if_neg (by rw [s7]; decide), if_neg (by rw [s7]; decide), if_neg (by rw [s7]; decide)]
      omega
    by_cases s8 : jw_f (W k) 5 = 8
    · exact ⟨1, J, by omega, hk, w, V, jo, w7, Or.inl ⟨s8, rfl, rfl⟩⟩
    · obtain ⟨k1, k2, k3⟩ := gw_k w
      obtain ⟨p, p1, p2, p3⟩ := step_s (C := C) w g6 k1 k2 k3 ok jo hC l0 hJ c0 s8
      have gt := sg_one_gt w p1
      have q := (Fp _ _ _ p p1).1
      have t := cl _ p p1 p3
      rw [p2] at gt q t
      obtain ⟨u, K, u1, u2⟩ := ih _ _ (by omega) q t (jok_st w jo)
      exact ⟨u + 1, K, by omega, hk, w, V, jo, w7, Or.inr ⟨s8, u2⟩⟩
theorem cR_c (e21 : f.2.1 21 = h.2.1 21) (e22 : f.2.1 22 = h.2.1 22) (e23 : f.2.1 23 = h.2.1 23) (e20 : f.2.2.1 20 = h.2.2.1 20) (e7 : f.2.1 19 7 = h.2.1 19 7) (cr : cR h J) : cR f J := by
  unfold cR
  rw [e21, e22, e23, e20, e7]
  exact cr
def pc_f (h f : ja_H) : Prop := f.1 = h.1 ∧ f.2.2.2 = h.2.2.2 ∧ (∀ a b, a ≠ 21 → a ≠ 22 → a ≠ 23 → a ≠ 24 → ¬ (a = 19 ∧ b = 5) → f.2.1 a b = h.2.1 a b) ∧ (∀ a b, a ≠ 20 → f.2.2.1 a b = h.2.2.1 a b)
theorem pc_t {g : ja_H} (p : pc_f h g) (q : pc_f g f) : pc_f h f := ⟨q.1.trans p.1, q.2.1.trans p.2.1, fun a b x y z w v => (q.2.2.1 a b x y z w v).trans (p.2.2.1 a b x y z w v), fun a b x => (q.2.2.2 a b x).trans (p.2.2.2 a b x)⟩
theorem pc_m (p : mc_f h f) : pc_f h f := ⟨p.1, p.2.1, fun a b x y z _ _ => p.2.2.1 a b x y z, p.2.2.2⟩
theorem ex_lp (n1 : n ≤ 1024) (hm : m ≤ 256) : ∀ (u t l k : Nat) (h : ja_H) (J K : jS), jrn W C n m u k J K → u ≤ l → l ≤ 1024 → u ≤ t → jv_B h → h.2.1 1 1 = nI n → h.2.2.1 2 = W → h.2.1 3 1 = nI m → (∀ i, C i = h.2.1 4 i &&& 255) → cR h J → ∃ f, r_Ma_execute_12 t h 19 1 3 (nI k) (nI l) = some ((K.1 0).2, f) ∧ pc_f h f ∧ f.2.1 19 5 = h.2.1 19 5 + nI u := by
  intro u
  induction u with
  | zero => intro t l k h J K r; exact absurd r id
  | succ u ih =>
    intro t l k h J K r ul l1 ut b e1 eW e3 hC cr
    obtain ⟨hk, w, V, jo, w7, r'⟩ := r
    obtain ⟨t, rfl⟩ : ∃ t', t = t' + 1 := ⟨t - 1, by omega⟩
    show ∃ f, q_Ma_execute_12 (r_Ma_execute_12 t) h 19 1 3 (nI k) (nI l) = some ((K.1 0).2, f) ∧ _
    have n0 : ¬ nI l ≤ 0 := fun q => by
      have := (jn_le (a := l) (b := 0) (by omega) (by decide)).mp q
      omega
    have b2 : jv_B (ja_sI h 19 5 (h.2.1 19 5 + 1)) := b
    have b6 : jv_B (jw_t (ja_sI h 19 5 (h.2.1 19 5 + 1)) 24 (W k)) := b
    have o2 : ∀ a c, ¬ (a = 19 ∧ c = 5) → (ja_sI h 19 5 (h.2.1 19 5 + 1)).2.1 a c = h.2.1 a c := fun a c q => by
      rw [ja_rI, if_neg q]
    have o6 : ∀ a c, a ≠ 24 → ¬ (a = 19 ∧ c = 5) → (jw_t (ja_sI h 19 5 (h.2.1 19 5 + 1)) 24 (W k)).2.1 a c = h.2.1 a c := fun a c q1 q2 => by
      rw [jw_to q1, o2 a c q2]
    have at2 := w_at (k := k) b2 (by rw [o2 1 1 (by omega)]; exact e1) n1 (by omega)
    have eW2 : (ja_sI h 19 5 (h.2.1 19 5 + 1)).2.2.1 2 = W := eW
    have eW6 : (jw_t (ja_sI h 19 5 (h.2.1 19 5 + 1)) 24 (W k)).2.2.1 2 = W := eW
    rw [eW2, if_pos hk] at at2
    have g24 : ∀ c, c < 7 → (jw_t (ja_sI h 19 5 (h.2.1 19 5 + 1)) 24 (W k)).2.1 24 c = jw_f (W k) c := fun c hc => by
      unfold jw_t
      rw [ja_oI_at, if_pos hc]
    have cr6 : cR (jw_t (ja_sI h 19 5 (h.2.1 19 5 + 1)) 24 (W k)) J := cR_c (funext fun c => o6 21 c (by decide) (by omega)) (funext fun c => o6 22 c (by decide) (by omega)) (funext fun c => o6 23 c (by decide) (by omega)) rfl (o6 19 7 (by decide) (by omega)) cr
    have s6 : (jw_t (ja_sI h 19 5 (h.2.1 19 5 + 1)) 24 (W k)).2.1 19 5 = h.2.1 19 5 + 1 := by
      rw [jw_to (by decide), ja_rI, if_pos ⟨rfl, rfl⟩]
    have p6 : pc_f h (jw_t (ja_sI h 19 5 (h.2.1 19 5 + 1)) 24 (W k)) := ⟨rfl, rfl, fun a c _ _ _ q1 q2 => o6 a c q1 q2, fun _ _ _ => rfl⟩
    have head : q_Ma_execute_12 (r_Ma_execute_12 t) h 19 1 3 (nI k) (nI l) = if jw_f (W k) 5 = 8 then r_Ma_execute_74 (jw_t (ja_sI h 19 5 (h.2.1 19 5 + 1)) 24 (W k)) 19 else jk (jw_t (ja_sI h 19 5 (h.2.1 19 5 + 1)) 24 (W k)) 1 1 (jc_L (r_Co_at (jw_t (ja_sI h 19 5 (h.2.1 19 5 + 1)) 24 (W k)) 1 (nI k + 1)) (fun v10 h9 => jk h9 19 8 (jc_I (r_Ma_step h9 19 (nI k) v10 3) (fun v12 h11 => jl v12 (fun x13 => jl (nI l + (-1)) (fun x14 => r_Ma_execute_12 t h11 19 1 3 x13 x14)))))) := by
      rw [q_Ma_execute_12, if_neg n0, jI_19 b, jpI_19 b, jR_19_4 b2, jk_1 b2, at2, jcL, jk_24 b2, w_take (jS_24 b2), jcV, jR_19_4 b6, jI_24 b6, g24 5 (by decide)]
    rw [head]
    generalize jw_t (ja_sI h 19 5 (h.2.1 19 5 + 1)) 24 (W k) = h6 at *
    rcases r' with ⟨s8, u0, eK⟩ | ⟨s8, r'⟩
    · have k0 := V.2.2.2.2.2.2 s8
      have e := ma_use (c := 0) b6 cr6 (by decide) (by rw [k0]; exact i10)
      have e0 : r_Ma_use h6 19 0 = some ((J.1 0).2, h6) := by
        rw [← jN_1 k0]
        exact e
      refine ⟨h6, ?_, p6, ?_⟩
      · rw [if_pos s8, r_Ma_execute_74, jk_19 b6, e0, jcL, jlE, jI_19 b6, cr6.2.2, if_pos rfl, r_Ma_execute_98, eK]
      · rw [s6, u0]
        rfl
    · have at6 := w_at (k := k + 1) b6 (by rw [o6 1 1 (by decide) (by omega)]; exact e1) n1 (by omega)
      rw [eW6] at at6
      have w' : gw (h6.2.1 24) := (sg_one_c (k := 0) (σ := sg_b) (len := 0) (z := 0) (g := h6.2.1 24) (g' := jw_f (W k)) (fun b hb => g24 b hb)).2 w
      have V' : vs (h6.2.1 24) m J := by
        rw [vs_c g24]
        exact V
      obtain ⟨f1, f2, f3, f4⟩ := ms_all (C := C) (z := pf_nx W n (k + 1)) (k := k) b6 cr6 rfl w' (by rw [g24 6 (by decide), g24 0 (by decide)]; rfl) jo hm (by rw [o6 3 1 (by decide) (by omega)]; exact e3) (fun i => by rw [o6 4 i (by decide) (by omega)]; exact hC i) V' (by rw [g24 5 (by decide)]; exact s8)
      rw [jst_c g24] at f2 f3
      have b1 := mc_B b6 f4
      obtain ⟨f, t1, t2, t3⟩ := ih t (l - 1) _ f1 _ K r' (by omega) (by omega) (by omega) b1 (by rw [f4.2.2.1 1 1 (by decide) (by decide) (by decide), o6 1 1 (by decide) (by omega)]; exact e1) (by rw [← eW6]; exact funext fun c => f4.2.2.2 2 c (by decide)) (by rw [f4.2.2.1 3 1 (by decide) (by decide) (by decide), o6 3 1 (by decide) (by omega)]; exact e3) (fun i => by rw [f4.2.2.1 4 i (by decide) (by decide) (by decide), o6 4 i (by decide) (by omega)]; exact hC i) f3
      have el : nI l + (-1) = nI (l - 1) := by
        rw [← Int32.sub_eq_add_neg]
        exact jn_sub (b := 1) (by omega)
      refine ⟨f, ?_, pc_t p6 (pc_t (pc_m f4) t2), ?_⟩
      · rw [if_neg s8, jk_1 b6, lq_add1, at6, jcL, jk_19 b6]
        rw [show (if k + 1 < n then W (k + 1) else 0) = pf_nx W n (k + 1) from rfl, f2, jcI, jlE, jlE, el]
        exact t1
      · rw [t3, f4.2.2.1 19 5 (by decide) (by decide) (by decide), s6, Int32.add_assoc, show (1 : Int32) + nI u = nI (1 + u) from jn_add 1 u, Nat.add_comm 1 u]
theorem bg_40 : ∀ (t i : Nat) (h : ja_H), jv_B h → i ≤ 512 → 512 - i < t → ∃ e, mc_f h e ∧ r_Ma_begin_40 t h 19 (nI i) = some (ja_sI (ja_sL (ja_sI (ja_sL e 20 1 1099511627776) 21 1 1) 20 10 2199023256064) 21 10 1) := by
  intro t
  induction t with
  | zero => intro i h _ _ ht; omega
  | succ t ih =>
    intro i h b hi ht
    show ∃ e, mc_f h e ∧ q_Ma_begin_40 (r_Ma_begin_40 t) h 19 (nI i) = _
    have e1 : (512 : Int32) ≤ nI i ↔ 512 ≤ i := jn_le (a := 512) (by decide) (by omega)
    by_cases c : 512 ≤ i
    · refine ⟨h, mc_0, ?_⟩
      have b1 : jv_B (ja_sI (ja_sL h 20 1 1099511627776) 21 1 1) := b
      rw [q_Ma_begin_40, if_pos (e1.mpr c), jk_19 b, show r_Ma_give h 19 1 1099511627776 = some _ from ma_give (d := 1) b (by decide), jcV, jk_19 b1, show r_Ma_give (ja_sI (ja_sL h 20 1 1099511627776) 21 1 1) 19 10 2199023256064 = some _ from ma_give (d := 10) b1 (by decide), jcV]
    · have b1 : jv_B (ja_sI h 22 i (vp_nar .byte 0)) := b
      have b2 : jv_B (ja_sI (ja_sI h 22 i (vp_nar .byte 0)) 23 i (vp_nar .boolean 0)) := b
      obtain ⟨e, f1, f2⟩ := ih (i + 1) _ b2 (by omega) (by omega)
      refine ⟨e, mc_t (g := ja_sI (ja_sI h 22 i (vp_nar .byte 0)) 23 i (vp_nar .boolean 0)) ⟨rfl, rfl, fun a x _ n2 n3 => ?_, fun _ _ _ => rfl⟩ f1, ?_⟩
      · rw [ja_rI, if_neg (fun q => n3 q.1), ja_rI, if_neg (fun q => n2 q.1)]
      · rw [q_Ma_begin_40, if_neg (fun q => c (e1.mp q)), jR_19_2 b, jW_22 b (jn_jx (by omega) (by decide)), jn_clamp (by omega), jR_19_3 b1, jW_23 b1 (jn_jx (by omega) (by decide)), jn_clamp (by omega), jlE, lq_add1]
        exact f2
theorem bg_12 : ∀ (t i : Nat) (h : ja_H), jv_B h → i ≤ 16 → 16 - i < t → ∃ e, mc_f h e ∧ r_Ma_begin_12 t h 19 (nI i) = some (ja_sI (ja_sL (ja_sI (ja_sL e 20 1 1099511627776) 21 1 1) 20 10 2199023256064) 21 10 1) := by
  intro t
  induction t with
  | zero => intro i h _ _ ht; omega
  | succ t ih =>
    intro i h b hi ht
    show ∃ e, mc_f h e ∧ q_Ma_begin_12 (r_Ma_begin_12 t) h 19 (nI i) = _
    have e1 : (16 : Int32) ≤ nI i ↔ 16 ≤ i := jn_le (a := 16) (by decide) (by omega)
    by_cases c : 16 ≤ i
    · rw [q_Ma_begin_12, if_pos (e1.mpr c), jlE, ja_fu_eq]
      exact bg_40 2000 0 h b (by omega) (by omega)
    · have b1 : jv_B (ja_sL h 20 i 0) := b
      have b2 : jv_B (ja_sI (ja_sL h 20 i 0) 21 i (vp_nar .boolean 0)) := b
      obtain ⟨e, f1, f2⟩ := ih (i + 1) _ b2 (by omega) (by omega)
      refine ⟨e, mc_t (g := ja_sI (ja_sL h 20 i 0) 21 i (vp_nar .boolean 0)) ⟨rfl, rfl, fun a x n1 _ _ => ?_, fun a x n0 => ?_⟩ f1, ?_⟩
      · rw [ja_rI, if_neg (fun q => n1 q.1)]
        rfl
      · rw [ja_rIL, ja_rL, if_neg (fun q => n0 q.1)]
      · rw [q_Ma_begin_12, if_neg (fun q => c (e1.mp q)), jR_19_0 b, jW_20 b (jn_jx (by omega) (by decide)), jn_clamp (by omega), jR_19_1 b1, jW_21 b1 (jn_jx (by omega) (by decide)), jn_clamp (by omega), jlE, lq_add1]
        exact f2
def px_f (h f : ja_H) : Prop := f.1 = h.1 ∧ f.2.2.2 = h.2.2.2 ∧ (∀ a b, a ≠ 21 → a ≠ 22 → a ≠ 23 → a ≠ 24 → ¬ (a = 19 ∧ (b = 5 ∨ b = 7)) → f.2.1 a b = h.2.1 a b) ∧ (∀ a b, a ≠ 20 → f.2.2.1 a b = h.2.2.1 a b)
theorem ma_begin (b : jv_B h) : ∃ f, r_Ma_begin h 19 = some f ∧ cR f jS_0' ∧ px_f h f ∧ f.2.1 19 5 = 0 := by
  have b1 : jv_B (ja_sI h 19 5 0) := b
  have b2 : jv_B (ja_sI (ja_sI h 19 5 0) 19 7 0) := b
  obtain ⟨e, f1, f2⟩ := bg_12 2000 0 _ b2 (by omega) (by omega)
  have z : ∀ c, (e.2.1 19 c = if c = 7 then 0 else if c = 5 then 0 else h.2.1 19 c) := fun c => by
    rw [f1.2.2.1 19 c (by decide) (by decide) (by decide), ja_rI, ja_rI]
    by_cases y : c = 7
    · rw [if_pos ⟨rfl, y⟩, if_pos y]
    · rw [if_neg (fun q => y q.2), if_neg y]
      by_cases y2 : c = 5
      · rw [if_pos ⟨rfl, y2⟩, if_pos y2]
      · rw [if_neg (fun q => y2 q.2), if_neg y2]
  refine ⟨ja_sI (ja_sL (ja_sI (ja_sL e 20 1 1099511627776) 21 1 1) 20 10 2199023256064) 21 10 1, ?_, ⟨fun c hc n0 => ?_, fun j hj => ⟨fun _ q => ?_, fun q => absurd rfl q⟩, ?_⟩, ⟨f1.1, f1.2.1, fun a c n1 n2 n3 n4 n5 => ?_, fun a c n0 => ?_⟩, ?_⟩
  · rw [r_Ma_begin, jpI_19 b, jpZ_19 b1 (Or.inl rfl), jlE, ja_fu_eq]
    exact f2
  · rw [ja_rI, ja_rLI, ja_rI, ja_rLI, ja_rIL, ja_rL, ja_rIL, ja_rL]
    by_cases c1 : c = 1
    · subst c1
      rw [if_neg (by omega), if_pos ⟨rfl, rfl⟩, if_neg (by omega), if_pos ⟨rfl, rfl⟩]
      exact ⟨rfl, rfl⟩
    · by_cases c2 : c = 10
      · subst c2
        rw [if_pos ⟨rfl, rfl⟩, if_pos ⟨rfl, rfl⟩]
        exact ⟨rfl, rfl⟩
      · have q : (jS_0'.1 c) = (0, 0) := by
          show (if c = 1 then (2, 0) else if c = 10 then (3, 0) else (0, 0)) = _
          rw [if_neg c1, if_neg c2]
        rw [q] at n0
        exact absurd rfl n0
  · cases q
  · rw [ja_rI, if_neg (by omega)]
    show (ja_sI (ja_sL e 20 1 1099511627776) 21 1 1).2.1 19 7 = 0
    rw [ja_rI, if_neg (by omega)]
    show e.2.1 19 7 = 0
    rw [z, if_pos rfl]
  · rw [ja_rI, if_neg (fun q => n1 q.1)]
    show (ja_sI (ja_sL e 20 1 1099511627776) 21 1 1).2.1 a c = _
    rw [ja_rI, if_neg (fun q => n1 q.1)]
    show e.2.1 a c = _
    rw [f1.2.2.1 a c n1 n2 n3, ja_rI, if_neg (by omega), ja_rI, if_neg (by omega)]
  · rw [ja_rIL, ja_rL, if_neg (fun q => n0 q.1), ja_rIL, ja_rL, if_neg (fun q => n0 q.1), f1.2.2.2 a c n0]
    rfl
  · rw [ja_rI, if_neg (by omega)]
    show (ja_sI (ja_sL e 20 1 1099511627776) 21 1 1).2.1 19 5 = 0
    rw [ja_rI, if_neg (by omega)]
    show e.2.1 19 5 = 0
    rw [z, if_neg (by decide), if_pos rfl]
theorem ma_exec (n1 : n ≤ 1024) (hm : m ≤ 256) (r : jrn W C n m u 0 jS_0' K) (u1 : u ≤ n) (b : jv_B h) (e1 : h.2.1 1 1 = nI n) (eW : h.2.2.1 2 = W) (e3 : h.2.1 3 1 = nI m) (hC : ∀ i, C i = h.2.1 4 i &&& 255) : ∃ f, r_Ma_execute h 19 1 3 = some ((K.1 0).2, f) ∧ px_f h f ∧ f.2.1 19 5 = nI u := by
  obtain ⟨g, g1, g2, g3, g4⟩ := ma_begin b
  have b1 : jv_B g := by
    refine ⟨fun i hi => ?_, fun q hq => ?_⟩
    · rw [g3.1]
      exact b.1 i hi
    · rw [g3.2.1]
      exact b.2 q hq
  have o : ∀ a c, a ≠ 21 → a ≠ 22 → a ≠ 23 → a ≠ 24 → ¬ (a = 19 ∧ (c = 5 ∨ c = 7)) → g.2.1 a c = h.2.1 a c := g3.2.2.1
  have n1' : g.2.1 1 1 = nI n := by
    rw [o 1 1 (by decide) (by decide) (by decide) (by decide) (by omega)]
    exact e1
  obtain ⟨f, f1, f2, f3⟩ := ex_lp n1 hm u 2000 n 0 g jS_0' K r u1 n1 (by omega) b1 n1' (by rw [← eW]; exact funext fun c => g3.2.2.2 2 c (by decide)) (by rw [o 3 1 (by decide) (by decide) (by decide) (by decide) (by omega)]; exact e3) (fun i => by rw [o 4 i (by decide) (by decide) (by decide) (by decide) (by omega)]; exact hC i) g2
  refine ⟨f, ?_, ⟨f2.1.trans g3.1, f2.2.1.trans g3.2.1, fun a c q1 q2 q3 q4 q5 => ?_, fun a c q => (f2.2.2.2 a c q).trans (g3.2.2.2 a c q)⟩, ?_⟩
  · rw [r_Ma_execute, jk_19 b, g1, jcV, jlE, jI_1 b1, jlE, n1', ja_fu_eq]
    exact f1
  · rw [f2.2.2.1 a c q1 q2 q3 q4 (by omega), o a c q1 q2 q3 q4 q5]
  · rw [f3, g4, Int32.zero_add]
end C4
