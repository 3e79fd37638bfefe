section D3
variable {h f : ja_H} {J K : jS} {g C q : Nat → Int32} {a s d c k m n u i o e : Nat} {v X Y z : Int64} {W : Nat → Int64} {x : Int32}
def mx_f (h f : ja_H) : Prop := f.1 = h.1 ∧ f.2.2.2 = h.2.2.2 ∧ (∀ a b, a ≠ 34 → a ≠ 35 → a ≠ 38 → a ≠ 39 → ¬ (a = 25 ∧ b = 14) → f.2.1 a b = h.2.1 a b) ∧ (∀ a b, a ≠ 36 → a ≠ 37 → f.2.2.1 a b = h.2.2.1 a b)
theorem mx_t {g : ja_H} (p : mx_f h g) (q : mx_f g f) : mx_f h f := ⟨q.1.trans p.1, q.2.1.trans p.2.1, fun a b x y z w v => (q.2.2.1 a b x y z w v).trans (p.2.2.1 a b x y z w v), fun a b x y => (q.2.2.2 a b x y).trans (p.2.2.2 a b x y)⟩
theorem mx_m (p : md_f h f) : mx_f h f := ⟨p.1, p.2.1, fun a b x y z w _ => p.2.2.1 a b x y z w, p.2.2.2⟩
theorem mr_lp (n1 : n ≤ 1024) (hm : m ≤ 256) (hC : ∀ i, ∃ v, v < 256 ∧ C i = nI v) : ∀ (u t k : Nat) (h : ja_H) (J K : jS), jrn W C n m u k J K → u ≤ t → jv_B h → (∀ k, k < 1024 → h.2.2.1 26 k = W k) → h.2.1 25 9 = nI m → (∀ i, i < 256 → h.2.1 29 i = C i) → mR h J → ∃ f, r_Mo_run_125 t h 25 0 (nI k) = some ((K.1 0).2, f) ∧ mx_f h f ∧ f.2.1 25 14 = h.2.1 25 14 + nI u := by
  intro u
  induction u with
  | zero => intro t k h J K r; exact absurd r id
  | succ u ih =>
    intro t k h J K r ut b hW e9 hM mr
    obtain ⟨hk, w, V, jo, w7, r'⟩ := r
    obtain ⟨t, rfl⟩ : ∃ t', t = t' + 1 := ⟨t - 1, by omega⟩
    show ∃ f, q_Mo_run_125 (r_Mo_run_125 t) h 25 0 (nI k) = some ((K.1 0).2, f) ∧ _
    have k1 : k < 1024 := by omega
    have hg : jw_f (h.2.2.1 26 k) = jw_f (W k) := by rw [hW k k1]
    have b1 : jv_B (ja_sI h 25 14 (h.2.1 25 14 + 1)) := b
    have o1 : ∀ a c, ¬ (a = 25 ∧ c = 14) → (ja_sI h 25 14 (h.2.1 25 14 + 1)).2.1 a c = h.2.1 a c := fun a c q => by
      rw [ja_rI, if_neg q]
    have mr1 : mR (ja_sI h 25 14 (h.2.1 25 14 + 1)) J := mR_c (funext fun j => o1 34 j (by omega)) (funext fun j => o1 35 j (by omega)) (funext fun j => o1 38 j (by omega)) (funext fun j => o1 39 j (by omega)) rfl mr
    have hg1 : jw_f ((ja_sI h 25 14 (h.2.1 25 14 + 1)).2.2.1 26 k) = jw_f (W k) := hg
    have hW1 : ∀ k, k < 1024 → (ja_sI h 25 14 (h.2.1 25 14 + 1)).2.2.1 26 k = W k := hW
    have e91 : (ja_sI h 25 14 (h.2.1 25 14 + 1)).2.1 25 9 = nI m := (o1 25 9 (by omega)).trans e9
    have hM1 : ∀ i, i < 256 → (ja_sI h 25 14 (h.2.1 25 14 + 1)).2.1 29 i = C i := fun i hi => (o1 29 i (by omega)).trans (hM i hi)
    have p1 : mx_f h (ja_sI h 25 14 (h.2.1 25 14 + 1)) := ⟨rfl, rfl, fun a c _ _ _ _ q => o1 a c q, fun _ _ _ _ => rfl⟩
    have s1 : (ja_sI h 25 14 (h.2.1 25 14 + 1)).2.1 25 14 = h.2.1 25 14 + 1 := by
      rw [ja_rI, if_pos ⟨rfl, rfl⟩]
    obtain ⟨_, _, sg, i, hi⟩ := mt_us hg w
    rw [mr_head b mr k1 hg w V]
    generalize ja_sI h 25 14 (h.2.1 25 14 + 1) = h1 at *
    rcases r' with ⟨s8, u0, eK⟩ | ⟨s8, r'⟩
    · have k0 := V.2.2.2.2.2.2 s8
      have T := mt_8 i (by rw [← hi, sg, s8])
      have z9 : jw_f (W k) 0 = 149 := hi.trans T.2.2.2.2.2.2.2
      obtain ⟨m1, m2⟩ := mr1.1 0 (by decide)
      have m3 := m2 (by rw [k0]; exact i10)
      have t34 : ∀ G : Int32 → Option (Int64 × ja_H), je_I h1 34 0 0 G = G 1 := fun G => by
        show je_I h1 34 0 (nI 0) G = G 1
        rw [jE_34 b1 (jn_jx (show 0 < 11 by decide) (by decide)), jn_clamp (by omega), m1, k0]
      have t36 : ∀ G : Int64 → Option (Int64 × ja_H), je_L h1 36 0 G = G (J.1 0).2 := fun G => by
        show je_L h1 36 (nI 0) G = G _
        rw [jE_36 b1 (jn_jx (show 0 < 11 by decide) (by decide)), jn_clamp (by omega), m3]
      refine ⟨h1, ?_, p1, ?_⟩
      · rw [r_Mo_run_193, if_pos z9, if_pos rfl, jR_25_17 b1, t34, if_pos rfl, r_Mo_run_471, jR_25_19 b1, t36, eK]
      · rw [s1, u0]
        rfl
    · have n9 : ¬ jw_f (W k) 0 = 149 := fun q => by
        rw [q] at sg
        exact s8 (sg.symm.trans (by decide))
      obtain ⟨f1, f2, f3, f4⟩ := mk_all (C := C) (z := pf_nx W n (k + 1)) b1 mr1 k1 hg1 w V jo hm e91 hM1 hC (fun q => ⟨by have := w7 q; omega, by rw [hW1 _ (by have := w7 q; omega)]; exact (if_pos (w7 q)).symm⟩) s8
      obtain ⟨f, t1, t2, t3⟩ := ih t _ f1 _ K r' (by omega) (md_B b1 f4) (fun k hk => (f4.2.2.2 26 k (by decide) (by decide)).trans (hW1 k hk)) ((f4.2.2.1 25 9 (by decide) (by decide) (by decide) (by decide)).trans e91) (fun i hi => (f4.2.2.1 29 i (by decide) (by decide) (by decide) (by decide)).trans (hM1 i hi)) f3
      refine ⟨f, ?_, mx_t p1 (mx_t (mx_m f4) t2), ?_⟩
      · rw [mr_193 b1 mr1 k1 hg1 w V n9, f2]
        exact t1
      · rw [t3, f4.2.2.1 25 14 (by decide) (by decide) (by decide) (by decide), s1, Int32.add_assoc, show (1 : Int32) + nI u = nI (1 + u) from jn_add 1 u, Nat.add_comm 1 u]
def zf (a s : Nat) (h e : ja_H) : Prop := e.1 = h.1 ∧ e.2.2 = h.2.2 ∧ (∀ x y, x ≠ a → e.2.1 x y = h.2.1 x y) ∧ ∀ j, j < s → e.2.1 a j = 0
theorem zf_B {e : ja_H} (b : jv_B h) (p : zf a s h e) : jv_B e := by
  refine ⟨fun i hi => ?_, fun q hq => ?_⟩
  · rw [p.1]
    exact b.1 i hi
  · rw [p.2.1]
    exact b.2 q hq
theorem zf_s {e : ja_H} (p : zf a s (ja_sI h a i 0) e) : zf a s h e := ⟨p.1, p.2.1, fun x y n => by rw [p.2.2.1 x y n, ja_rI, if_neg (fun q => n q.1)], p.2.2.2⟩
theorem zf_k (k : ∀ j, j < i → h.2.1 a j = 0) : ∀ j, j < i + 1 → (ja_sI h a i 0).2.1 a j = 0 := fun j hj => by
  rw [ja_rI]
  by_cases y : j = i
  · rw [if_pos ⟨rfl, y⟩]
  · rw [if_neg (fun q => y q.2)]
    exact k j (by omega)
def mb (e : ja_H) : ja_H := ja_sI (ja_sL (ja_sI (ja_sL (ja_sI e 34 1 2) 36 1 0) 34 10 3) 36 10 0) 25 14 0
theorem lp_66 : ∀ (t i : Nat) (h : ja_H), jv_B h → (∀ j, j < i → h.2.1 39 j = 0) → i ≤ 512 → 512 - i < t → ∃ e, zf 39 512 h e ∧ r_Mo_run_66 t h 25 (nI i) = r_Mo_run_125 ja_fu (mb e) 25 0 0 := by
  intro t
  induction t with
  | zero => intro i h _ _ _ ht; omega
  | succ t ih =>
    intro i h b k hi ht
    show ∃ e, zf 39 512 h e ∧ q_Mo_run_66 (r_Mo_run_66 t) h 25 (nI i) = _
    have e1 : (512 : Int32) ≤ nI i ↔ 512 ≤ i := jn_le (a := 512) (by decide) (by omega)
    by_cases c : 512 ≤ i
    · refine ⟨h, ⟨rfl, rfl, fun _ _ _ => rfl, fun j hj => k j (by omega)⟩, ?_⟩
      have b1 : jv_B (ja_sI h 34 1 2) := b
      have b2 : jv_B (ja_sL (ja_sI h 34 1 2) 36 1 0) := b
      have b3 : jv_B (ja_sI (ja_sL (ja_sI h 34 1 2) 36 1 0) 34 10 3) := b
      have b4 : jv_B (ja_sL (ja_sI (ja_sL (ja_sI h 34 1 2) 36 1 0) 34 10 3) 36 10 0) := b
      have t1 : ∀ (g : ja_H), jv_B g → ∀ (d : Nat), d < 11 → ∀ (x : Int32) (F : ja_H → Option (Int64 × ja_H)), js_I g 34 (nI d) x F = F (ja_sI g 34 d x) := fun g bg d hd x F => by
        rw [jW_34 bg (jn_jx hd (by decide)), jn_clamp (by omega)]
      have t2 : ∀ (g : ja_H), jv_B g → ∀ (d : Nat), d < 11 → ∀ (x : Int64) (F : ja_H → Option (Int64 × ja_H)), js_L g 36 (nI d) x F = F (ja_sL g 36 d x) := fun g bg d hd x F => by
        rw [jW_36 bg (jn_jx hd (by decide)), jn_clamp (by omega)]
      have i1 : ∀ (F : ja_H → Option (Int64 × ja_H)), js_I h 34 1 2 F = F (ja_sI h 34 1 2) := fun F => t1 h b 1 (by decide) 2 F
      have i2 : ∀ (F : ja_H → Option (Int64 × ja_H)), js_L (ja_sI h 34 1 2) 36 1 0 F = F (ja_sL (ja_sI h 34 1 2) 36 1 0) := fun F => t2 _ b1 1 (by decide) 0 F
      have i3 : ∀ (F : ja_H → Option (Int64 × ja_H)), js_I (ja_sL (ja_sI h 34 1 2) 36 1 0) 34 10 3 F = F (ja_sI (ja_sL (ja_sI h 34 1 2) 36 1 0) 34 10 3) := fun F => t1 _ b2 10 (by decide) 3 F
      have i4 : ∀ (F : ja_H → Option (Int64 × ja_H)), js_L (ja_sI (ja_sL (ja_sI h 34 1 2) 36 1 0) 34 10 3) 36 10 0 F = F (ja_sL (ja_sI (ja_sL (ja_sI h 34 1 2) 36 1 0) 34 10 3) 36 10 0) := fun F => t2 _ b3 10 (by decide) 0 F
      rw [q_Mo_run_66, if_pos (e1.mpr c), jR_25_17 b, i1, jR_25_19 b1, i2, jR_25_17 b2, i3, jR_25_19 b3, i4, jpI_25 b4, jlE, jlE]
      rfl
    · have b1 : jv_B (ja_sI h 39 i 0) := b
      obtain ⟨e, f1, f2⟩ := ih (i + 1) _ b1 (zf_k k) (by omega) (by omega)
      refine ⟨e, zf_s f1, ?_⟩
      rw [q_Mo_run_66, if_neg (fun q => c (e1.mp q)), jR_25_22 b, jW_39 b (jn_jx (by omega) (by decide)), jn_clamp (by omega), bz0, jlE, lq_add1]
      exact f2
theorem lp_45 : ∀ (t i : Nat) (h : ja_H), jv_B h → (∀ j, j < i → h.2.1 35 j = 0) → i ≤ 64 → 64 - i < t → ∃ e, zf 35 64 h e ∧ r_Mo_run_45 t h 25 (nI i) = r_Mo_run_66 ja_fu e 25 0 := by
  intro t
  induction t with
  | zero => intro i h _ _ _ ht; omega
  | succ t ih =>
    intro i h b k hi ht
    show ∃ e, zf 35 64 h e ∧ q_Mo_run_45 (r_Mo_run_45 t) h 25 (nI i) = _
    have e1 : (64 : Int32) ≤ nI i ↔ 64 ≤ i := jn_le (a := 64) (by decide) (by omega)
    by_cases c : 64 ≤ i
    · refine ⟨h, ⟨rfl, rfl, fun _ _ _ => rfl, fun j hj => k j (by omega)⟩, ?_⟩
      rw [q_Mo_run_45, if_pos (e1.mpr c), jlE]
    · have b1 : jv_B (ja_sI h 35 i 0) := b
      obtain ⟨e, f1, f2⟩ := ih (i + 1) _ b1 (zf_k k) (by omega) (by omega)
      refine ⟨e, zf_s f1, ?_⟩
      rw [q_Mo_run_45, if_neg (fun q => c (e1.mp q)), jR_25_18 b, jW_35 b (jn_jx (by omega) (by decide)), jn_clamp (by omega), jlE, lq_add1]
      exact f2
theorem lp_24 : ∀ (t i : Nat) (h : ja_H), jv_B h → (∀ j, j < i → h.2.1 34 j = 0) → i ≤ 11 → 11 - i < t → ∃ e, zf 34 11 h e ∧ r_Mo_run_24 t h 25 (nI i) = r_Mo_run_45 ja_fu e 25 0 := by
  intro t
  induction t with
  | zero => intro i h _ _ _ ht; omega
  | succ t ih =>
    intro i h b k hi ht
    show ∃ e, zf 34 11 h e ∧ q_Mo_run_24 (r_Mo_run_24 t) h 25 (nI i) = _
    have e1 : (11 : Int32) ≤ nI i ↔ 11 ≤ i := jn_le (a := 11) (by decide) (by omega)
    by_cases c : 11 ≤ i
    · refine ⟨h, ⟨rfl, rfl, fun _ _ _ => rfl, fun j hj => k j (by omega)⟩, ?_⟩
      rw [q_Mo_run_24, if_pos (e1.mpr c), jlE]
    · have b1 : jv_B (ja_sI h 34 i 0) := b
      obtain ⟨e, f1, f2⟩ := ih (i + 1) _ b1 (zf_k k) (by omega) (by omega)
      refine ⟨e, zf_s f1, ?_⟩
      rw [q_Mo_run_24, if_neg (fun q => c (e1.mp q)), jR_25_17 b, jW_34 b (jn_jx (by omega) (by decide)), jn_clamp (by omega), jlE, lq_add1]
      exact f2
end D3
