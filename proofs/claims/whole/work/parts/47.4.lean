section D4
variable {h f : ja_H} {J K : jS} {g C q : Nat → Int32} {a s d c k m n u i o : Nat} {W : Nat → Int64}
theorem mb_R {e : ja_H} (z34 : ∀ j, j < 11 → e.2.1 34 j = 0) (z35 : ∀ j, j < 64 → e.2.1 35 j = 0) (z39 : ∀ j, j < 512 → e.2.1 39 j = 0) : mR (mb e) jS_0' := by
  have oI : ∀ a b, a ≠ 34 → ¬ (a = 25 ∧ b = 14) → (mb e).2.1 a b = e.2.1 a b := fun a b n1 n2 => by
    unfold mb
    rw [ja_rI, if_neg n2, ja_rLI, ja_rI, if_neg (fun q => n1 q.1), ja_rLI, ja_rI, if_neg (fun q => n1 q.1)]
  have e34 : ∀ c, (mb e).2.1 34 c = if c = 10 then 3 else if c = 1 then 2 else e.2.1 34 c := fun c => by
    unfold mb
    rw [ja_rI, if_neg (by omega), ja_rLI, ja_rI, ja_rLI, ja_rI]
    by_cases y : c = 10
    · rw [if_pos ⟨rfl, y⟩, if_pos y]
    · rw [if_neg (fun q => y q.2), if_neg y]
      by_cases y2 : c = 1
      · rw [if_pos ⟨rfl, y2⟩, if_pos y2]
      · rw [if_neg (fun q => y2 q.2), if_neg y2]
  have e36 : ∀ c, (mb e).2.2.1 36 c = if c = 10 then 0 else if c = 1 then 0 else e.2.2.1 36 c := fun c => by
    unfold mb
    rw [ja_rIL, ja_rL, ja_rIL, ja_rL, ja_rIL]
    by_cases y : c = 10
    · rw [if_pos ⟨rfl, y⟩, if_pos y]
    · rw [if_neg (fun q => y q.2), if_neg y]
      by_cases y2 : c = 1
      · rw [if_pos ⟨rfl, y2⟩, if_pos y2]
      · rw [if_neg (fun q => y2 q.2), if_neg y2]
  refine ⟨fun c hc => ?_, fun j hj => ?_, fun j hj => ?_⟩
  · rw [e34, e36]
    by_cases c1 : c = 1
    · subst c1
      exact ⟨rfl, fun _ => rfl⟩
    · by_cases c2 : c = 10
      · subst c2
        exact ⟨rfl, fun _ => rfl⟩
      · have q : (jS_0'.1 c) = (0, 0) := by
          show (if c = 1 then (2, 0) else if c = 10 then (3, 0) else (0, 0)) = _
          rw [if_neg c1, if_neg c2]
        rw [q, if_neg c2, if_neg c1]
        exact ⟨z34 c hc, fun y => absurd rfl y⟩
  · rw [oI 35 j (by decide) (by omega)]
    exact ⟨z35 j hj, fun y => absurd rfl y, Or.inl rfl⟩
  · rw [oI 39 j (by decide) (by omega)]
    exact ⟨z39 j hj, fun y => nomatch y⟩
theorem mo_runs (n1 : n ≤ 1024) (hm : m ≤ 256) (hC : ∀ i, ∃ v, v < 256 ∧ C i = nI v) (r : jrn W C n m u 0 jS_0' K) (u1 : u ≤ n) (b : jv_B h) (h5 : h.2.1 25 5 = 1) (hW : ∀ k, k < 1024 → h.2.2.1 26 k = W k) (e9 : h.2.1 25 9 = nI m) (hM : ∀ i, i < 256 → h.2.1 29 i = C i) : ∃ f, r_Mo_run h 25 = some ((K.1 0).2, f) ∧ mx_f (ja_sI h 25 0 0) f ∧ f.2.1 25 14 = nI u := by
  have b0 : jv_B (ja_sI h 25 0 0) := b
  obtain ⟨e1, x1, y1⟩ := lp_24 2000 0 _ b0 (fun j hj => absurd hj (by omega)) (by omega) (by omega)
  have b1 := zf_B b0 x1
  obtain ⟨e2, x2, y2⟩ := lp_45 2000 0 _ b1 (fun j hj => absurd hj (by omega)) (by omega) (by omega)
  have b2 := zf_B b1 x2
  obtain ⟨e3, x3, y3⟩ := lp_66 2000 0 _ b2 (fun j hj => absurd hj (by omega)) (by omega) (by omega)
  have b3 := zf_B b2 x3
  have bm : jv_B (mb e3) := b3
  have o3 : ∀ a c, a ≠ 34 → a ≠ 35 → a ≠ 39 → e3.2.1 a c = (ja_sI h 25 0 0).2.1 a c := fun a c q1 q2 q3 => by
    rw [x3.2.2.1 a c q3, x2.2.2.1 a c q2, x1.2.2.1 a c q1]
  have oI : ∀ a c, a ≠ 34 → a ≠ 35 → a ≠ 39 → ¬ (a = 25 ∧ c = 14) → (mb e3).2.1 a c = (ja_sI h 25 0 0).2.1 a c := fun a c q1 q2 q3 q4 => by
    rw [← o3 a c q1 q2 q3]
    unfold mb
    rw [ja_rI, if_neg q4, ja_rLI, ja_rI, if_neg (fun q => q1 q.1), ja_rLI, ja_rI, if_neg (fun q => q1 q.1)]
  have oL : ∀ a c, a ≠ 36 → (mb e3).2.2.1 a c = h.2.2.1 a c := fun a c q1 => by
    unfold mb
    rw [ja_rIL, ja_rL, if_neg (fun q => q1 q.1), ja_rIL, ja_rL, if_neg (fun q => q1 q.1), ja_rIL, x3.2.1, x2.2.1, x1.2.1]
    rfl
  have m0 : mR (mb e3) jS_0' := mb_R (fun j hj => by rw [x3.2.2.1 34 j (by decide), x2.2.2.1 34 j (by decide), x1.2.2.2 j hj]) (fun j hj => by rw [x3.2.2.1 35 j (by decide), x2.2.2.2 j hj]) x3.2.2.2
  have s0 : (mb e3).2.1 25 14 = 0 := by
    unfold mb
    rw [ja_rI, if_pos ⟨rfl, rfl⟩]
  have pm0 : mx_f (ja_sI h 25 0 0) (mb e3) := by
    refine ⟨x3.1.trans (x2.1.trans x1.1), ?_, fun a c q1 q2 _ q4 q5 => oI a c q1 q2 q4 q5, fun a c q1 _ => oL a c q1⟩
    show e3.2.2.2 = h.2.2.2
    rw [x3.2.1, x2.2.1, x1.2.1]
    rfl
  have lI0 : ∀ a c, ¬ (a = 25 ∧ c = 0) → (ja_sI h 25 0 0).2.1 a c = h.2.1 a c := fun a c q => by
    rw [ja_rI, if_neg q]
  obtain ⟨f, f1, f2, f3⟩ := mr_lp n1 hm hC u 2000 0 (mb e3) jS_0' K r (by omega) bm (fun k hk => (oL 26 k (by decide)).trans (hW k hk)) (by rw [oI 25 9 (by decide) (by decide) (by decide) (by omega), lI0 25 9 (by omega)]; exact e9) (fun i hi => by rw [oI 29 i (by decide) (by decide) (by decide) (by omega), lI0 29 i (by omega)]; exact hM i hi) m0
  refine ⟨f, ?_, mx_t pm0 f2, ?_⟩
  · rw [r_Mo_run, jI_25 b, h5, if_neg i10, r_Mo_run_13, jk_25 b, lw_fails0 b, jcI, if_pos rfl, jlE, ja_fu_eq]
    rw [show r_Mo_run_24 2000 (ja_sI h 25 0 0) 25 0 = _ from y1, ja_fu_eq]
    rw [show r_Mo_run_45 2000 e1 25 0 = _ from y2, ja_fu_eq]
    rw [show r_Mo_run_66 2000 e2 25 0 = _ from y3, ja_fu_eq]
    exact f1
  · rw [f3, s0, Int32.zero_add]
end D4
