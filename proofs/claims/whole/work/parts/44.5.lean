section MS
variable {h g f : ja_H} {r s c k : Nat} {v : pv_T} {σ τ : sg_S}
def mS (h : ja_H) (r : Nat) (σ : sg_S) : Prop := (∀ c, c < 75 → mv h r c = σ.1 c) ∧ ∀ j, j < 512 → h.2.1 33 (512 * r + j) = bo (σ.2 j)
def mF (s : Nat) (h g : ja_H) : Prop := g.1 = h.1 ∧ g.2.2.2 = h.2.2.2 ∧ (∀ a b, ¬ (a = 30 ∧ 75 * s ≤ b ∧ b < 75 * s + 75) → ¬ (a = 33 ∧ 512 * s ≤ b ∧ b < 512 * s + 512) → g.2.1 a b = h.2.1 a b) ∧ (∀ a b, ¬ ((a = 31 ∨ a = 32) ∧ 75 * s ≤ b ∧ b < 75 * s + 75) → g.2.2.1 a b = h.2.2.1 a b)
theorem mF0 : mF s h h := ⟨rfl, rfl, fun _ _ _ _ => rfl, fun _ _ _ => rfl⟩
theorem mFt (p : mF s h g) (q : mF s g f) : mF s h f := ⟨q.1.trans p.1, q.2.1.trans p.2.1, fun a b x y => (q.2.2.1 a b x y).trans (p.2.2.1 a b x y), fun a b x => (q.2.2.2 a b x).trans (p.2.2.2 a b x)⟩
theorem mF_B (b : jv_B h) (p : mF s h g) : jv_B g := by
  refine ⟨fun i hi => ?_, fun q hq => ?_⟩
  · rw [p.1]
    exact b.1 i hi
  · rw [p.2.1]
    exact b.2 q hq
theorem mF_v (p : mF s h g) (n : r ≠ s) (hc : c < 75) : mv g r c = mv h r c := by
  unfold mv
  rw [p.2.2.1 30 _ (by omega) (by omega), p.2.2.2 31 _ (by omega), p.2.2.2 32 _ (by omega)]
theorem mF_j {j : Nat} (p : mF s h g) (n : r ≠ s) (hj : j < 512) : g.2.1 33 (512 * r + j) = h.2.1 33 (512 * r + j) := p.2.2.1 33 _ (by omega) (by omega)
theorem mF_S (p : mF s h g) (n : r ≠ s) (m : mS h r σ) : mS g r σ := ⟨fun c hc => (mF_v p n hc).trans (m.1 c hc), fun j hj => (mF_j p n hj).trans (m.2 j hj)⟩
theorem mF_g (hc : c < 75) : mF s h (mgv h s c v) := by
  refine ⟨rfl, rfl, fun a b x y => ?_, fun a b x => ?_⟩
  · show (ja_sI h 30 (75 * s + c) v.1).2.1 a b = _
    rw [ja_rI, if_neg (by omega)]
  · unfold mgv
    rw [ja_rL, if_neg (by omega), ja_rL, if_neg (by omega)]
    rfl
theorem mgv_v {c' : Nat} (hc : c < 75) (hc' : c' < 75) : mv (mgv h s c v) r c' = if r = s ∧ c' = c then v else mv h r c' := by
  unfold mv mgv
  have e : (r = s ∧ c' = c) ↔ 75 * r + c' = 75 * s + c := by omega
  simp only [ja_rL, ja_rLI, ja_rI, ja_rIL]
  by_cases q : r = s ∧ c' = c
  · have q2 := e.mp q
    simp [q, q2]
  · have q2 : ¬ 75 * r + c' = 75 * s + c := fun z => q (e.mpr z)
    simp [q, q2]
theorem mgv_j {i : Nat} : (mgv h s c v).2.1 33 i = h.2.1 33 i := by
  unfold mgv
  rw [ja_rLI, ja_rLI, ja_rI, if_neg (by omega)]
theorem mF_z {j : Nat} {x : Int32} (hj : j < 512) : mF s h (ja_sI h 33 (512 * s + j) x) := by
  refine ⟨rfl, rfl, fun a b y z => ?_, fun a b y => rfl⟩
  rw [ja_rI, if_neg (by omega)]
theorem mz_v {i : Nat} {x : Int32} : mv (ja_sI h 33 i x) r c = mv h r c := by
  unfold mv
  rw [ja_rI, if_neg (by omega)]
  rfl
theorem mz_j {i j : Nat} {x : Int32} (hj : j < 512) (hi : i < 512) : (ja_sI h 33 (512 * s + j) x).2.1 33 (512 * r + i) = if r = s ∧ i = j then x else h.2.1 33 (512 * r + i) := by
  rw [ja_rI]
  by_cases q : r = s ∧ i = j
  · rw [if_pos q, if_pos (by omega)]
  · rw [if_neg q, if_neg (by omega)]
theorem mo_512 {j : Nat} : nI r * 512 + nI j = nI (512 * r + j) := by
  rw [show (512 : Int32) = nI 512 from rfl, jn_mul, jn_add, Nat.mul_comm]
theorem mo_W33 {α : Type} {j : Nat} {x : Int32} {K : ja_H → Option α} (b : jv_B h) (hs : s < 1026) (hj : j < 512) (hx : x = 0 ∨ x = 1) : js_Z h 33 (nI (512 * s + j)) x K = K (ja_sI h 33 (512 * s + j) x) := by
  have nz : vp_nar .boolean x = x := by
    rcases hx with e | e <;> subst e <;> decide
  rw [jW_33 b (jn_jx (by omega) (by decide)), jn_clamp (by omega), nz]
theorem mo_E33 {α : Type} {j : Nat} {K : Int32 → Option α} (b : jv_B h) (hs : s < 1026) (hj : j < 512) : je_I h 33 2 (nI (512 * s + j)) K = K (h.2.1 33 (512 * s + j)) := by
  rw [jE_33 b (jn_jx (by omega) (by decide)), jn_clamp (by omega)]
def mk4 (v : pv_T) : Prop := v.1 = 0 ∨ v.1 = 1 ∨ v.1 = 2 ∨ v.1 = 3
theorem mo_cp2 (hr : r < 1026) (hs : s < 1026) (rs : r ≠ s) : ∀ (t : Nat) (h : ja_H) (j : Nat), jv_B h → (∀ c, c < 75 → mk4 (mv h r c)) → j ≤ 75 → 75 - j < t → ∃ h', r_Mo_copy_2 t h 25 (nI r) (nI s) (nI j) = r_Mo_copy_40 ja_fu h' 25 (nI r) (nI s) 0 ∧ mF s h h' ∧ (∀ c, c < 75 → mv h' s c = if j ≤ c then mv h r c else mv h s c) ∧ (∀ i, h'.2.1 33 i = h.2.1 33 i) := by
  intro t
  induction t with
  | zero => intro h j _ _ _ ht; omega
  | succ t ih =>
    intro h j b ok hj ht
    show ∃ h', q_Mo_copy_2 (r_Mo_copy_2 t) h 25 (nI r) (nI s) (nI j) = _ ∧ _
    have e1 : ((75 : Int32) ≤ nI j) = (75 ≤ j) := propext (jn_le (a := 75) (by omega) (by omega))
    simp only [q_Mo_copy_2, jlE, e1, lq_ad1]
    by_cases q : 75 ≤ j
    · rw [if_pos q]
      refine ⟨h, rfl, mF0, fun c hc => ?_, fun _ => rfl⟩
      rw [if_neg (by omega)]
    · have j75 : j < 75 := by omega
      rw [if_neg q]
      simp only [jk_25 b, mo_is b hr j75, mo_least b hr j75, mo_most b hr j75, jcI, jcL, mo_give b hs j75 (ok j j75), jcV]
      have p : mF s h (mgv h s j (mv h r j)) := mF_g j75
      have b1 := mF_B b p
      obtain ⟨h', u1, u2, u3, u4⟩ := ih (mgv h s j (mv h r j)) (j + 1) b1 (fun c hc => by rw [mF_v p rs hc]; exact ok c hc) (by omega) (by omega)
      refine ⟨h', u1, mFt p u2, fun c hc => ?_, fun i => (u4 i).trans mgv_j⟩
      rw [u3 c hc, mF_v p rs hc, mgv_v j75 hc]
      by_cases z : c = j
      · subst z
        rw [if_neg (by omega), if_pos ⟨rfl, rfl⟩, if_pos (by omega)]
      · rw [if_neg (c := s = s ∧ c = j) (fun w => z w.2)]
        by_cases y : j + 1 ≤ c
        · rw [if_pos y, if_pos (by omega)]
        · rw [if_neg y, if_neg (by omega)]
theorem mo_cp40 (hr : r < 1026) (hs : s < 1026) (rs : r ≠ s) : ∀ (t : Nat) (h : ja_H) (j : Nat), jv_B h → (∀ i, i < 512 → h.2.1 33 (512 * r + i) = 0 ∨ h.2.1 33 (512 * r + i) = 1) → j ≤ 512 → 512 - j < t → ∃ h', r_Mo_copy_40 t h 25 (nI r) (nI s) (nI j) = some h' ∧ mF s h h' ∧ (∀ c, c < 75 → mv h' s c = mv h s c) ∧ (∀ i, i < 512 → h'.2.1 33 (512 * s + i) = if j ≤ i then h.2.1 33 (512 * r + i) else h.2.1 33 (512 * s + i)) := by
  intro t
  induction t with
  | zero => intro h j _ _ _ ht; omega
  | succ t ih =>
    intro h j b ok hj ht
    show ∃ h', q_Mo_copy_40 (r_Mo_copy_40 t) h 25 (nI r) (nI s) (nI j) = _ ∧ _
    have e1 : ((512 : Int32) ≤ nI j) = (512 ≤ j) := propext (jn_le (a := 512) (by omega) (by omega))
    simp only [q_Mo_copy_40, jlE, e1, lq_ad1, mo_512]
    by_cases q : 512 ≤ j
    · rw [if_pos q]
      refine ⟨h, rfl, mF0, fun c hc => rfl, fun i hi => ?_⟩
      rw [if_neg (by omega)]
    · have j5 : j < 512 := by omega
      rw [if_neg q]
      simp only [jR_25_13 b, mo_E33 b hr j5, mo_W33 b hs j5 (ok j j5)]
      have p : mF s h (ja_sI h 33 (512 * s + j) (h.2.1 33 (512 * r + j))) := mF_z j5
      have b1 := mF_B b p
      obtain ⟨h', u1, u2, u3, u4⟩ := ih (ja_sI h 33 (512 * s + j) (h.2.1 33 (512 * r + j))) (j + 1) b1 (fun i hi => by rw [mF_j p rs hi]; exact ok i hi) (by omega) (by omega)
      refine ⟨h', u1, mFt p u2, fun c hc => (u3 c hc).trans mz_v, fun i hi => ?_⟩
      rw [u4 i hi, mF_j p rs hi, mz_j j5 hi]
      by_cases z : i = j
      · subst z
        rw [if_neg (by omega), if_pos ⟨rfl, rfl⟩, if_pos (by omega)]
      · rw [if_neg (c := s = s ∧ i = j) (fun w => z w.2)]
        by_cases y : j + 1 ≤ i
        · rw [if_pos y, if_pos (by omega)]
        · rw [if_neg y, if_neg (by omega)]
theorem bo_01 (b : Bool) : bo b = 0 ∨ bo b = 1 := by
  cases b
  · exact Or.inl rfl
  · exact Or.inr rfl
theorem sg_mk4 (ok : sg_ok σ) (hc : c < 75) : mk4 (σ.1 c) := pv_c (ok c hc)
theorem mo_copy (b : jv_B h) (hr : r < 1026) (hs : s < 1026) (rs : r ≠ s) (m : mS h r σ) (ok : sg_ok σ) : ∃ h', r_Mo_copy h 25 (nI r) (nI s) = some h' ∧ mF s h h' ∧ mS h' s σ := by
  obtain ⟨h1, u1, u2, u3, u4⟩ := mo_cp2 hr hs rs ja_fu h 0 b (fun c hc => by rw [m.1 c hc]; exact sg_mk4 ok hc) (by omega) (by rw [ja_fu_eq]; decide)
  have b1 := mF_B b u2
  obtain ⟨h2, v1, v2, v3, v4⟩ := mo_cp40 hr hs rs ja_fu h1 0 b1 (fun i hi => by rw [u4, m.2 i hi]; exact bo_01 _) (by omega) (by rw [ja_fu_eq]; decide)
  refine ⟨h2, ?_, mFt u2 v2, fun c hc => ?_, fun j hj => ?_⟩
  · simp only [r_Mo_copy, jlE]
    exact u1.trans v1
  · rw [v3 c hc, u3 c hc, if_pos (by omega)]
    exact m.1 c hc
  · rw [v4 j hj, if_pos (by omega), u4]
    exact m.2 j hj
theorem mo_c25 (hr : r < 1026) (hs : s < 1026) (rs : r ≠ s) : ∀ (t : Nat) (h : ja_H) (j : Nat), jv_B h → (∀ i, i < 512 → h.2.1 33 (512 * r + i) = 0 ∨ h.2.1 33 (512 * r + i) = 1) → (∀ i, i < 512 → h.2.1 33 (512 * s + i) = 0 ∨ h.2.1 33 (512 * s + i) = 1) → j ≤ 512 → 512 - j < t → ∃ h', r_Mo_comes_25 t h 25 (nI r) (nI s) (nI j) = r_Mo_comes_67 ja_fu h' 25 (nI r) (nI s) 0 ∧ mF s h h' ∧ (∀ c, c < 75 → mv h' s c = mv h s c) ∧ (∀ i, i < 512 → h'.2.1 33 (512 * s + i) = if j ≤ i then h.2.1 33 (512 * s + i) &&& h.2.1 33 (512 * r + i) else h.2.1 33 (512 * s + i)) := by
  have an : ∀ x y : Int32, (x = 0 ∨ x = 1) → (y = 0 ∨ y = 1) → x &&& y = 0 ∨ x &&& y = 1 := fun x y q1 q2 => by
    rcases q1 with e | e <;> rcases q2 with e2 | e2 <;> subst e <;> subst e2 <;> decide
  intro t
  induction t with
  | zero => intro h j _ _ _ _ ht; omega
  | succ t ih =>
    intro h j b ok ok2 hj ht
    show ∃ h', q_Mo_comes_25 (r_Mo_comes_25 t) h 25 (nI r) (nI s) (nI j) = _ ∧ _
    have e1 : ((512 : Int32) ≤ nI j) = (512 ≤ j) := propext (jn_le (a := 512) (by omega) (by omega))
    simp only [q_Mo_comes_25, jlE, e1, lq_ad1, mo_512]
    by_cases q : 512 ≤ j
    · rw [if_pos q]
      refine ⟨h, rfl, mF0, fun c hc => rfl, fun i hi => ?_⟩
      rw [if_neg (by omega)]
    · have j5 : j < 512 := by omega
      rw [if_neg q]
      simp only [jR_25_13 b, mo_E33 b hr j5, mo_E33 b hs j5, mo_W33 b hs j5 (an _ _ (ok2 j j5) (ok j j5))]
      have p : mF s h (ja_sI h 33 (512 * s + j) (h.2.1 33 (512 * s + j) &&& h.2.1 33 (512 * r + j))) := mF_z j5
      have b1 := mF_B b p
      obtain ⟨h', u1, u2, u3, u4⟩ := ih (ja_sI h 33 (512 * s + j) (h.2.1 33 (512 * s + j) &&& h.2.1 33 (512 * r + j))) (j + 1) b1 (fun i hi => by rw [mF_j p rs hi]; exact ok i hi) (fun i hi => by
        rw [mz_j j5 hi]
        split
        · exact an _ _ (ok2 j j5) (ok j j5)
        · exact ok2 i hi) (by omega) (by omega)
      refine ⟨h', u1, mFt p u2, fun c hc => (u3 c hc).trans mz_v, fun i hi => ?_⟩
      rw [u4 i hi, mF_j p rs hi, mz_j j5 hi]
      by_cases z : i = j
      · subst z
        rw [if_neg (by omega), if_pos ⟨rfl, rfl⟩, if_pos (by omega)]
      · rw [if_neg (c := s = s ∧ i = j) (fun w => z w.2)]
        by_cases y : j + 1 ≤ i
        · rw [if_pos y, if_pos (by omega)]
        · rw [if_neg y, if_neg (by omega)]
theorem mo_c167 {C : ja_H → Nat → Int32 → Int32 → Int32 → Option (ja_H)} {j : Nat} (hs : s < 1026) (j1 : 11 ≤ j) (j2 : j < 75) : ∀ (t : Nat) (h : ja_H) (y : Nat), jv_B h → y ≤ 8 → 8 - y < t → ∃ h', r_Mo_comes_167 C t h 25 (nI r) (nI s) (nI j) (nI y) = r_Mo_comes_243 C h' 25 (nI r) (nI s) (nI j) ∧ mF s h h' ∧ (∀ c, c < 75 → mv h' s c = mv h s c) ∧ (∀ i, i < 512 → h'.2.1 33 (512 * s + i) = if i / 8 = j - 11 ∧ y ≤ i % 8 then 0 else h.2.1 33 (512 * s + i)) := by
  intro t
  induction t with
  | zero => intro h y _ _ ht; omega
  | succ t ih =>
    intro h y b hy ht
    show ∃ h', q_Mo_comes_167 C (r_Mo_comes_167 C t) h 25 (nI r) (nI s) (nI j) (nI y) = _ ∧ _
    have e1 : ((8 : Int32) ≤ nI y) = (8 ≤ y) := propext (jn_le (a := 8) (by omega) (by omega))
    simp only [q_Mo_comes_167, jlE, e1, lq_ad1]
    by_cases q : 8 ≤ y
    · rw [if_pos q]
      refine ⟨h, rfl, mF0, fun c hc => rfl, fun i hi => ?_⟩
      rw [if_neg (by omega)]
    · have e2 : nI s * 512 + (8 : Int32) * (nI j - 11) + nI y = nI (512 * s + (8 * (j - 11) + y)) := by
        rw [show (11 : Int32) = nI 11 from rfl, jn_sub (by omega), show (8 : Int32) = nI 8 from rfl, jn_mul, mo_512, jn_add, Nat.add_assoc]
      have j5 : 8 * (j - 11) + y < 512 := by omega
      rw [if_neg q, jR_25_13 b, e2, mo_W33 b hs j5 (Or.inl rfl)]
      have p : mF s h (ja_sI h 33 (512 * s + (8 * (j - 11) + y)) 0) := mF_z j5
      have b1 := mF_B b p
      obtain ⟨h', u1, u2, u3, u4⟩ := ih (ja_sI h 33 (512 * s + (8 * (j - 11) + y)) 0) (y + 1) b1 (by omega) (by omega)
      refine ⟨h', u1, mFt p u2, fun c hc => (u3 c hc).trans mz_v, fun i hi => ?_⟩
      rw [u4 i hi, mz_j j5 hi]
      by_cases z : i = 8 * (j - 11) + y
      · rw [if_neg (by omega), if_pos ⟨rfl, z⟩, if_pos (by omega)]
      · rw [if_neg (c := s = s ∧ _) (fun w => z w.2)]
        by_cases y2 : i / 8 = j - 11 ∧ y + 1 ≤ i % 8
        · rw [if_pos y2, if_pos (by omega)]
        · rw [if_neg y2, if_neg (by omega)]
theorem mo_ptr (b : jv_B h) (hr : r < 1026) (hc : c < 75) (m4 : mk4 (mv h r c)) : r_Mo_pointer h 25 (nI r) (nI c) = some (pn_ptr (mv h r c), h) := by
  simp only [r_Mo_pointer, r_Mo_pointer_15, jk_25 b, mo_is b hr hc, jcI, jb0, jb1]
  unfold pn_ptr
  rcases m4 with e | e | e | e <;> simp (decide := true) only [e, reduceIte]
theorem pp_01 (v : pv_T) : pn_ptr v = 0 ∨ pn_ptr v = 1 := by
  unfold pn_ptr
  split
  · exact Or.inr rfl
  · split
    · exact Or.inr rfl
    · exact Or.inl rfl
theorem mo_cell {C : ja_H → Nat → Int32 → Int32 → Int32 → Option (ja_H)} {j : Nat} (b : jv_B h) (hr : r < 1026) (hs : s < 1026) (rs : r ≠ s) (j75 : j < 75) (ou : pv_ok (mv h s j)) (ov : pv_ok (mv h r j)) : ∃ h', q_Mo_comes_67 C h 25 (nI r) (nI s) (nI j) = r_Mo_comes_243 C h' 25 (nI r) (nI s) (nI j) ∧ mF s h h' ∧ (∀ c, c < 75 → mv h' s c = if c = j then pj_v (mv h s j) (mv h r j) else mv h s c) ∧ (∀ i, i < 512 → h'.2.1 33 (512 * s + i) = if 11 + i / 8 = j ∧ ¬ pj_z (mv h s j) (mv h r j) = 0 then 0 else h.2.1 33 (512 * s + i)) := by
  have e1 : ((75 : Int32) ≤ nI j) = (75 ≤ j) := propext (jn_le (a := 75) (by omega) (by omega))
  have e2 : (nI j ≤ (10 : Int32)) = (j ≤ 10) := propext (jn_le (b := 10) (by omega) (by omega))
  have gv : ∀ v : pv_T, mk4 v → ∃ h', r_Mo_give h 25 (nI s) (nI j) v.1 v.2.1 v.2.2 = some h' ∧ h' = mgv h s j v := fun v q => ⟨_, mo_give b hs j75 q, rfl⟩
  have h144 : ∀ y4 : Int32, (y4 = 0 ∨ y4 = 1) → ∃ h', r_Mo_comes_144 C h 25 (nI r) (nI s) (nI j) y4 = r_Mo_comes_243 C h' 25 (nI r) (nI s) (nI j) ∧ mF s h h' ∧ (∀ c, c < 75 → mv h' s c = if c = j then (0, 0, 0) else mv h s c) ∧ (∀ i, i < 512 → h'.2.1 33 (512 * s + i) = if 11 + i / 8 = j ∧ ¬ y4 = 0 then 0 else h.2.1 33 (512 * s + i)) := fun y4 hy => by
    have p : mF s h (mgv h s j (0, 0, 0)) := mF_g j75
    have b1 := mF_B b p
    have vv : ∀ c, c < 75 → mv (mgv h s j (0, 0, 0)) s c = if c = j then (0, 0, 0) else mv h s c := fun c hc => by
      rw [mgv_v j75 hc]
      by_cases z : c = j
      · rw [if_pos ⟨rfl, z⟩, if_pos z]
      · rw [if_neg (fun w => z w.2), if_neg z]
    simp only [r_Mo_comes_144, jk_25 b, mo_give b hs j75 (Or.inl rfl), jcV, e2, jlE]
    by_cases z1 : j ≤ 10
    · rw [if_pos z1]
      refine ⟨_, rfl, p, vv, fun i hi => ?_⟩
      rw [if_neg (by omega), mgv_j]
    · rw [if_neg z1]
      by_cases z2 : y4 = 0
      · rw [if_pos z2]
        refine ⟨_, rfl, p, vv, fun i hi => ?_⟩
        rw [if_neg (fun w => w.2 z2), mgv_j]
      · rw [if_neg z2]
        obtain ⟨h', u1, u2, u3, u4⟩ := mo_c167 (C := C) (r := r) hs (show 11 ≤ j by omega) j75 ja_fu (mgv h s j (0, 0, 0)) 0 b1 (by omega) (by rw [ja_fu_eq]; decide)
        refine ⟨h', u1, mFt p u2, fun c hc => (u3 c hc).trans (vv c hc), fun i hi => ?_⟩
        rw [u4 i hi, mgv_j]
        by_cases y : 11 + i / 8 = j
        · rw [if_pos (by omega), if_pos ⟨y, z2⟩]
        · rw [if_neg (by omega), if_neg (fun w => y w.1)]
  have h139 : ∀ y4 : Int32, (mv h s j).1 = (mv h r j).1 → y4 = pn_ptr (mv h s j) → ∃ h', r_Mo_comes_139 C h 25 (nI r) (nI s) (nI j) y4 (mv h s j).1 = r_Mo_comes_243 C h' 25 (nI r) (nI s) (nI j) ∧ mF s h h' ∧ (∀ c, c < 75 → mv h' s c = if c = j then ((mv h s j).1, mn_L (mv h s j).2.1 (mv h r j).2.1, mx_L (mv h s j).2.2 (mv h r j).2.2) else mv h s c) ∧ (∀ i, i < 512 → h'.2.1 33 (512 * s + i) = h.2.1 33 (512 * s + i)) := fun y4 ek ey => by
    simp only [r_Mo_comes_139]
    by_cases z : (mv h s j).1 = 0
    · rw [if_pos z]
      have z2 : (mv h r j).1 = 0 := ek ▸ z
      have y0 : y4 = 0 := by
        rw [ey]
        unfold pn_ptr
        rw [z]
        decide
      obtain ⟨h', u1, u2, u3, u4⟩ := h144 y4 (Or.inl y0)
      refine ⟨h', u1, u2, fun c hc => ?_, fun i hi => ?_⟩
      · rw [u3 c hc, pv_k0 ou z, pv_k0 ov z2]
        rfl
      · rw [u4 i hi, if_neg (fun w => w.2 y0)]
    · rw [if_neg z]
      have p : mF s h (mgv h s j ((mv h s j).1, mn_L (mv h s j).2.1 (mv h r j).2.1, mx_L (mv h s j).2.2 (mv h r j).2.2)) := mF_g j75
      simp only [jk_25 b, mo_least b hs j75, mo_least b hr j75, mo_most b hs j75, mo_most b hr j75, jcL, w_minL, w_maxL, mo_give b hs j75 (pv_c ou), jcV]
      refine ⟨_, rfl, p, fun c hc => ?_, fun i hi => mgv_j⟩
      rw [mgv_v j75 hc]
      by_cases y : c = j
      · rw [if_pos ⟨rfl, y⟩, if_pos y]
      · rw [if_neg (fun w => y w.2), if_neg y]
  have h96 : ∀ y4 : Int32, y4 = (if pn_ptr (mv h s j) = 0 then pn_ptr (mv h r j) else 1) → ∃ h', r_Mo_comes_96 C h 25 (nI r) (nI s) (nI j) y4 = r_Mo_comes_243 C h' 25 (nI r) (nI s) (nI j) ∧ mF s h h' ∧ (∀ c, c < 75 → mv h' s c = if c = j then pj_v (mv h s j) (mv h r j) else mv h s c) ∧ (∀ i, i < 512 → h'.2.1 33 (512 * s + i) = if 11 + i / 8 = j ∧ ¬ pj_z (mv h s j) (mv h r j) = 0 then 0 else h.2.1 33 (512 * s + i)) := fun y4 ey => by
    have y01 : y4 = 0 ∨ y4 = 1 := by
      rw [ey]
      unfold pn_ptr
      repeat' split
      all_goals first | exact Or.inl rfl | exact Or.inr rfl
    simp only [r_Mo_comes_96, jlE, jk_25 b, mo_is b hs j75, mo_is b hr j75, mo_least b hs j75, mo_least b hr j75, jcI, jcL]
    unfold pj_v pj_z
    by_cases c1 : (mv h s j).1 = (mv h r j).1
    · have yp : y4 = pn_ptr (mv h s j) := by
        have e3 : pn_ptr (mv h r j) = pn_ptr (mv h s j) := by
          unfold pn_ptr
          rw [c1]
        rw [ey, e3]
        rcases pp_01 (mv h s j) with z | z
        · rw [if_pos z]
        · rw [z, if_neg i10]
      rw [if_pos c1, if_pos c1, if_pos c1]
      by_cases c2 : (mv h s j).1 = 3
      · rw [if_pos c2, if_pos c2, if_pos c2]
        by_cases c3 : (mv h s j).2.1 = (mv h r j).2.1
        · rw [if_pos c3, if_pos c3, if_pos c3]
          obtain ⟨h', u1, u2, u3, u4⟩ := h139 y4 c1 yp
          exact ⟨h', u1, u2, u3, fun i hi => by rw [u4 i hi, if_neg (fun w => w.2 rfl)]⟩
        · rw [if_neg c3, if_neg c3, if_neg c3]
          have y1 : ¬ y4 = 0 := by
            rw [yp]
            exact pn_p3 c2
          obtain ⟨h', u1, u2, u3, u4⟩ := h144 y4 y01
          refine ⟨h', u1, u2, u3, fun i hi => ?_⟩
          rw [u4 i hi]
          by_cases y : 11 + i / 8 = j
          · rw [if_pos ⟨y, y1⟩, if_pos ⟨y, i10⟩]
          · rw [if_neg (fun w => y w.1), if_neg (fun w => y w.1)]
      · rw [if_neg c2, if_neg c2, if_neg c2]
        obtain ⟨h', u1, u2, u3, u4⟩ := h139 y4 c1 yp
        exact ⟨h', u1, u2, u3, fun i hi => by rw [u4 i hi, if_neg (fun w => w.2 rfl)]⟩
    · rw [if_neg c1, if_neg c1, if_neg c1, ← ey]
      exact h144 y4 y01
  simp only [q_Mo_comes_67, r_Mo_comes_91, e1, jk_25 b, mo_ptr b hs j75 (pv_c ou), mo_ptr b hr j75 (pv_c ov), jcI]
  rw [if_neg (by omega)]
  by_cases c1 : pn_ptr (mv h s j) = 0
  · rw [if_pos c1]
    by_cases c2 : pn_ptr (mv h r j) = 0
    · rw [if_pos c2]
      exact h96 0 (by rw [if_pos c1, c2])
    · rw [if_neg c2]
      refine h96 1 ?_
      rw [if_pos c1]
      unfold pn_ptr at c2 ⊢
      revert c2
      split
      · intro _; rfl
      · split
        · intro _; rfl
        · intro q; exact absurd rfl q
  · rw [if_neg c1]
    exact h96 1 (by rw [if_neg c1])
theorem mo_c67 (hr : r < 1026) (hs : s < 1026) (rs : r ≠ s) : ∀ (t : Nat) (h : ja_H) (j : Nat), jv_B h → (∀ c, c < 75 → pv_ok (mv h s c) ∧ pv_ok (mv h r c)) → j ≤ 75 → 75 - j < t → ∃ h', r_Mo_comes_67 t h 25 (nI r) (nI s) (nI j) = some h' ∧ mF s h h' ∧ (∀ c, c < 75 → mv h' s c = if j ≤ c then pj_v (mv h s c) (mv h r c) else mv h s c) ∧ (∀ i, i < 512 → h'.2.1 33 (512 * s + i) = if j ≤ 11 + i / 8 ∧ ¬ pj_z (mv h s (11 + i / 8)) (mv h r (11 + i / 8)) = 0 then 0 else h.2.1 33 (512 * s + i)) := by
  intro t
  induction t with
  | zero => intro h j _ _ _ ht; omega
  | succ t ih =>
    intro h j b ok hj ht
    show ∃ h', q_Mo_comes_67 (r_Mo_comes_67 t) h 25 (nI r) (nI s) (nI j) = _ ∧ _
    by_cases q : 75 ≤ j
    · have e1 : (75 : Int32) ≤ nI j := (jn_le (a := 75) (by omega) (by omega)).mpr q
      simp only [q_Mo_comes_67, if_pos e1]
      refine ⟨h, rfl, mF0, fun c hc => ?_, fun i hi => ?_⟩
      · rw [if_neg (by omega)]
      · rw [if_neg (by omega)]
    · have j75 : j < 75 := by omega
      obtain ⟨h1, u1, u2, u3, u4⟩ := mo_cell (C := r_Mo_comes_67 t) b hr hs rs j75 (ok j j75).1 (ok j j75).2
      have b1 := mF_B b u2
      obtain ⟨h', v1, v2, v3, v4⟩ := ih h1 (j + 1) b1 (fun c hc => by
        refine ⟨?_, by rw [mF_v u2 rs hc]; exact (ok c hc).2⟩
        rw [u3 c hc]
        split
        · exact pv_pj (ok j j75).1 (ok j j75).2
        · exact (ok c hc).1) (by omega) (by omega)
      refine ⟨h', ?_, mFt u2 v2, fun c hc => ?_, fun i hi => ?_⟩
      · rw [u1]
        simp only [r_Mo_comes_243, jlE, lq_ad1]
        exact v1
      · rw [v3 c hc, u3 c hc, mF_v u2 rs hc]
        by_cases z : c = j
        · subst z
          rw [if_neg (by omega), if_pos rfl, if_pos (by omega)]
        · rw [if_neg z]
          by_cases y : j + 1 ≤ c
          · rw [if_pos y, if_pos (by omega)]
          · rw [if_neg y, if_neg (by omega)]
      · have i11 : 11 + i / 8 < 75 := by omega
        rw [v4 i hi, u3 _ i11, mF_v u2 rs i11, u4 i hi]
        by_cases z : 11 + i / 8 = j
        · rw [if_neg (by omega), z]
          by_cases y : pj_z (mv h s j) (mv h r j) = 0
          · rw [if_neg (fun w => w.2 y), if_neg (fun w => w.2 y)]
          · rw [if_pos ⟨rfl, y⟩, if_pos ⟨by omega, y⟩]
        · rw [if_neg (c := 11 + i / 8 = j) z, if_neg (c := 11 + i / 8 = j ∧ _) (fun w => z w.1)]
          by_cases y : pj_z (mv h s (11 + i / 8)) (mv h r (11 + i / 8)) = 0
          · rw [if_neg (fun w => w.2 y), if_neg (fun w => w.2 y)]
          · by_cases y2 : j + 1 ≤ 11 + i / 8
            · rw [if_pos ⟨y2, y⟩, if_pos ⟨by omega, y⟩]
            · rw [if_neg (fun w => y2 w.1), if_neg (fun w => y2 (by omega))]
theorem mo_join (b : jv_B h) (hr : r < 1026) (hs : s < 1026) (rs : r ≠ s) (m : mS h r σ) (ms : mS h s τ) (ok : sg_ok σ) (ok2 : sg_ok τ) : ∃ h', r_Mo_comes_25 ja_fu h 25 (nI r) (nI s) 0 = some h' ∧ mF s h h' ∧ mS h' s (sg_j τ σ) := by
  obtain ⟨h1, u1, u2, u3, u4⟩ := mo_c25 hr hs rs ja_fu h 0 b (fun i hi => by rw [m.2 i hi]; exact bo_01 _) (fun i hi => by rw [ms.2 i hi]; exact bo_01 _) (by omega) (by rw [ja_fu_eq]; decide)
  have b1 := mF_B b u2
  have es : ∀ c, c < 75 → mv h1 s c = τ.1 c := fun c hc => (u3 c hc).trans (ms.1 c hc)
  have er : ∀ c, c < 75 → mv h1 r c = σ.1 c := fun c hc => (mF_v u2 rs hc).trans (m.1 c hc)
  obtain ⟨h2, v1, v2, v3, v4⟩ := mo_c67 hr hs rs ja_fu h1 0 b1 (fun c hc => by
    rw [es c hc, er c hc]
    exact ⟨ok2 c hc, ok c hc⟩) (by omega) (by rw [ja_fu_eq]; decide)
  refine ⟨h2, u1.trans v1, mFt u2 v2, fun c hc => ?_, fun j hj => ?_⟩
  · rw [v3 c hc, if_pos (by omega), es c hc, er c hc]
    rfl
  · have j11 : 11 + j / 8 < 75 := by omega
    rw [v4 j hj, es _ j11, er _ j11, u4 j hj, if_pos (show 0 ≤ j by omega), ms.2 j hj, m.2 j hj]
    show _ = bo (if pj_z (τ.1 (11 + j / 8)) (σ.1 (11 + j / 8)) = 0 then τ.2 j && σ.2 j else false)
    by_cases z : pj_z (τ.1 (11 + j / 8)) (σ.1 (11 + j / 8)) = 0
    · rw [if_neg (fun w => w.2 z), if_pos z]
      cases τ.2 j <;> cases σ.2 j <;> decide
    · rw [if_pos ⟨by omega, z⟩, if_neg z]
      rfl
end MS
