abbrev sg_S := (Nat → pv_T) × (Nat → Bool)
section SG
variable {V W : Nat → pv_T} {B C : Nat → Int32} {s t : sg_S}
def sg_c (c : Nat) : Nat := if c < 11 then c else c + 5
theorem sg_c0 {c : Nat} (h : c < 11) : sg_c c = c := if_pos h
theorem sg_c1 {e : Nat} : sg_c (11 + e) = 16 + e := by
  unfold sg_c
  rw [if_neg (by omega)]
  omega
def sR (V : Nat → pv_T) (B : Nat → Int32) (s : sg_S) : Prop := (∀ c, c < 75 → V (sg_c c) = s.1 c) ∧ ∀ j, j < 512 → st_b B j = s.2 j
theorem sR_r (k : sR V B s) {c : Nat} (h : c < 11) : V c = s.1 c := by
  have := k.1 c (by omega)
  rw [sg_c0 h] at this
  exact this
theorem sR_e (k : sR V B s) {e : Nat} (h : e < 64) : V (16 + e) = s.1 (11 + e) := by
  have := k.1 (11 + e) (by omega)
  rw [sg_c1] at this
  exact this
theorem sR_congr (k : sR V B s) (hV : ∀ i, i < 80 → W i = V i) (hB : ∀ e, e < 64 → C e = B e) : sR W C s := by
  refine ⟨fun c hc => ?_, fun j hj => ?_⟩
  · rw [hV _ (by unfold sg_c; split <;> omega)]
    exact k.1 c hc
  · rw [← k.2 j hj]
    unfold st_b
    rw [hB _ (by omega)]
def sg_b : sg_S := (pb_0, fun _ => false)
theorem sR_b (hV : ∀ i, i < 80 → V i = pb_0 i) (hB : ∀ e, e < 64 → B e = 0) : sR V B sg_b := by
  refine ⟨fun c hc => ?_, fun j hj => ?_⟩
  · rw [hV _ (by unfold sg_c; split <;> omega)]
    show pb_0 (sg_c c) = pb_0 c
    unfold sg_c
    split
    · rfl
    · unfold pb_0
      rw [if_neg (by omega), if_neg (by omega), if_neg (by omega), if_neg (by omega)]
  · unfold st_b
    rw [hB _ (by omega), jb_0]
    rfl
def sg_j (s t : sg_S) : sg_S := (fun c => pj_v (s.1 c) (t.1 c), fun j => if pj_z (s.1 (11 + j / 8)) (t.1 (11 + j / 8)) = 0 then s.2 j && t.2 j else false)
theorem sR_j {V' : Nat → pv_T} {B' : Nat → Int32} (k : sR V B s) (k' : sR W C t) (hV : ∀ i, i < 80 → V' i = pj_v (V i) (W i)) (hB : ∀ e, e < 64 → B' e = if ¬ pj_z (V (e + 16)) (W (e + 16)) = 0 then 0 else B e &&& C e) : sR V' B' (sg_j s t) := by
  refine ⟨fun c hc => ?_, fun j hj => ?_⟩
  · rw [hV _ (by unfold sg_c; split <;> omega), k.1 c hc, k'.1 c hc]
    rfl
  · unfold st_b
    rw [hB _ (by omega), Nat.add_comm (j / 8) 16, sR_e k (by omega), sR_e k' (by omega)]
    show _ = if pj_z (s.1 (11 + j / 8)) (t.1 (11 + j / 8)) = 0 then s.2 j && t.2 j else false
    by_cases z : pj_z (s.1 (11 + j / 8)) (t.1 (11 + j / 8)) = 0
    · rw [if_neg (fun q => q z), if_pos z, jb_and, ← k.2 j hj, ← k'.2 j hj]
      rfl
    · rw [if_pos z, if_neg z, jb_0]
def sg_set (s : sg_S) (d : Nat) (v : pv_T) : sg_S := (pu_f s.1 d v, s.2)
theorem sR_set (k : sR V B s) {d : Nat} (hd : d < 11) {v : pv_T} : sR (pu_f V d v) B (sg_set s d v) := by
  refine ⟨fun c hc => ?_, k.2⟩
  show pu_f V d v (sg_c c) = pu_f s.1 d v c
  unfold pu_f
  by_cases e : c = d
  · subst e
    rw [if_pos (sg_c0 hd), if_pos rfl]
  · rw [if_neg (by unfold sg_c; split <;> omega), if_neg e, k.1 c hc]
def sg_rd (s : sg_S) (a : Nat) : Nat → Bool
  | 0 => true
  | n + 1 => s.2 a && decide (pn_ptr (s.1 (11 + a / 8)) = 0) && sg_rd s (a + 1) n
theorem sR_rd (k : sR V B s) : ∀ (n a : Nat), a + n ≤ 512 → pb_rd V (st_b B) a n = sg_rd s a n := by
  intro n
  induction n with
  | zero => intro a _; rfl
  | succ n ih =>
    intro a ha
    show (st_b B a && decide (pn_ptr (V (16 + a / 8)) = 0) && pb_rd V (st_b B) (a + 1) n) = (s.2 a && decide (pn_ptr (s.1 (11 + a / 8)) = 0) && sg_rd s (a + 1) n)
    rw [k.2 a (by omega), sR_e k (by omega), ih (a + 1) (by omega)]
def sg_kp (s : sg_S) (a : Nat) (v : pv_T) : sg_S := (pu_f s.1 (11 + a / 8) v, fun j => if j / 8 = a / 8 then true else s.2 j)
theorem sR_kp (k : sR V B s) {a : Nat} (ha : a < 512) {v : pv_T} : sR (pu_f V (16 + a / 8) v) (pu_f B (a / 8) 255) (sg_kp s a v) := by
  refine ⟨fun c hc => ?_, fun j hj => ?_⟩
  · show pu_f V (16 + a / 8) v (sg_c c) = pu_f s.1 (11 + a / 8) v c
    unfold pu_f
    by_cases e : c = 11 + a / 8
    · subst e
      rw [if_pos sg_c1, if_pos rfl]
    · rw [if_neg (by unfold sg_c; split <;> omega), if_neg e, k.1 c hc]
  · show jb_t (pu_f B (a / 8) 255 (j / 8)) (j % 8) = if j / 8 = a / 8 then true else s.2 j
    unfold pu_f
    by_cases e : j / 8 = a / 8
    · rw [if_pos e, if_pos e, jb_255 (by omega)]
    · rw [if_neg e, if_neg e, ← k.2 j hj]
      rfl
def sg_st (s : sg_S) (a n : Nat) : sg_S := (fun c => if 11 + a / 8 ≤ c ∧ c ≤ 11 + (a + n - 1) / 8 then (0, 0, 0) else s.1 c, fun j => if a ≤ j ∧ j < a + n then true else if a / 8 ≤ j / 8 ∧ j / 8 ≤ (a + n - 1) / 8 ∧ ¬ pn_ptr (s.1 (11 + j / 8)) = 0 then false else s.2 j)
theorem pb_st_V : ∀ (n a : Nat) (V : Nat → pv_T) (B : Nat → Int32) (i : Nat), 0 < n → (pb_st V B a n).1 i = if 16 + a / 8 ≤ i ∧ i ≤ 16 + (a + n - 1) / 8 then (0, 0, 0) else V i := by
  intro n
  induction n with
  | zero => intro a V B i h; omega
  | succ n ih =>
    intro a V B i _
    show (pb_st (pb_V V a) (pb_B V B a) (a + 1) n).1 i = _
    by_cases n0 : n = 0
    · subst n0
      show pb_V V a i = _
      unfold pb_V pu_f
      by_cases e : i = 16 + a / 8
      · rw [if_pos e, if_pos (by omega)]
      · rw [if_neg e, if_neg (by omega)]
    · rw [ih (a + 1) _ _ i (by omega)]
      unfold pb_V pu_f
      by_cases e : i = 16 + a / 8
      · rw [if_pos e]
        rw [if_pos (c := 16 + a / 8 ≤ i ∧ _) (by omega)]
        split <;> rfl
      · rw [if_neg e]
        by_cases e2 : 16 + (a + 1) / 8 ≤ i ∧ i ≤ 16 + (a + 1 + n - 1) / 8
        · rw [if_pos e2, if_pos (by omega)]
        · rw [if_neg e2, if_neg (by omega)]
theorem pn_p0 : pn_ptr (0, 0, 0) = 0 := by decide
theorem pb_B_b {a j : Nat} : st_b (pb_B V B a) j = if j = a then true else if j / 8 = a / 8 ∧ ¬ pn_ptr (V (16 + a / 8)) = 0 then false else st_b B j := by
  unfold st_b pb_B pu_f
  by_cases e : j / 8 = a / 8
  · rw [if_pos e, jb_or (by omega) (by omega)]
    by_cases e2 : j = a
    · subst e2
      simp
    · have e3 : ¬ j % 8 = a % 8 := by omega
      rw [if_neg e2]
      by_cases p : pn_ptr (V (16 + a / 8)) = 0
      · simp [p, e3, e]
      · simp [p, e3, e, jb_0]
  · rw [if_neg e, if_neg (by intro q; rw [q] at e; exact e rfl), if_neg (fun q => e q.1)]
theorem pb_st_B : ∀ (n a : Nat) (V : Nat → pv_T) (B : Nat → Int32) (j : Nat), 0 < n → st_b (pb_st V B a n).2 j = if a ≤ j ∧ j < a + n then true else if a / 8 ≤ j / 8 ∧ j / 8 ≤ (a + n - 1) / 8 ∧ ¬ pn_ptr (V (16 + j / 8)) = 0 then false else st_b B j := by
  intro n
  induction n with
  | zero => intro a V B j h; omega
  | succ n ih =>
    intro a V B j _
    show st_b (pb_st (pb_V V a) (pb_B V B a) (a + 1) n).2 j = _
    by_cases n0 : n = 0
    · subst n0
      show st_b (pb_B V B a) j = _
      rw [pb_B_b]
      by_cases e : j = a
      · rw [if_pos e, if_pos (by omega)]
      · rw [if_neg e, if_neg (c := a ≤ j ∧ _) (by omega)]
        by_cases e2 : j / 8 = a / 8
        · rw [e2]
          by_cases p : pn_ptr (V (16 + a / 8)) = 0
          · rw [if_neg (fun q => q.2 p), if_neg (fun q => q.2.2 p)]
          · rw [if_pos ⟨rfl, p⟩, if_pos ⟨by omega, by omega, p⟩]
        · rw [if_neg (fun q => e2 q.1), if_neg (fun q => e2 (by omega))]
    · rw [ih (a + 1) _ _ j (by omega)]
      by_cases c1 : a + 1 ≤ j ∧ j < a + 1 + n
      · rw [if_pos c1, if_pos (by omega)]
      · rw [if_neg c1, pb_B_b]
        by_cases e : j = a
        · subst e
          rw [if_pos rfl, if_pos (c := j ≤ j ∧ _) (by omega)]
          have : pb_V V j (16 + j / 8) = (0, 0, 0) := if_pos rfl
          rw [this, pn_p0, if_neg (fun q => q.2.2 rfl)]
        · rw [if_neg e, if_neg (c := a ≤ j ∧ _) (by omega)]
          by_cases e2 : j / 8 = a / 8
          · have : pb_V V a (16 + j / 8) = (0, 0, 0) := if_pos (by rw [e2])
            rw [this, pn_p0, if_neg (fun q => q.2.2 rfl), e2]
            by_cases p : pn_ptr (V (16 + a / 8)) = 0
            · rw [if_neg (fun q => q.2 p), if_neg (fun q => q.2.2 p)]
            · rw [if_pos ⟨rfl, p⟩, if_pos ⟨by omega, by omega, p⟩]
          · have : pb_V V a (16 + j / 8) = V (16 + j / 8) := if_neg (by omega)
            rw [this, if_neg (c := j / 8 = a / 8 ∧ _) (fun q => e2 q.1)]
            by_cases p : pn_ptr (V (16 + j / 8)) = 0
            · rw [if_neg (fun q => q.2.2 p), if_neg (fun q => q.2.2 p)]
            · by_cases c2 : (a + 1) / 8 ≤ j / 8 ∧ j / 8 ≤ (a + 1 + n - 1) / 8
              · rw [if_pos ⟨c2.1, c2.2, p⟩, if_pos ⟨by omega, by omega, p⟩]
              · rw [if_neg (fun q => c2 ⟨q.1, q.2.1⟩), if_neg (fun q => c2 ⟨by omega, by omega⟩)]
theorem sR_st (k : sR V B s) {a n : Nat} (hn : 0 < n) (ha : a + n ≤ 512) : sR (pb_st V B a n).1 (pb_st V B a n).2 (sg_st s a n) := by
  refine ⟨fun c hc => ?_, fun j hj => ?_⟩
  · rw [pb_st_V n a V B _ hn]
    show _ = if 11 + a / 8 ≤ c ∧ c ≤ 11 + (a + n - 1) / 8 then (0, 0, 0) else s.1 c
    have e : sg_c c = if c < 11 then c else c + 5 := rfl
    by_cases c1 : 11 + a / 8 ≤ c ∧ c ≤ 11 + (a + n - 1) / 8
    · rw [if_pos c1, if_pos (by rw [e, if_neg (by omega)]; omega)]
    · rw [if_neg c1, if_neg (by rw [e]; split <;> omega), k.1 c hc]
  · rw [pb_st_B n a V B _ hn, k.2 j hj, sR_e k (by omega)]
    rfl
end SG
