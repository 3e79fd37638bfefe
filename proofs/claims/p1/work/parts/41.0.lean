theorem jn_int {n : Nat} (h : n < 2147483648) : (nI n).toInt = (n : Int) := by
  unfold nI
  rw [Int32.toInt_ofNat_of_lt h]
theorem jn_clamp {n : Nat} (h : n < 2147483648) : (nI n).toNatClampNeg = n := by
  show (nI n).toInt.toNat = n
  rw [jn_int h]
  rfl
theorem jn_lt {a b : Nat} (ha : a < 2147483648) (hb : b < 2147483648) : nI a < nI b ↔ a < b := by
  rw [Int32.lt_iff_toInt_lt, jn_int ha, jn_int hb]; omega
theorem jn_le {a b : Nat} (ha : a < 2147483648) (hb : b < 2147483648) : nI a ≤ nI b ↔ a ≤ b := by
  rw [Int32.le_iff_toInt_le, jn_int ha, jn_int hb]; omega
theorem jn_inj {a b : Nat} (ha : a < 2147483648) (hb : b < 2147483648) : nI a = nI b ↔ a = b := by
  rw [← Int32.toInt_inj, jn_int ha, jn_int hb]; omega
theorem jn_add (a b : Nat) : nI a + nI b = nI (a + b) := by
  unfold nI
  exact (Int32.ofNat_add a b).symm
theorem jn_of {x : Int32} (h : 0 ≤ x) : x = nI x.toNatClampNeg ∧ x.toNatClampNeg < 2147483648 := by
  have h1 : (0 : Int) ≤ x.toInt := by simpa using Int32.le_iff_toInt_le.mp h
  have h2 : x.toInt < 2147483648 := Int32.toInt_lt x
  have h3 : x.toNatClampNeg < 2147483648 := by
    show x.toInt.toNat < _
    omega
  refine ⟨?_, h3⟩
  rw [← Int32.toInt_inj, jn_int h3]
  show x.toInt = ((x.toInt.toNat : Nat) : Int)
  omega
theorem jn_jx {a n : Nat} (ha : a < n) (hn : n < 2147483648) : jx (nI a) n := by
  rintro (h | h)
  · rw [Int32.lt_iff_toInt_lt, jn_int (by omega)] at h
    simp at h
    omega
  · rw [jn_clamp (by omega)] at h
    omega
theorem jn_neg {a : Nat} (ha : a < 2147483648) : ¬ nI a < 0 := by
  rw [Int32.lt_iff_toInt_lt, jn_int ha]
  simp
theorem jn_0 : (0 : Int32) = nI 0 := rfl
section JSIMPLE
variable {h : ja_H}
theorem lw_max {a b : Int32} : r_Mt_max_I h a b = some (if a < b then b else a, h) := by
  simp only [r_Mt_max_I, r_Mt_max_I_10]
  split <;> rfl
theorem lw_word_bad {k : Int32} {w : Int64} (B : jv_B h) (hk : k < 0 ∨ h.2.1 1 1 < k ∨ ¬ k < 1024) : r_WJ_word h 0 k w = some ([.retAddr 22], h) := by
  simp only [r_WJ_word, r_WJ_word_22, jR_0_0 B, jI_1 B]
  split
  · rfl
  · split
    · rfl
    · split
      · next h1 h2 h3 => exact absurd hk (by simp [h1, h2, h3])
      · rfl
theorem lw_replace {k : Int32} {w : Int64} (B : jv_B h) (h1 : ¬ k < 0) (h2 : ¬ h.2.1 1 1 < k) (h3 : k < 1024) : r_Co_replace h 1 k w = some (ja_sI (ja_sL h 2 k.toNatClampNeg w) 1 1 (if h.2.1 1 1 < k + 1 then k + 1 else h.2.1 1 1)) := by
  have hx : jx k 1024 := by
    obtain ⟨e, hl⟩ := jn_of (Int32.not_lt.mp h1)
    rw [e] at h3 ⊢
    rw [show (1024 : Int32) = nI 1024 from rfl, jn_lt hl (by decide)] at h3
    exact jn_jx h3 (by decide)
  have h4 : ¬ (1024 : Int32) ≤ k := Int32.not_le.mpr h3
  have B1 : jv_B (ja_sL h 2 k.toNatClampNeg w) := B
  simp only [r_Co_replace, r_Co_replace_40, if_neg h1, jI_1 B, if_neg h2, if_neg h4, jR_1_0 B, jW_2 B hx, jI_1 B1, lw_max, jcI, jpI_1 B1, ja_rLI]
theorem lw_word_ok {k : Int32} {w : Int64} (B : jv_B h) (h1 : ¬ k < 0) (h2 : ¬ h.2.1 1 1 < k) (h3 : k < 1024) : r_WJ_word h 0 k w = some ([.int (if h.2.1 1 1 < k + 1 then k + 1 else h.2.1 1 1)], ja_sI (ja_sI (ja_sL h 2 k.toNatClampNeg w) 1 1 (if h.2.1 1 1 < k + 1 then k + 1 else h.2.1 1 1)) 0 5 0) := by
  generalize hv : (if h.2.1 1 1 < k + 1 then k + 1 else h.2.1 1 1) = v
  have B1 : jv_B (ja_sI (ja_sL h 2 k.toNatClampNeg w) 1 1 v) := B
  have B2 : jv_B (ja_sI (ja_sI (ja_sL h 2 k.toNatClampNeg w) 1 1 v) 0 5 0) := B
  simp only [r_WJ_word, if_neg h1, jR_0_0 B, jI_1 B, if_neg h2, if_pos h3, jk_1 B, lw_replace B h1 h2 h3, hv, jcV, jpZ_0 B1 (Or.inl rfl), jR_0_0 B2, jI_1 B2, ja_rI]
  simp
theorem lw_fails0 {y : Int32} (B : jv_B h) : r_Mo_fails h 25 0 y = some (0, ja_sI h 25 0 0) := by
  simp only [r_Mo_fails, r_Mo_fails_10, if_pos, jpI_25 B, jb0]
theorem lw_fails1 {y : Int32} (B : jv_B h) : r_Mo_fails h 25 1 y = some (1, ja_sI h 25 0 y) := by
  have e : ¬ (1 : Int32) = 0 := by decide
  simp only [r_Mo_fails, r_Mo_fails_10, if_neg e, jpI_25 B, jb1]
theorem lw_thrown (B : jv_B h) : r_Mo_thrown h 25 = some (h.2.1 25 0, h) := by
  simp only [r_Mo_thrown, jI_25 B]
theorem ne10 : ¬ (1 : Int32) = 0 := by decide
theorem lm_word_bad {k : Int32} {w : Int64} (B : jv_B h) (hk : k < 0 ∨ h.2.1 25 2 < k ∨ ¬ k < 1024) : r_Mo_word h 25 k w = some (0, ja_sI h 25 0 1) := by
  have e : r_Mo_word_20 h 25 k w 25 = some (0, ja_sI h 25 0 1) := by
    simp only [r_Mo_word_20, r_Mo_word_25, jk_25 B, lw_fails1 B, jcI, if_neg ne10]
  simp only [r_Mo_word, jI_25 B]
  split
  · exact e
  · split
    · exact e
    · split
      · next h1 h2 h3 => exact absurd hk (by simp [h1, h2, h3])
      · exact e
theorem lm_word_ok {k : Int32} {w : Int64} (B : jv_B h) (h1 : ¬ k < 0) (h2 : ¬ h.2.1 25 2 < k) (h3 : k < 1024) : r_Mo_word h 25 k w = some (if k = h.2.1 25 2 then h.2.1 25 2 + 1 else h.2.1 25 2, ja_sI (if k = h.2.1 25 2 then ja_sI (ja_sL (ja_sI h 25 0 0) 26 k.toNatClampNeg w) 25 2 (h.2.1 25 2 + 1) else ja_sL (ja_sI h 25 0 0) 26 k.toNatClampNeg w) 25 5 0) := by
  have hx : jx k 1024 := by
    obtain ⟨e, hl⟩ := jn_of (Int32.not_lt.mp h1)
    rw [e] at h3 ⊢
    rw [show (1024 : Int32) = nI 1024 from rfl, jn_lt hl (by decide)] at h3
    exact jn_jx h3 (by decide)
  have B1 : jv_B (ja_sI h 25 0 0) := B
  have B2 : jv_B (ja_sL (ja_sI h 25 0 0) 26 k.toNatClampNeg w) := B
  have B3 : jv_B (ja_sI (ja_sL (ja_sI h 25 0 0) 26 k.toNatClampNeg w) 25 2 (h.2.1 25 2 + 1)) := B
  have B4 : jv_B (ja_sI (ja_sI (ja_sL (ja_sI h 25 0 0) 26 k.toNatClampNeg w) 25 2 (h.2.1 25 2 + 1)) 25 5 0) := B
  have B5 : jv_B (ja_sI (ja_sL (ja_sI h 25 0 0) 26 k.toNatClampNeg w) 25 5 0) := B
  have r1 : (ja_sL (ja_sI h 25 0 0) 26 k.toNatClampNeg w).2.1 25 2 = h.2.1 25 2 := by
    rw [ja_rLI, ja_rI]; rfl
  simp only [r_Mo_word, if_neg h1, jI_25 B, if_neg h2, if_pos h3, r_Mo_word_25, jk_25 B, lw_fails0 B, jcI, if_true, jR_25_1 B1, jW_26 B1 hx, jI_25 B2, r1]
  by_cases hk : k = h.2.1 25 2
  · simp only [if_pos hk, jpI_25 B2, r_Mo_word_59, jpZ_25 B3 (Or.inl rfl), jI_25 B4, ja_rI]
    simp
  · simp only [if_neg hk, r_Mo_word_59, jpZ_25 B2 (Or.inl rfl), jI_25 B5, ja_rI, ja_rLI]
    simp
theorem lw_cut_bad {k : Int32} (B : jv_B h) (hk : k < 0 ∨ ¬ k ≤ h.2.1 1 1) : r_WJ_cut h 0 k = some ([.retAddr 15], h) := by
  simp only [r_WJ_cut, r_WJ_cut_15, jR_0_0 B, jI_1 B]
  split
  · rfl
  · split
    · next h1 h2 => exact absurd hk (by simp [h1, h2])
    · rfl
theorem lw_cut_ok {k : Int32} (B : jv_B h) (h1 : ¬ k < 0) (h2 : k ≤ h.2.1 1 1) : r_WJ_cut h 0 k = some ([], ja_sI (ja_sI h 1 1 k) 0 5 0) := by
  have B1 : jv_B (ja_sI h 1 1 k) := B
  simp only [r_WJ_cut, if_neg h1, jR_0_0 B, jI_1 B, if_pos h2, jpI_1 B, jpZ_0 B1 (Or.inl rfl)]
theorem lm_cut_bad {k : Int32} (B : jv_B h) (hk : k < 0 ∨ ¬ k ≤ h.2.1 25 2) : r_Mo_cut h 25 k = some (ja_sI h 25 0 1) := by
  have e : r_Mo_cut_13 h 25 k 25 = some (ja_sI h 25 0 1) := by
    simp only [r_Mo_cut_13, r_Mo_cut_18, jk_25 B, lw_fails1 B, jcI, if_neg ne10]
  simp only [r_Mo_cut, jI_25 B]
  split
  · exact e
  · split
    · next h1 h2 => exact absurd hk (by simp [h1, h2])
    · exact e
theorem lm_cut_ok {k : Int32} (B : jv_B h) (h1 : ¬ k < 0) (h2 : k ≤ h.2.1 25 2) : r_Mo_cut h 25 k = some (ja_sI (ja_sI (ja_sI h 25 0 0) 25 2 k) 25 5 0) := by
  have B1 : jv_B (ja_sI h 25 0 0) := B
  have B2 : jv_B (ja_sI (ja_sI h 25 0 0) 25 2 k) := B
  simp only [r_Mo_cut, if_neg h1, jI_25 B, if_pos h2, r_Mo_cut_18, jk_25 B, lw_fails0 B, jcI, if_true, jpI_25 B1, jpZ_25 B2 (Or.inl rfl)]
def ja_oI (h : ja_H) (c : Nat) (f : Nat → Int32) : ja_H := (h.1, fun a b => if a = c then f b else h.2.1 a b, h.2.2)
theorem jv_oI {c : Nat} {f : Nat → Int32} : jv_B (ja_oI h c f) = jv_B h := rfl
theorem ja_oIr {c a b : Nat} {f : Nat → Int32} : (ja_oI h c f).2.1 a b = if a = c then f b else h.2.1 a b := of_eq_true (eq_self _)
theorem ja_oI_at {c : Nat} {f : Nat → Int32} : (ja_oI h c f).2.1 c = f := by
  funext b
  rw [ja_oIr, if_pos rfl]
theorem ja_oI2 {c : Nat} {f : Nat → Int32} : (ja_oI h c f).2.2 = h.2.2 := of_eq_true (eq_self _)
theorem ja_oI1 {c : Nat} {f : Nat → Int32} : (ja_oI h c f).1 = h.1 := of_eq_true (eq_self _)
theorem ja_oI_self {c : Nat} : ja_oI h c (h.2.1 c) = h := by
  have : (fun a b => if a = c then h.2.1 c b else h.2.1 a b) = h.2.1 := by
    funext a b
    by_cases e : a = c
    · rw [if_pos e, e]
    · rw [if_neg e]
  simp only [ja_oI, this]
theorem ja_oI_oI {c : Nat} {f g : Nat → Int32} : ja_oI (ja_oI h c f) c g = ja_oI h c g := by
  have : (fun a b => if a = c then g b else (ja_oI h c f).2.1 a b) = (fun a b => if a = c then g b else h.2.1 a b) := by
    funext a b
    simp only [ja_oIr]
    by_cases e : a = c
    · simp only [if_pos e]
    · simp only [if_neg e]
  simp only [ja_oI] at this ⊢
  rw [this]
theorem ja_oI_sI {c k : Nat} {f : Nat → Int32} {x : Int32} : ja_sI (ja_oI h c f) c k x = ja_oI h c (fun b => if b = k then x else f b) := by
  have : ja_u (ja_oI h c f).2.1 c k x = (fun a b => if a = c then (if b = k then x else f b) else h.2.1 a b) := by
    funext a b
    simp only [ja_u, ja_oIr]
    by_cases e : a = c
    · by_cases e2 : b = k <;> simp [e, e2]
    · simp [e]
  simp only [ja_sI, this]
  rfl
theorem ja_sI_o {c k : Nat} {x : Int32} : ja_sI h c k x = ja_oI h c (fun b => if b = k then x else h.2.1 c b) := by
  rw [← ja_oI_sI (h := h) (f := h.2.1 c), ja_oI_self]
theorem ja_sI_same {c k : Nat} {x : Int32} (e : h.2.1 c k = x) : ja_sI h c k x = h := by
  rw [ja_sI_o]
  have : (fun b => if b = k then x else h.2.1 c b) = h.2.1 c := by
    funext b
    by_cases h9 : b = k
    · rw [if_pos h9, h9, e]
    · rw [if_neg h9]
  rw [this, ja_oI_self]
theorem nar0 : vp_nar .byte 0 = 0 := by decide
def jz_r (f : Nat → Int32) (j m : Nat) : Nat → Int32 := fun b => if j ≤ b ∧ b < m then 0 else f b
theorem jz_r_step {f : Nat → Int32} {j m : Nat} (hj : j < m) : jz_r (fun b => if b = j then 0 else f b) (j + 1) m = jz_r f j m := by
  funext b
  simp only [jz_r]
  by_cases h1 : b = j
  · subst h1
    rw [if_neg (by omega), if_pos rfl, if_pos (by omega)]
  · rw [if_neg h1]
    by_cases h2 : j + 1 ≤ b ∧ b < m
    · rw [if_pos h2, if_pos (by omega)]
    · rw [if_neg h2, if_neg (by omega)]
theorem jz_r_end {f : Nat → Int32} {j m : Nat} (hj : m ≤ j) : jz_r f j m = f := by
  funext b
  simp only [jz_r]
  rw [if_neg (by omega)]
theorem lw_resize_loop {n : Int32} {m : Nat} (hm : m ≤ 256) : ∀ (t : Nat) (h : ja_H) (j : Nat), jv_B h → h.2.1 3 1 = nI m → j ≤ 256 → 256 - j < t → r_Gi_resize_6 t h 3 n (nI j) = some (ja_sI (ja_oI h 4 (jz_r (h.2.1 4) j m)) 3 1 n) := by
  intro t
  induction t with
  | zero => intro h j _ _ _ ht; omega
  | succ t ih =>
    intro h j B hl hj ht
    show q_Gi_resize_6 (r_Gi_resize_6 t) h 3 n (nI j) = _
    have e1 : (nI m ≤ nI j) = (m ≤ j) := propext (jn_le (by omega) (by omega))
    have e2 : ((256 : Int32) ≤ nI j) = (256 ≤ j) := propext (jn_le (a := 256) (by omega) (by omega))
    simp only [q_Gi_resize_6, jI_3 B, hl, e1, e2, r_Gi_resize_34, jpI_3 B]
    by_cases h1 : m ≤ j
    · rw [if_pos h1, jz_r_end h1, ja_oI_self]
    · have h2 : ¬ 256 ≤ j := by omega
      have B1 : jv_B (ja_sI h 4 (nI j).toNatClampNeg (vp_nar .byte 0)) := B
      rw [if_neg h1, if_neg h2, jR_3_0 B, jW_4 B (jn_jx (by omega) (by decide)), jlE, show (1 : Int32) = nI 1 from rfl, jn_add, jn_clamp (by omega), nar0]
      rw [ih (ja_sI h 4 j 0) (j + 1) B (by rw [ja_rI, if_neg (by omega), hl]) (by omega) (by omega)]
      rw [ja_sI_o (c := 4), ja_oI_oI]
      congr 3
      rw [show (ja_oI h 4 (fun b => if b = j then 0 else h.2.1 4 b)).2.1 4 = (fun b => if b = j then 0 else h.2.1 4 b) from by funext b; simp [ja_oIr], jz_r_step (by omega)]
theorem lw_context_bad {k : Int32} (hk : k < 0 ∨ ¬ k ≤ 256) : r_WJ_context h 0 k = some ([.retAddr 11], h) := by
  simp only [r_WJ_context, r_WJ_context_11]
  split
  · rfl
  · split
    · next h1 h2 => exact absurd hk (by simp [h1, h2])
    · rfl
theorem lw_context_same {n : Nat} (B : jv_B h) (hn : n ≤ 256) (hl : h.2.1 3 1 = nI n) : r_WJ_context h 0 (nI n) = some ([], h) := by
  have h1 : ¬ nI n < 0 := jn_neg (by omega)
  have h2 : nI n ≤ 256 := (jn_le (b := 256) (by omega) (by omega)).mpr hn
  simp only [r_WJ_context, if_neg h1, if_pos h2, jR_0_1 B, jI_3 B, hl, if_true, r_WJ_context_45]
theorem lw_max0 {n : Nat} (hn : n < 2147483648) : r_Mt_max_I h (nI n) 0 = some (nI n, h) := by
  rw [lw_max, if_neg (jn_neg hn)]
theorem lw_resize {n m : Nat} (B : jv_B h) (hn : n ≤ 256) (hm : m ≤ 256) (hl : h.2.1 3 1 = nI m) : r_Gi_resize h 3 (nI n) = some (ja_sI (ja_oI h 4 (jz_r (h.2.1 4) n m)) 3 1 (nI n)) := by
  simp only [r_Gi_resize, lw_max0 (h := h) (n := n) (by omega), jcI, jlE]
  exact lw_resize_loop hm ja_fu h n B hl hn (by rw [ja_fu_eq]; omega)
theorem lw_context_other {n m : Nat} (B : jv_B h) (hn : n ≤ 256) (hm : m ≤ 256) (hl : h.2.1 3 1 = nI m) (hne : n ≠ m) : r_WJ_context h 0 (nI n) = some ([], ja_sI (ja_sI (ja_oI h 4 (jz_r (h.2.1 4) n m)) 3 1 (nI n)) 0 5 0) := by
  have h1 : ¬ nI n < 0 := jn_neg (by omega)
  have h2 : nI n ≤ 256 := (jn_le (b := 256) (by omega) (by omega)).mpr hn
  have h3 : ¬ nI n = nI m := fun e => hne ((jn_inj (by omega) (by omega)).mp e)
  have B1 : jv_B (ja_sI (ja_oI h 4 (jz_r (h.2.1 4) n m)) 3 1 (nI n)) := B
  simp only [r_WJ_context, if_neg h1, if_pos h2, jR_0_1 B, jI_3 B, hl, if_neg h3, jk_3 B, lw_resize B hn hm hl, jcV, jpZ_0 B1 (Or.inl rfl), r_WJ_context_45]
theorem lm_context_bad {k : Int32} (B : jv_B h) (hk : k < 0 ∨ ¬ k ≤ 256) : r_Mo_context h 25 k = some (ja_sI h 25 0 1) := by
  have e : r_Mo_context_12 h 25 k 25 = some (ja_sI h 25 0 1) := by
    simp only [r_Mo_context_12, r_Mo_context_17, jk_25 B, lw_fails1 B, jcI, if_neg ne10]
  simp only [r_Mo_context]
  split
  · exact e
  · split
    · next h1 h2 => exact absurd hk (by simp [h1, h2])
    · exact e
theorem lm_context_loop {n m : Nat} (hn : n ≤ 256) (hm : m ≤ 256) : ∀ (t : Nat) (h : ja_H) (j : Nat), jv_B h → h.2.1 25 9 = nI m → j ≤ 256 → 256 - j < t → r_Mo_context_27 t h 25 (nI n) (nI j) = some (ja_sI (if n = m then ja_oI h 29 (jz_r (h.2.1 29) j 256) else ja_sI (ja_oI h 29 (jz_r (h.2.1 29) j 256)) 25 5 0) 25 9 (nI n)) := by
  intro t
  induction t with
  | zero => intro h j _ _ _ ht; omega
  | succ t ih =>
    intro h j B hl hj ht
    show q_Mo_context_27 (r_Mo_context_27 t) h 25 (nI n) (nI j) = _
    have e2 : ((256 : Int32) ≤ nI j) = (256 ≤ j) := propext (jn_le (a := 256) (by omega) (by omega))
    have e3 : (nI n = nI m) = (n = m) := propext (jn_inj (by omega) (by omega))
    have B0 : jv_B (ja_sI h 25 5 0) := B
    simp only [q_Mo_context_27, e2, jI_25 B, hl, e3, r_Mo_context_60, jpI_25 B, jpZ_25 B (Or.inl rfl), jpI_25 B0]
    by_cases h1 : 256 ≤ j
    · rw [if_pos h1, jz_r_end h1, ja_oI_self]
      split <;> rfl
    · rw [if_neg h1, jR_25_8 B, jW_29 B (jn_jx (by omega) (by decide)), jlE, show (1 : Int32) = nI 1 from rfl, jn_add, jn_clamp (by omega)]
      rw [ih (ja_sI h 29 j 0) (j + 1) B (by rw [ja_rI, if_neg (by omega), hl]) (by omega) (by omega)]
      rw [ja_sI_o (c := 29), ja_oI_oI]
      rw [show (ja_oI h 29 (fun b => if b = j then 0 else h.2.1 29 b)).2.1 29 = (fun b => if b = j then 0 else h.2.1 29 b) from by funext b; simp [ja_oIr], jz_r_step (by omega)]
theorem lm_context_ok {n m : Nat} (B : jv_B h) (hn : n ≤ 256) (hm : m ≤ 256) (hl : h.2.1 25 9 = nI m) : r_Mo_context h 25 (nI n) = some (ja_sI (if n = m then ja_oI (ja_sI h 25 0 0) 29 (jz_r (h.2.1 29) n 256) else ja_sI (ja_oI (ja_sI h 25 0 0) 29 (jz_r (h.2.1 29) n 256)) 25 5 0) 25 9 (nI n)) := by
  have h1 : ¬ nI n < 0 := jn_neg (by omega)
  have h2 : nI n ≤ 256 := (jn_le (b := 256) (by omega) (by omega)).mpr hn
  have B1 : jv_B (ja_sI h 25 0 0) := B
  have e := lm_context_loop hn hm ja_fu (ja_sI h 25 0 0) n B (by rw [ja_rI, if_neg (by omega), hl]) hn (by rw [ja_fu_eq]; omega)
  rw [show (ja_sI h 25 0 0).2.1 29 = h.2.1 29 from by funext b; rw [ja_rI, if_neg (by omega)]] at e
  simp only [r_Mo_context, if_neg h1, if_pos h2, r_Mo_context_17, jk_25 B, lw_fails0 B, jcI, if_true, jlE, e]
theorem lw_fault (B : jv_B h) : r_WJ_fault h 0 = some (h.2.1 0 6, h) := by
  simp only [r_WJ_fault, jI_0 B]
theorem lm_fault (B : jv_B h) : r_Mo_fault h 25 = some (h.2.1 25 7, ja_sI h 25 0 0) := by
  have B1 : jv_B (ja_sI h 25 0 0) := B
  simp only [r_Mo_fault, jpI_25 B, jI_25 B1, ja_rI]
  simp
end JSIMPLE
