def lI (n : Nat) : Int64 := Int64.ofNat n
theorem jl_int {n : Nat} (h : n < 9223372036854775808) : (lI n).toInt = (n : Int) := by
  unfold lI
  rw [Int64.toInt_ofNat_of_lt h]
theorem jl_lt {a b : Nat} (ha : a < 9223372036854775808) (hb : b < 9223372036854775808) : lI a < lI b ↔ a < b := by
  rw [Int64.lt_iff_toInt_lt, jl_int ha, jl_int hb]; omega
theorem jl_le {a b : Nat} (ha : a < 9223372036854775808) (hb : b < 9223372036854775808) : lI a ≤ lI b ↔ a ≤ b := by
  rw [Int64.le_iff_toInt_le, jl_int ha, jl_int hb]; omega
theorem jl_inj {a b : Nat} (ha : a < 9223372036854775808) (hb : b < 9223372036854775808) : lI a = lI b ↔ a = b := by
  rw [← Int64.toInt_inj, jl_int ha, jl_int hb]; omega
theorem jl_add (a b : Nat) : lI a + lI b = lI (a + b) := by
  unfold lI
  exact (Int64.ofNat_add a b).symm
theorem jl_of {n : Nat} (h : n < 2147483648) : (nI n).toInt64 = lI n := by
  rw [← Int64.toInt_inj, Int32.toInt_toInt64, jn_int h, jl_int (by omega)]
theorem jl_neg {a : Nat} (ha : a < 9223372036854775808) : ¬ lI a < 0 := by
  rw [Int64.lt_iff_toInt_lt, jl_int ha]
  simp
def jo_b (v : Int64) (i : Nat) : Int32 := Int8.toInt32 (Int32.toInt8 (Int64.toInt32 (UInt64.toInt64 (Int64.toUInt64 v >>> (Int64.toUInt64 (Int32.toInt64 ((8 : Int32) * nI i)) &&& Int64.toUInt64 63)))))
def jo_m (v : Int64) (i : Nat) : Int32 := (Int64.toInt32 (UInt64.toInt64 (Int64.toUInt64 v >>> (Int64.toUInt64 (Int32.toInt64 ((8 : Int32) * nI i)) &&& Int64.toUInt64 63)))) &&& (255 : Int32)
theorem jo_nar (x : Int8) : vp_nar .byte x.toInt32 = x.toInt32 := by
  simp [vp_nar, narrow]
theorem jo_255 (x : Int32) : (Int8.toInt32 (Int32.toInt8 x)) &&& 255 = x &&& 255 := by
  apply Int32.toBitVec_inj.mp
  simp
  ext i hi
  have e : (255#32)[i] = decide (i < 8) := by
    rw [BitVec.getElem_eq_testBit_toNat]
    exact Nat.testBit_two_pow_sub_one 8 i
  by_cases h8 : i < 8
  · simp [BitVec.getElem_signExtend, h8, hi]
  · simp [e, h8]
theorem jo_bm (v : Int64) (i : Nat) : jo_b v i &&& 255 = jo_m v i := jo_255 _
def jp_r (f g : Nat → Int32) (k a m : Nat) : Nat → Int32 := fun b => if a ≤ b ∧ b < k + 8 ∧ b < m then g (b - k) else f b
theorem jp_r_step {f g : Nat → Int32} {k j m : Nat} (hj : j < 8) (hm : k + j < m) : jp_r (fun b => if b = k + j then g j else f b) g k (k + (j + 1)) m = jp_r f g k (k + j) m := by
  funext b
  simp only [jp_r]
  by_cases h1 : b = k + j
  · subst h1
    rw [if_neg (by omega), if_pos rfl, if_pos (by omega), show k + j - k = j by omega]
  · rw [if_neg h1]
    by_cases h2 : k + (j + 1) ≤ b ∧ b < k + 8 ∧ b < m
    · rw [if_pos h2, if_pos (by omega)]
    · rw [if_neg h2, if_neg (by omega)]
theorem jp_r_skip {f g : Nat → Int32} {k j m : Nat} (hm : m ≤ k + j) : jp_r f g k (k + j) m = f := by
  funext b
  simp only [jp_r]
  rw [if_neg (by omega)]
theorem jp_r_end {f g : Nat → Int32} {k j m : Nat} (hm : 8 ≤ j) : jp_r f g k (k + j) m = f := by
  funext b
  simp only [jp_r]
  rw [if_neg (by omega)]
section JPUT
variable {h : ja_H}
theorem lw_has {m a : Nat} (B : jv_B h) (hm : m ≤ 256) (ha : a < 1000) (hl : h.2.1 3 1 = nI m) : r_Gi_has h 3 (lI a) = some (if a < m then 1 else 0, h) := by
  have e1 : (lI m ≤ lI a) = (m ≤ a) := propext (jl_le (by omega) (by omega))
  have e2 : ((256 : Int64) ≤ lI a) = (256 ≤ a) := propext (jl_le (a := 256) (by omega) (by omega))
  simp only [r_Gi_has, r_Gi_has_28, r_Gi_has_29, if_neg (jl_neg (a := a) (by omega)), jI_3 B, hl, jl_of (n := m) (by omega), e1, e2, jb0, jb1]
  by_cases h1 : m ≤ a
  · rw [if_pos h1, if_neg (by omega)]
  · rw [if_neg h1, if_neg (by omega), if_pos (by omega)]
theorem lw_place_loop {k m : Nat} {v : Int64} (hk : k < 256) (hm : m ≤ 256) : ∀ (t : Nat) (h : ja_H) (j : Nat), jv_B h → h.2.1 3 1 = nI m → j ≤ 8 → 8 - j < t → r_Gi_place_3 t h 3 (nI k) v (nI j) = some (ja_oI h 4 (jp_r (h.2.1 4) (jo_b v) k (k + j) m)) := by
  intro t
  induction t with
  | zero => intro h j _ _ _ ht; omega
  | succ t ih =>
    intro h j B hl hj ht
    show q_Gi_place_3 (r_Gi_place_3 t) h 3 (nI k) v (nI j) = _
    have e2 : ((8 : Int32) ≤ nI j) = (8 ≤ j) := propext (jn_le (a := 8) (by omega) (by omega))
    have e3 : Int32.toInt64 (nI k) + Int32.toInt64 (nI j) = lI (k + j) := by rw [jl_of (by omega), jl_of (by omega), jl_add]
    simp only [q_Gi_place_3, e2]
    by_cases h1 : 8 ≤ j
    · rw [if_pos h1, jp_r_end h1, ja_oI_self]
    · rw [if_neg h1, jk_3 B, e3, lw_has B hm (by omega) hl, jcI]
      simp only [r_Gi_place_41, jlE, show (1 : Int32) = nI 1 from rfl, jn_add]
      by_cases h2 : k + j < m
      · have e0 : ¬ nI 1 = 0 := by decide
        simp only [if_pos h2, if_neg e0, jR_3_0 B, jW_4 B (jn_jx (a := k + j) (by omega) (by decide)), jn_clamp (n := k + j) (by omega), jo_nar]
        rw [ih (ja_sI h 4 (k + j) _) (j + 1) B (by rw [ja_rI, if_neg (by omega), hl]) (by omega) (by omega)]
        rw [ja_sI_o (c := 4), ja_oI_oI]
        rw [ja_oI_at]
        have e9 := jp_r_step (f := h.2.1 4) (g := jo_b v) (k := k) (j := j) (m := m) (by omega) h2
        rw [← e9]
        rfl
      · simp only [if_neg h2, if_true]
        rw [ih h (j + 1) B hl (by omega) (by omega), jp_r_skip (by omega), jp_r_skip (by omega)]
theorem lw_put_bad {k : Int32} {v : Int64} (B : jv_B h) (hk : k < 0 ∨ ¬ k < h.2.1 3 1) : r_WJ_put h 0 k v = some ([.retAddr 15], h) := by
  simp only [r_WJ_put, r_WJ_put_15, jR_0_1 B, jI_3 B]
  split
  · rfl
  · split
    · next h1 h2 => exact absurd hk (by simp [h1, h2])
    · rfl
theorem lw_put_ok {k m : Nat} {v : Int64} (B : jv_B h) (hk : k < m) (hm : m ≤ 256) (hl : h.2.1 3 1 = nI m) : r_WJ_put h 0 (nI k) v = some ([], ja_oI h 4 (jp_r (h.2.1 4) (jo_b v) k k m)) := by
  have h1 : ¬ nI k < 0 := jn_neg (by omega)
  have h2 : nI k < nI m := (jn_lt (by omega) (by omega)).mpr hk
  have e : r_Gi_place_3 ja_fu h 3 (nI k) v 0 = some (ja_oI h 4 (jp_r (h.2.1 4) (jo_b v) k k m)) := lw_place_loop (v := v) (k := k) (by omega) hm ja_fu h 0 B hl (by omega) (by rw [ja_fu_eq]; omega)
  simp only [r_WJ_put, if_neg h1, jR_0_1 B, jI_3 B, hl, if_pos h2, jk_3 B, r_Gi_place, jlE, e, jcV]
theorem lm_put_bad {k : Int32} {v : Int64} (B : jv_B h) (hk : k < 0 ∨ ¬ k < h.2.1 25 9) : r_Mo_put h 25 k v = some (ja_sI h 25 0 1) := by
  have e : r_Mo_put_13 h 25 k v 25 = some (ja_sI h 25 0 1) := by
    simp only [r_Mo_put_13, r_Mo_put_18, jk_25 B, lw_fails1 B, jcI, if_neg ne10]
  simp only [r_Mo_put, jI_25 B]
  split
  · exact e
  · split
    · next h1 h2 => exact absurd hk (by simp [h1, h2])
    · exact e
theorem lm_put_loop {k m : Nat} {v : Int64} (hk : k < 256) (hm : m ≤ 256) : ∀ (t : Nat) (h : ja_H) (j : Nat), jv_B h → h.2.1 25 9 = nI m → j ≤ 8 → 8 - j < t → r_Mo_put_29 t h 25 (nI k) v (nI j) = some (ja_oI h 29 (jp_r (h.2.1 29) (jo_m v) k (k + j) m)) := by
  intro t
  induction t with
  | zero => intro h j _ _ _ ht; omega
  | succ t ih =>
    intro h j B hl hj ht
    show q_Mo_put_29 (r_Mo_put_29 t) h 25 (nI k) v (nI j) = _
    have e2 : ((8 : Int32) ≤ nI j) = (8 ≤ j) := propext (jn_le (a := 8) (by omega) (by omega))
    have e4 : (nI m ≤ nI (k + j)) = (m ≤ k + j) := propext (jn_le (by omega) (by omega))
    simp only [q_Mo_put_29, e2, r_Mo_put_74, jI_25 B, hl, jn_add, e4]
    by_cases h1 : 8 ≤ j
    · rw [if_pos h1, jp_r_end h1, ja_oI_self]
    · rw [if_neg h1]
      by_cases h2 : m ≤ k + j
      · rw [if_pos h2, jp_r_skip h2, ja_oI_self]
      · rw [if_neg h2]
        simp only [jR_25_8 B, jW_29 B (jn_jx (a := k + j) (by omega) (by decide)), jn_clamp (n := k + j) (by omega), jlE, show (1 : Int32) = nI 1 from rfl, jn_add]
        rw [ih (ja_sI h 29 (k + j) _) (j + 1) B (by rw [ja_rI, if_neg (by omega), hl]) (by omega) (by omega)]
        rw [ja_sI_o (c := 29), ja_oI_oI, ja_oI_at]
        have e9 := jp_r_step (f := h.2.1 29) (g := jo_m v) (k := k) (j := j) (m := m) (by omega) (by omega)
        rw [← e9]
        rfl
theorem lm_put_ok {k m : Nat} {v : Int64} (B : jv_B h) (hk : k < m) (hm : m ≤ 256) (hl : h.2.1 25 9 = nI m) : r_Mo_put h 25 (nI k) v = some (ja_oI (ja_sI h 25 0 0) 29 (jp_r (h.2.1 29) (jo_m v) k k m)) := by
  have h1 : ¬ nI k < 0 := jn_neg (by omega)
  have h2 : nI k < nI m := (jn_lt (by omega) (by omega)).mpr hk
  have e : r_Mo_put_29 ja_fu (ja_sI h 25 0 0) 25 (nI k) v 0 = some (ja_oI (ja_sI h 25 0 0) 29 (jp_r ((ja_sI h 25 0 0).2.1 29) (jo_m v) k k m)) := lm_put_loop (v := v) (k := k) (by omega) hm ja_fu (ja_sI h 25 0 0) 0 B (by rw [ja_rI, if_neg (by omega), hl]) (by omega) (by rw [ja_fu_eq]; omega)
  rw [show (ja_sI h 25 0 0).2.1 29 = h.2.1 29 from by funext b; rw [ja_rI, if_neg (by omega)]] at e
  simp only [r_Mo_put, if_neg h1, jI_25 B, hl, if_pos h2, r_Mo_put_18, jk_25 B, lw_fails0 B, jcI, if_true, jlE, e]
end JPUT
