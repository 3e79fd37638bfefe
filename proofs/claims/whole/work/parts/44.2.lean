section MN
variable {h : ja_H} {k n : Nat} {x y a c e : Int64}
theorem ai_nor : (x ||| y) < 0 ↔ x < 0 ∨ y < 0 := by
  rw [ai_msb, ai_msb, ai_msb, Int64.toBitVec_or, BitVec.msb_or, Bool.or_eq_true]
theorem ai_nand : (x &&& y) < 0 ↔ x < 0 ∧ y < 0 := by
  rw [ai_msb, ai_msb, ai_msb, Int64.toBitVec_and, BitVec.msb_and, Bool.and_eq_true]
theorem ai_nnot : (x ^^^ -1) < 0 ↔ ¬ x < 0 := by
  rw [ai_msb, ai_msb, Int64.toBitVec_xor, BitVec.msb_xor, show (-1 : Int64).toBitVec.msb = true by decide]
  cases x.toBitVec.msb <;> decide
theorem ai_s63 : UInt64.toInt64 (Int64.toUInt64 x >>> (Int64.toUInt64 (Int32.toInt64 (63 : Int32)) &&& Int64.toUInt64 63)) = if x < 0 then 1 else 0 := by
  have q := uN_shr (x := x) (j := 63) (by decide)
  have i := uN_int x
  have l := uN_lt x
  have q' : uN (UInt64.toInt64 (Int64.toUInt64 x >>> (Int64.toUInt64 (Int32.toInt64 (63 : Int32)) &&& Int64.toUInt64 63))) = uN x / 9223372036854775808 := q
  apply uN_inj.mp
  rw [q']
  by_cases z : x < 0
  · rw [if_pos z]
    rw [ai_lt, ai_nz] at z
    show _ = 1
    split at i <;> omega
  · rw [if_neg z]
    rw [ai_lt, ai_nz] at z
    show _ = 0
    split at i <;> omega
theorem ai_r63 : x >>> (Int32.toInt64 (63 : Int32) &&& 63) = if x < 0 then -1 else 0 := by
  have q : (x >>> (Int32.toInt64 (63 : Int32) &&& 63)).toInt = x.toInt / 9223372036854775808 := ai_sar (x := x) (j := 63) (by decide)
  have l := ai_lo x
  have u := ai_hi x
  apply ai_eq.mpr
  rw [q]
  by_cases z : x < 0
  · rw [if_pos z]
    rw [ai_lt, ai_nz] at z
    show _ = -1
    omega
  · rw [if_neg z]
    rw [ai_lt, ai_nz] at z
    show _ = 0
    omega
theorem mo_du (hc : c ≠ 0) : r_Lg_divideUnsigned h a c = some (ar_quo a c, h) := by
  unfold r_Lg_divideUnsigned ar_quo
  rw [if_neg hc]
  have la := ai_lo a
  have ua := ai_hi a
  have lc := ai_lo c
  have uc := ai_hi c
  by_cases c0 : c < 0
  · have c0' := c0
    rw [ai_lt, ai_nz] at c0'
    rw [if_pos c0, ai_s63, if_neg (c := 0 ≤ c) (by rw [ai_le, ai_nz]; omega)]
    simp only [ai_nand, ai_nnot]
    by_cases h2 : 0 ≤ a
    · have h2' := ai_le.mp h2
      rw [ai_nz] at h2'
      rw [if_pos h2, if_neg (by rw [ai_lt, ai_nz]; omega)]
    · have h2' := mt ai_le.mpr h2
      rw [ai_nz] at h2'
      have e1 := ai_sub (x := a) (y := c) (by omega) (by omega)
      rw [if_neg h2]
      by_cases h3 : a < c
      · have h3' := ai_lt.mp h3
        rw [if_pos h3, if_neg (by rw [ai_lt, ai_lt, ai_nz]; omega)]
      · have h3' := mt ai_lt.mpr h3
        rw [if_neg h3, if_pos (by rw [ai_lt, ai_lt, ai_nz]; omega)]
  · have c1 : 0 ≤ c := by
      rw [ai_lt, ai_nz] at c0
      rw [ai_le, ai_nz]
      omega
    have c1' := ai_le.mp c1
    rw [ai_nz] at c1'
    rw [if_neg c0]
    simp only [jz_L, if_neg hc, jlE, if_pos c1, ai_s63, ai_nor, ai_nnot]
    generalize (UInt64.toInt64 (Int64.toUInt64 a >>> (Int64.toUInt64 (Int32.toInt64 (1 : Int32)) &&& Int64.toUInt64 63)) / c) <<< (Int32.toInt64 (1 : Int32) &&& 63) = S
    by_cases r1 : a - S * c < 0
    · rw [if_pos (Or.inl r1), if_pos r1]
    · rw [if_neg r1]
      have r1' := mt ai_lt.mpr r1
      rw [ai_nz] at r1'
      have ur := ai_hi (a - S * c)
      have e1 := ai_sub (x := a - S * c) (y := c) (by omega) (by omega)
      by_cases r2 : a - S * c < c
      · have r2' := ai_lt.mp r2
        rw [if_pos r2, if_neg (by rw [ai_lt, ai_lt, ai_nz]; omega), Int64.add_zero]
      · have r2' := mt ai_lt.mpr r2
        rw [if_neg r2, if_pos (by rw [ai_lt, ai_lt, ai_nz]; omega)]
theorem uN_add : uN (x + y) = (uN x + uN y) % 18446744073709551616 := by
  show (x + y).toBitVec.toNat = _
  rw [Int64.toBitVec_add, BitVec.toNat_add]
  rfl
theorem uN_sub : uN (x - y) = (18446744073709551616 - uN y + uN x) % 18446744073709551616 := by
  show (x - y).toBitVec.toNat = _
  rw [Int64.toBitVec_sub, BitVec.toNat_sub]
  rfl
theorem uN_mul : uN (x * y) = uN x * uN y % 18446744073709551616 := by
  show (x * y).toBitVec.toNat = _
  rw [Int64.toBitVec_mul, BitVec.toNat_mul]
  rfl
theorem uN_left (h1 : 0 < c.toInt) : uN (a - (UInt64.toInt64 (Int64.toUInt64 a >>> (Int64.toUInt64 (Int32.toInt64 (1 : Int32)) &&& Int64.toUInt64 63)) / c) <<< (Int32.toInt64 (1 : Int32) &&& 63) * c) < 2 * uN c := by
  have xl := uN_lt a
  have cp := uN_pos (x := c) (by omega)
  have chi := ai_hi c
  have e1 : uN (UInt64.toInt64 (Int64.toUInt64 a >>> (Int64.toUInt64 (Int32.toInt64 (1 : Int32)) &&& Int64.toUInt64 63))) = uN a / 2 := by
    have := uN_shr (x := a) (j := 1) (by decide)
    exact this
  generalize hH : UInt64.toInt64 (Int64.toUInt64 a >>> (Int64.toUInt64 (Int32.toInt64 (1 : Int32)) &&& Int64.toUInt64 63)) = H at *
  have Hi : H.toInt = (uN a / 2 : Nat) := by
    rw [uN_int, e1, if_pos (by omega)]
  have hq : (H / c).toInt = ((uN a / 2 / uN c : Nat) : Int) := by
    rw [Int64.toInt_div_of_ne_right _ _ (by intro q; rw [q] at h1; exact absurd h1 (by decide)), Hi, Int.tdiv_eq_ediv_of_nonneg (by omega), ← cp]
    rfl
  have hle : uN a / 2 / uN c ≤ uN a / 2 := Nat.div_le_self _ _
  have hqn : uN (H / c) = uN a / 2 / uN c := by
    have := uN_pos (x := H / c) (by rw [hq]; exact Int.natCast_nonneg _)
    exact Int.ofNat_inj.mp (this.trans hq)
  have hs : uN ((H / c) <<< (Int32.toInt64 (1 : Int32) &&& 63)) = uN a / 2 / uN c * 2 := by
    have := uN_shl (x := H / c) (j := 1) (by decide)
    rw [hqn] at this
    rw [Nat.mod_eq_of_lt (by omega)] at this
    exact this
  generalize hS : (H / c) <<< (Int32.toInt64 (1 : Int32) &&& 63) = S at *
  have hd := Nat.div_add_mod (uN a / 2) (uN c)
  have hm := Nat.mod_lt (uN a / 2) (show 0 < uN c by omega)
  have hQ : uN a / 2 / uN c * 2 * uN c = 2 * (uN c * (uN a / 2 / uN c)) := by
    rw [Nat.mul_comm (uN a / 2 / uN c) 2, Nat.mul_assoc, Nat.mul_comm (uN a / 2 / uN c) (uN c)]
  have hm2 : uN (S * c) = 2 * (uN c * (uN a / 2 / uN c)) := by
    rw [uN_mul, hs, hQ, Nat.mod_eq_of_lt (by omega)]
  rw [uN_sub, hm2]
  omega
theorem ai_s1 {p q r : Int64} : p - (q + 1) * r = p - q * r - r := by
  apply uN_inj.mp
  rw [uN_sub, uN_sub, uN_sub, uN_mul, uN_mul, uN_add]
  have l := uN_lt r
  have l2 := uN_lt p
  have m1 : uN (1 : Int64) = 1 := rfl
  rw [m1]
  have e : (uN q + 1) % 18446744073709551616 * uN r % 18446744073709551616 = (uN q * uN r % 18446744073709551616 + uN r) % 18446744073709551616 := by
    rw [Nat.mod_mul_mod, Nat.add_mul, Nat.one_mul, Nat.mod_add_mod]
  have lz := Nat.mod_lt (uN q * uN r) (show 0 < 18446744073709551616 by decide)
  rw [e]
  generalize uN q * uN r % 18446744073709551616 = Z at lz ⊢
  clear e m1
  omega
theorem mo_ru (hc : c ≠ 0) : r_Lg_remainderUnsigned h a c = some (a - ar_quo a c * c, h) := by
  unfold r_Lg_remainderUnsigned ar_quo
  rw [if_neg hc]
  have la := ai_lo a
  have ua := ai_hi a
  have lc := ai_lo c
  have uc := ai_hi c
  have m1 : (-1 : Int64) &&& c = c := by
    apply Int64.toBitVec_inj.mp
    rw [Int64.toBitVec_and, show (-1 : Int64).toBitVec = BitVec.allOnes 64 by decide, BitVec.allOnes_and]
  have m0 : (0 : Int64) &&& c = 0 := by
    apply Int64.toBitVec_inj.mp
    rw [Int64.toBitVec_and, show (0 : Int64).toBitVec = 0#64 by decide, BitVec.zero_and]
  have z0 : a - 0 * c = a := by
    apply uN_inj.mp
    have l := uN_lt a
    rw [uN_sub, uN_mul, show uN (0 : Int64) = 0 from rfl]
    omega
  have z0' : ∀ q : Int64, q - 0 = q := fun q => by
    apply uN_inj.mp
    have l := uN_lt q
    rw [uN_sub, show uN (0 : Int64) = 0 from rfl]
    omega
  have z1 : a - 1 * c = a - c := by
    apply uN_inj.mp
    have l := uN_lt c
    rw [uN_sub, uN_sub, uN_mul, show uN (1 : Int64) = 1 from rfl]
    omega
  by_cases c0 : c < 0
  · have c0' := c0
    rw [ai_lt, ai_nz] at c0'
    rw [if_pos c0, ai_r63, if_neg (c := 0 ≤ c) (by rw [ai_le, ai_nz]; omega)]
    simp only [ai_nand, ai_nnot]
    by_cases h2 : 0 ≤ a
    · have h2' := ai_le.mp h2
      rw [ai_nz] at h2'
      rw [if_pos h2, if_neg (by rw [ai_lt, ai_nz]; omega), m0, z0, z0']
    · have h2' := mt ai_le.mpr h2
      rw [ai_nz] at h2'
      have e1 := ai_sub (x := a) (y := c) (by omega) (by omega)
      rw [if_neg h2]
      by_cases h3 : a < c
      · have h3' := ai_lt.mp h3
        rw [if_pos h3, if_neg (by rw [ai_lt, ai_lt, ai_nz]; omega), m0, z0, z0']
      · have h3' := mt ai_lt.mpr h3
        rw [if_neg h3, if_pos (by rw [ai_lt, ai_lt, ai_nz]; omega), m1, z1]
  · have c1 : 0 ≤ c := by
      rw [ai_lt, ai_nz] at c0
      rw [ai_le, ai_nz]
      omega
    have c1' := ai_le.mp c1
    rw [ai_nz] at c1'
    have c2 : 0 < c.toInt := by
      have : c.toInt ≠ 0 := fun q => hc (ai_eq.mpr q)
      omega
    have lft := uN_left (a := a) c2
    rw [if_neg c0]
    simp only [jz_L, if_neg hc, jlE, if_pos c1, ai_r63, ai_nnot]
    generalize (UInt64.toInt64 (Int64.toUInt64 a >>> (Int64.toUInt64 (Int32.toInt64 (1 : Int32)) &&& Int64.toUInt64 63)) / c) <<< (Int32.toInt64 (1 : Int32) &&& 63) = S at *
    have cp := uN_pos (x := c) c1'
    have ri := uN_int (a - S * c)
    have rl := uN_lt (a - S * c)
    have di := uN_int (a - S * c - c)
    have dn := uN_sub (x := a - S * c) (y := c)
    by_cases r1 : a - S * c < 0
    · have r1' := ai_lt.mp r1
      rw [ai_nz] at r1'
      rw [if_pos r1, ai_s1, if_pos (by rw [ai_lt, ai_nz]; split at ri <;> split at di <;> omega), m1]
    · rw [if_neg r1]
      have r1' := mt ai_lt.mpr r1
      rw [ai_nz] at r1'
      have ur := ai_hi (a - S * c)
      have e1 := ai_sub (x := a - S * c) (y := c) (by omega) (by omega)
      by_cases r2 : a - S * c < c
      · have r2' := ai_lt.mp r2
        rw [if_pos r2, if_neg (by rw [ai_lt, ai_nz]; omega), m0, z0']
      · have r2' := mt ai_lt.mpr r2
        rw [if_neg r2, if_pos (by rw [ai_lt, ai_nz]; omega), m1, ai_s1]
theorem i01 : ¬ (0 : Int32) = 1 := by decide
theorem mo_plus (b : jv_B h) : r_Mo_plus h 25 a e = some (a + e, if pn_sf a e = 0 then ja_sI h 25 16 1 else h) := by
  simp only [r_Mo_plus, r_Mo_plus_16, r_Mo_plus_27, r_Mo_plus_42, r_Mo_plus_53, r_Mo_plus_61, jlE, jpZ_25 b (Or.inr rfl)]
  have q := ai_sf (x := a) (y := e)
  have r := ai_addx a e
  have la := ai_lo a
  have ua := ai_hi a
  have le := ai_lo e
  have ue := ai_hi e
  have l := ai_lo (a + e)
  have u := ai_hi (a + e)
  by_cases c1 : 0 ≤ a
  · have c1' := ai_le.mp c1
    by_cases c2 : 0 ≤ e
    · have c2' := ai_le.mp c2
      by_cases c3 : 0 ≤ a + e
      · have c3' := ai_le.mp c3
        rw [ai_nz] at c1' c2' c3'
        rw [if_neg (c := pn_sf a e = 0) (by rw [q]; omega)]
        simp only [if_pos c1, if_pos c2, if_pos c3, if_true]
      · have c3' := mt ai_le.mpr c3
        rw [ai_nz] at c1' c2' c3'
        rw [if_pos (c := pn_sf a e = 0) (by rw [q]; omega)]
        simp only [if_pos c1, if_pos c2, if_neg c3, if_true, if_neg i10]
    · have c2' := mt ai_le.mpr c2
      rw [ai_nz] at c1' c2'
      rw [if_neg (c := pn_sf a e = 0) (by rw [q]; omega)]
      simp only [if_pos c1, if_neg c2, if_neg i01]
  · have c1' := mt ai_le.mpr c1
    by_cases c2 : 0 ≤ e
    · have c2' := ai_le.mp c2
      rw [ai_nz] at c1' c2'
      rw [if_neg (c := pn_sf a e = 0) (by rw [q]; omega)]
      simp only [if_neg c1, if_pos c2, if_neg i10]
    · have c2' := mt ai_le.mpr c2
      by_cases c3 : 0 ≤ a + e
      · have c3' := ai_le.mp c3
        rw [ai_nz] at c1' c2' c3'
        rw [if_pos (c := pn_sf a e = 0) (by rw [q]; omega)]
        simp only [if_neg c1, if_neg c2, if_pos c3, if_true, if_neg i01]
      · have c3' := mt ai_le.mpr c3
        rw [ai_nz] at c1' c2' c3'
        rw [if_neg (c := pn_sf a e = 0) (by rw [q]; omega)]
        simp only [if_neg c1, if_neg c2, if_neg c3, if_true]
theorem mo_minus (b : jv_B h) : r_Mo_minus h 25 a e = some (a - e, if pn_df a e = 0 then ja_sI h 25 16 1 else h) := by
  simp only [r_Mo_minus, r_Mo_minus_16, r_Mo_minus_27, r_Mo_minus_42, r_Mo_minus_53, r_Mo_minus_61, jlE, jpZ_25 b (Or.inr rfl)]
  have q := ai_df (x := a) (y := e)
  have r := ai_subx a e
  have la := ai_lo a
  have ua := ai_hi a
  have le := ai_lo e
  have ue := ai_hi e
  have l := ai_lo (a - e)
  have u := ai_hi (a - e)
  by_cases c1 : 0 ≤ a
  · have c1' := ai_le.mp c1
    by_cases c2 : 0 ≤ e
    · have c2' := ai_le.mp c2
      rw [ai_nz] at c1' c2'
      rw [if_neg (c := pn_df a e = 0) (by rw [q]; omega)]
      simp only [if_pos c1, if_pos c2, if_true]
    · have c2' := mt ai_le.mpr c2
      by_cases c3 : 0 ≤ a - e
      · have c3' := ai_le.mp c3
        rw [ai_nz] at c1' c2' c3'
        rw [if_neg (c := pn_df a e = 0) (by rw [q]; omega)]
        simp only [if_pos c1, if_neg c2, if_pos c3, if_true, if_neg i01]
      · have c3' := mt ai_le.mpr c3
        rw [ai_nz] at c1' c2' c3'
        rw [if_pos (c := pn_df a e = 0) (by rw [q]; omega)]
        simp only [if_pos c1, if_neg c2, if_neg c3, if_neg i01, if_neg i10]
  · have c1' := mt ai_le.mpr c1
    by_cases c2 : 0 ≤ e
    · have c2' := ai_le.mp c2
      by_cases c3 : 0 ≤ a - e
      · have c3' := ai_le.mp c3
        rw [ai_nz] at c1' c2' c3'
        rw [if_pos (c := pn_df a e = 0) (by rw [q]; omega)]
        simp only [if_neg c1, if_pos c2, if_pos c3, if_neg i10, if_neg i01]
      · have c3' := mt ai_le.mpr c3
        rw [ai_nz] at c1' c2' c3'
        rw [if_neg (c := pn_df a e = 0) (by rw [q]; omega)]
        simp only [if_neg c1, if_pos c2, if_neg c3, if_neg i10, if_true]
    · have c2' := mt ai_le.mpr c2
      rw [ai_nz] at c1' c2'
      rw [if_neg (c := pn_df a e = 0) (by rw [q]; omega)]
      simp only [if_neg c1, if_neg c2, if_true]
def mh (a0 a2 : Int64) : Int64 := (((a0 >>> (Int32.toInt64 (32 : Int32) &&& 63)) * (a2 >>> (Int32.toInt64 (32 : Int32) &&& 63))) + ((((a0 >>> (Int32.toInt64 (32 : Int32) &&& 63)) * (a2 &&& 4294967295)) + (UInt64.toInt64 (Int64.toUInt64 ((a0 &&& 4294967295) * (a2 &&& 4294967295)) >>> (Int64.toUInt64 (Int32.toInt64 (32 : Int32)) &&& Int64.toUInt64 63)))) >>> (Int32.toInt64 (32 : Int32) &&& 63))) + ((((((a0 >>> (Int32.toInt64 (32 : Int32) &&& 63)) * (a2 &&& 4294967295)) + (UInt64.toInt64 (Int64.toUInt64 ((a0 &&& 4294967295) * (a2 &&& 4294967295)) >>> (Int64.toUInt64 (Int32.toInt64 (32 : Int32)) &&& Int64.toUInt64 63)))) &&& 4294967295) + ((a0 &&& 4294967295) * (a2 >>> (Int32.toInt64 (32 : Int32) &&& 63)))) >>> (Int32.toInt64 (32 : Int32) &&& 63))
theorem mo_mh : r_Mt_multiplyHigh h a e = some (mh a e, h) := rfl
theorem ai_sar32 : (x >>> (Int32.toInt64 (32 : Int32) &&& 63)).toInt = x.toInt / 4294967296 := ai_sar (x := x) (j := 32) (by decide)
theorem uN_shr32 : uN (UInt64.toInt64 (Int64.toUInt64 x >>> (Int64.toUInt64 (Int32.toInt64 (32 : Int32)) &&& Int64.toUInt64 63))) = uN x / 4294967296 := uN_shr (x := x) (j := 32) (by decide)
theorem ai_lowi : (x &&& 4294967295).toInt = x.toInt % 4294967296 := by
  rw [ai_low]
  have i := uN_int x
  have l := uN_lt x
  split at i <;> omega
theorem im_b1 {x y : Int} (hx : -2147483648 ≤ x ∧ x ≤ 2147483647) (hy : 0 ≤ y ∧ y ≤ 4294967295) : -9223372034707292160 ≤ x * y ∧ x * y ≤ 9223372030412324865 := by
  have h1 := im_hi hx.1 hx.2 hy.1 hy.2
  have h2 := im_lo hx.1 hx.2 hy.1 hy.2
  omega
theorem im_b2 {x y : Int} (hx : 0 ≤ x ∧ x ≤ 4294967295) (hy : 0 ≤ y ∧ y ≤ 4294967295) : 0 ≤ x * y ∧ x * y ≤ 18446744065119617025 := by
  have h1 := im_hi hx.1 hx.2 hy.1 hy.2
  have h2 := im_lo hx.1 hx.2 hy.1 hy.2
  omega
theorem im_b3 {x y : Int} (hx : -2147483648 ≤ x ∧ x ≤ 2147483647) (hy : -2147483648 ≤ y ∧ y ≤ 2147483647) : -4611686016279904256 ≤ x * y ∧ x * y ≤ 4611686018427387904 := by
  have h1 := im_hi hx.1 hx.2 hy.1 hy.2
  have h2 := im_lo hx.1 hx.2 hy.1 hy.2
  omega
theorem mh_i : (mh a e).toInt = a.toInt * e.toInt / 18446744073709551616 := by
  unfold mh
  have la := ai_lo a
  have ua := ai_hi a
  have le := ai_lo e
  have ue := ai_hi e
  have a1 := ai_sar32 (x := a)
  have e1 := ai_sar32 (x := e)
  have a0 := ai_lowi (x := a)
  have e0 := ai_lowi (x := e)
  generalize a >>> (Int32.toInt64 (32 : Int32) &&& 63) = A1 at *
  generalize e >>> (Int32.toInt64 (32 : Int32) &&& 63) = E1 at *
  generalize a &&& 4294967295 = A0 at *
  generalize e &&& 4294967295 = E0 at *
  have pa := uN_pos (x := A0) (by omega)
  have pe := uN_pos (x := E0) (by omega)
  have b1 : -2147483648 ≤ A1.toInt ∧ A1.toInt ≤ 2147483647 := by omega
  have b2 : -2147483648 ≤ E1.toInt ∧ E1.toInt ≤ 2147483647 := by omega
  have b3 : 0 ≤ A0.toInt ∧ A0.toInt ≤ 4294967295 := by omega
  have b4 : 0 ≤ E0.toInt ∧ E0.toInt ≤ 4294967295 := by omega
  have c00 := im_b2 b3 b4
  have c10 := im_b1 b1 b4
  have c01 : -9223372034707292160 ≤ A0.toInt * E1.toInt ∧ A0.toInt * E1.toInt ≤ 9223372030412324865 := by
    rw [Int.mul_comm]
    exact im_b1 b2 b3
  have c11 := im_b3 b1 b2
  have pr : a.toInt * e.toInt = A1.toInt * E1.toInt * 18446744073709551616 + (A1.toInt * E0.toInt + A0.toInt * E1.toInt) * 4294967296 + A0.toInt * E0.toInt := by
    have da : a.toInt = A1.toInt * 4294967296 + A0.toInt := by omega
    have de : e.toInt = E1.toInt * 4294967296 + E0.toInt := by omega
    rw [da, de]
    simp only [Int.add_mul, Int.mul_add]
    have r1 : A1.toInt * 4294967296 * (E1.toInt * 4294967296) = A1.toInt * E1.toInt * 18446744073709551616 := by
      rw [Int.mul_assoc, Int.mul_comm 4294967296, Int.mul_assoc, ← Int.mul_assoc]
      rfl
    have r2 : A1.toInt * 4294967296 * E0.toInt = A1.toInt * E0.toInt * 4294967296 := by
      rw [Int.mul_assoc, Int.mul_comm 4294967296, ← Int.mul_assoc]
    have r3 : A0.toInt * (E1.toInt * 4294967296) = A0.toInt * E1.toInt * 4294967296 := by
      rw [← Int.mul_assoc]
    rw [r1, r2, r3]
    omega
  have m11 := ai_mul (x := A1) (y := E1) (by omega) (by omega)
  have m10 := ai_mul (x := A1) (y := E0) (by omega) (by omega)
  have m01 := ai_mul (x := A0) (y := E1) (by omega) (by omega)
  have u00 : (uN (A0 * E0) : Int) = A0.toInt * E0.toInt := by
    rw [uN_mul, ← pa, ← pe]
    have : ((uN A0 * uN E0 : Nat) : Int) = (uN A0 : Int) * (uN E0 : Int) := Int.natCast_mul _ _
    rw [← pa, ← pe] at c00
    omega
  have s00 := uN_shr32 (x := A0 * E0)
  generalize UInt64.toInt64 (Int64.toUInt64 (A0 * E0) >>> (Int64.toUInt64 (Int32.toInt64 (32 : Int32)) &&& Int64.toUInt64 63)) = Z at *
  have zi : Z.toInt = A0.toInt * E0.toInt / 4294967296 := by
    have i := uN_int Z
    have l := uN_lt (A0 * E0)
    rw [s00, if_pos (by omega)] at i
    rw [i, ← u00]
    omega
  rw [pr]
  generalize hp : A1.toInt * E1.toInt = p at *
  generalize hq : A1.toInt * E0.toInt = q at *
  generalize hr : A0.toInt * E1.toInt = r at *
  generalize hs : A0.toInt * E0.toInt = s at *
  have x6 := ai_add (x := A1 * E0) (y := Z) (by omega) (by omega)
  have x7 := ai_lowi (x := A1 * E0 + Z)
  have x8 := ai_sar32 (x := A1 * E0 + Z)
  have x9 := ai_add (x := (A1 * E0 + Z) &&& 4294967295) (y := A0 * E1) (by omega) (by omega)
  have x10 := ai_sar32 (x := ((A1 * E0 + Z) &&& 4294967295) + A0 * E1)
  have x11 := ai_add (x := A1 * E1) (y := (A1 * E0 + Z) >>> (Int32.toInt64 (32 : Int32) &&& 63)) (by omega) (by omega)
  have x12 := ai_add (x := A1 * E1 + (A1 * E0 + Z) >>> (Int32.toInt64 (32 : Int32) &&& 63)) (y := (((A1 * E0 + Z) &&& 4294967295) + A0 * E1) >>> (Int32.toInt64 (32 : Int32) &&& 63)) (by omega) (by omega)
  rw [x12]
  omega
theorem ai_mulx (x y : Int64) : ∃ m : Int, (x * y).toInt = x.toInt * y.toInt + m * 18446744073709551616 := by
  rw [Int64.toInt_mul]
  exact ai_bmx _
theorem mo_times (b : jv_B h) : r_Mo_times h 25 a e = some (a * e, if pn_pf a e = 0 then ja_sI h 25 16 1 else h) := by
  simp only [r_Mo_times, r_Mo_times_24, jlE, mo_mh, jcL, jpZ_25 b (Or.inr rfl)]
  have i := mh_i (a := a) (e := e)
  obtain ⟨m, hm⟩ := ai_mulx a e
  have l := ai_lo (a * e)
  have u := ai_hi (a * e)
  have q := ai_pf (x := a) (y := e)
  have key : (mh a e = (a * e) >>> (Int32.toInt64 (63 : Int32) &&& 63)) ↔ ¬ pn_pf a e = 0 := by
    rw [q, ai_r63, ai_eq]
    generalize a.toInt * e.toInt = P at *
    by_cases z : a * e < 0
    · rw [if_pos z, i]
      rw [ai_lt, ai_nz] at z
      show _ = -1 ↔ _
      omega
    · rw [if_neg z, i]
      rw [ai_lt, ai_nz] at z
      show _ = 0 ↔ _
      omega
  by_cases z : pn_pf a e = 0
  · rw [if_pos z, if_neg (fun w => key.mp w z)]
  · rw [if_neg z, if_pos (key.mpr z)]
end MN
