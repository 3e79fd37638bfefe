section AJ
variable {x y a b e f c : Int64}
theorem uN_and : uN (x &&& y) = uN x &&& uN y := by
  simp [uN]
theorem uN_or : uN (x ||| y) = uN x ||| uN y := by
  simp [uN]
theorem uN_xor : uN (x ^^^ y) = uN x ^^^ uN y := by
  simp [uN]
theorem uN_low : uN (x &&& 4294967295) = uN x % 4294967296 := by
  rw [uN_and]
  exact Nat.and_two_pow_sub_one_eq_mod (uN x) 32
theorem uN_pos (h : 0 ≤ x.toInt) : (uN x : Int) = x.toInt := by
  have h2 := uN_int x
  have h3 := uN_lt x
  split at h2 <;> omega
theorem uN_of {n : Nat} (h : n < 18446744073709551616) : uN (Int64.ofNat n) = n := by
  show (BitVec.ofNat 64 n).toNat = n
  rw [BitVec.toNat_ofNat]
  exact Nat.mod_eq_of_lt h
theorem ai_low : (x &&& 4294967295).toInt = (uN x : Int) % 4294967296 := by
  rw [uN_int, uN_low, if_pos (by omega)]
  omega
theorem ai_lows (h1 : 0 ≤ x.toInt) (h2 : x.toInt ≤ 4294967295) : x &&& 4294967295 = x := by
  rw [ai_eq, ai_low]
  have := uN_pos h1
  omega
theorem as_sh (j : Nat) (hj : j < 64) : (Int32.toInt64 (nI j) &&& 63).toBitVec.smod 64 = BitVec.ofNat 64 j := by
  have : ∀ j : Fin 64, (Int32.toInt64 (nI j.val) &&& 63).toBitVec.smod 64 = BitVec.ofNat 64 j.val := by decide
  exact this ⟨j, hj⟩
theorem as_shu (j : Nat) (hj : j < 64) : (Int64.toUInt64 (Int32.toInt64 (nI j)) &&& Int64.toUInt64 63).toBitVec % 64 = BitVec.ofNat 64 j := by
  have : ∀ j : Fin 64, (Int64.toUInt64 (Int32.toInt64 (nI j.val)) &&& Int64.toUInt64 63).toBitVec % 64 = BitVec.ofNat 64 j.val := by decide
  exact this ⟨j, hj⟩
theorem ofN64 {j : Nat} (hj : j < 64) : (BitVec.ofNat 64 j).toNat = j := by
  rw [BitVec.toNat_ofNat]
  omega
theorem ai_sar {j : Nat} (hj : j < 64) : (x >>> (Int32.toInt64 (nI j) &&& 63)).toInt = x.toInt / 2 ^ j := by
  show (x >>> (Int32.toInt64 (nI j) &&& 63)).toBitVec.toInt = _
  rw [Int64.toBitVec_shiftRight, as_sh j hj, BitVec.sshiftRight_eq', BitVec.toInt_sshiftRight, ofN64 hj, Int.shiftRight_eq_div_pow]
  rfl
theorem uN_shl {j : Nat} (hj : j < 64) : uN (x <<< (Int32.toInt64 (nI j) &&& 63)) = uN x * 2 ^ j % 18446744073709551616 := by
  show (x <<< (Int32.toInt64 (nI j) &&& 63)).toBitVec.toNat = _
  rw [Int64.toBitVec_shiftLeft, as_sh j hj, BitVec.shiftLeft_eq', BitVec.toNat_shiftLeft, ofN64 hj, Nat.shiftLeft_eq]
  rfl
theorem uN_shr {j : Nat} (hj : j < 64) : uN (UInt64.toInt64 (Int64.toUInt64 x >>> (Int64.toUInt64 (Int32.toInt64 (nI j)) &&& Int64.toUInt64 63))) = uN x / 2 ^ j := by
  show (Int64.toUInt64 x >>> (Int64.toUInt64 (Int32.toInt64 (nI j)) &&& Int64.toUInt64 63)).toBitVec.toNat = _
  rw [UInt64.toBitVec_shiftRight, as_shu j hj, BitVec.ushiftRight_eq', BitVec.toNat_ushiftRight, ofN64 hj, Nat.shiftRight_eq_div_pow]
  rfl
theorem ai_shl {j : Nat} (hj : j < 64) : ∃ m : Int, (x <<< (Int32.toInt64 (nI j) &&& 63)).toInt = x.toInt * 2 ^ j + m * 18446744073709551616 := by
  have e := uN_shl (x := x) hj
  have i1 := uN_int x
  have i2 := uN_int (x <<< (Int32.toInt64 (nI j) &&& 63))
  rw [e] at i2
  have hd := Nat.div_add_mod (uN x * 2 ^ j) 18446744073709551616
  have ez : ((uN x * 2 ^ j % 18446744073709551616 : Nat) : Int) = (uN x : Int) * 2 ^ j - 18446744073709551616 * ((uN x * 2 ^ j / 18446744073709551616 : Nat) : Int) := by
    have h2 : ((uN x * 2 ^ j : Nat) : Int) = (uN x : Int) * 2 ^ j := by
      rw [Int.natCast_mul]
      congr 1
    rw [← h2]
    omega
  generalize hD : ((uN x * 2 ^ j / 18446744073709551616 : Nat) : Int) = D at ez
  generalize hM : (uN x * 2 ^ j % 18446744073709551616) = M at *
  generalize hP : (2 : Int) ^ j = P at *
  by_cases c1 : uN x < 9223372036854775808
  · rw [if_pos c1] at i1
    rw [i1, i2]
    by_cases c2 : M < 9223372036854775808
    · rw [if_pos c2]
      exact ⟨-D, by rw [ez]; omega⟩
    · rw [if_neg c2]
      exact ⟨-D - 1, by rw [ez]; omega⟩
  · rw [if_neg c1] at i1
    rw [i1, i2, Int.sub_mul]
    by_cases c2 : M < 9223372036854775808
    · rw [if_pos c2]
      exact ⟨-D + P, by rw [ez, Int.add_mul]; omega⟩
    · rw [if_neg c2]
      exact ⟨-D - 1 + P, by rw [ez, Int.add_mul]; omega⟩
theorem ip_pos (j : Nat) : (0 : Int) < 2 ^ j := by
  have : (0 : Int) < ((2 ^ j : Nat) : Int) := by
    exact Int.natCast_pos.mpr (Nat.two_pow_pos j)
  rw [Int.natCast_pow] at this
  exact this
theorem ip_64 {j : Nat} (hj : j < 64) : ∃ Q : Int, 18446744073709551616 = Q * 2 ^ j ∧ 0 < Q := by
  refine ⟨2 ^ (64 - j), ?_, ip_pos _⟩
  rw [← Int.pow_add, show 64 - j + j = 64 by omega]
  rfl
theorem ai_shl0 {j : Nat} (hj : j < 64) (q : (x <<< (Int32.toInt64 (nI j) &&& 63)) >>> (Int32.toInt64 (nI j) &&& 63) = x) : (x <<< (Int32.toInt64 (nI j) &&& 63)).toInt = x.toInt * 2 ^ j := by
  obtain ⟨m, hm⟩ := ai_shl (x := x) hj
  rw [ai_eq, ai_sar hj, hm] at q
  obtain ⟨Q, hQ, hQ0⟩ := ip_64 hj
  have p0 := ip_pos j
  rw [hQ, ← Int.mul_assoc, ← Int.add_mul, Int.mul_ediv_cancel _ (by omega)] at q
  have : m * Q = 0 := by omega
  have : m = 0 := by
    rcases Int.mul_eq_zero.mp this with r | r
    · exact r
    · omega
  rw [hm, this]
  omega
theorem ai_shl1 {j : Nat} (hj : j < 64) (h1 : -9223372036854775808 ≤ x.toInt * 2 ^ j) (h2 : x.toInt * 2 ^ j < 9223372036854775808) : (x <<< (Int32.toInt64 (nI j) &&& 63)).toInt = x.toInt * 2 ^ j := by
  obtain ⟨m, hm⟩ := ai_shl (x := x) hj
  have := ai_lo (x <<< (Int32.toInt64 (nI j) &&& 63))
  have := ai_hi (x <<< (Int32.toInt64 (nI j) &&& 63))
  rw [hm] at *
  generalize x.toInt * 2 ^ j = Z at *
  omega
theorem ai_shr {j : Nat} (hj : j < 64) (h : 0 ≤ x.toInt) : (UInt64.toInt64 (Int64.toUInt64 x >>> (Int64.toUInt64 (Int32.toInt64 (nI j)) &&& Int64.toUInt64 63))).toInt = x.toInt / 2 ^ j := by
  have h2 := uN_pos h
  have h3 := ai_hi x
  rw [uN_int, uN_shr hj]
  have h4 : uN x / 2 ^ j ≤ uN x := Nat.div_le_self _ _
  rw [if_pos (by omega), ← h2]
  rw [Int.natCast_ediv, Int.natCast_pow]
  rfl
theorem sh_63 (e : Int64) : ∃ j, j < 64 ∧ Int64.toInt32 e &&& 63 = nI j := by
  refine ⟨(Int64.toInt32 e &&& 63).toBitVec.toNat, ?_, ?_⟩
  · rw [Int32.toBitVec_and, BitVec.toNat_and]
    exact Nat.lt_of_le_of_lt Nat.and_le_right (by decide)
  · apply Int32.toBitVec_inj.mp
    apply BitVec.eq_of_toNat_eq
    show _ = (BitVec.ofNat 32 _).toNat
    rw [BitVec.toNat_ofNat, Nat.mod_eq_of_lt (BitVec.isLt _)]
theorem sh_31 (e : Int64) : ∃ j, j < 32 ∧ Int64.toInt32 e &&& 31 = nI j := by
  refine ⟨(Int64.toInt32 e &&& 31).toBitVec.toNat, ?_, ?_⟩
  · rw [Int32.toBitVec_and, BitVec.toNat_and]
    exact Nat.lt_of_le_of_lt Nat.and_le_right (by decide)
  · apply Int32.toBitVec_inj.mp
    apply BitVec.eq_of_toNat_eq
    show _ = (BitVec.ofNat 32 _).toNat
    rw [BitVec.toNat_ofNat, Nat.mod_eq_of_lt (BitVec.isLt _)]
theorem uN_quo (hc : c ≠ 0) : uN (ar_quo x c) = uN x / uN c := by
  unfold ar_quo
  rw [if_neg hc]
  have c0 : uN c ≠ 0 := fun q => hc (uN_inj.mp q)
  have xl := uN_lt x
  have cl := uN_lt c
  have xi := uN_int x
  have ci := uN_int c
  by_cases h1 : 0 ≤ c
  · rw [if_pos h1]
    have h1' : 0 ≤ c.toInt := ai_le.mp h1
    have cp := uN_pos h1'
    have chi := ai_hi c
    have e1 : uN (UInt64.toInt64 (Int64.toUInt64 x >>> (Int64.toUInt64 (Int32.toInt64 (1 : Int32)) &&& Int64.toUInt64 63))) = uN x / 2 := by
      have := uN_shr (x := x) (j := 1) (by decide)
      exact this
    generalize hH : UInt64.toInt64 (Int64.toUInt64 x >>> (Int64.toUInt64 (Int32.toInt64 (1 : Int32)) &&& Int64.toUInt64 63)) = H at *
    have Hi : H.toInt = (uN x / 2 : Nat) := by
      rw [uN_int, e1, if_pos (by omega)]
    have hq : (H / c).toInt = ((uN x / 2 / uN c : Nat) : Int) := by
      rw [Int64.toInt_div_of_ne_right _ _ (by intro q; rw [q] at h1'; exact absurd h1' (by decide)), Hi, Int.tdiv_eq_ediv_of_nonneg (by omega), ← cp]
      rfl
    have hle : uN x / 2 / uN c ≤ uN x / 2 := Nat.div_le_self _ _
    have hqn : uN (H / c) = uN x / 2 / uN c := by
      have := uN_pos (x := H / c) (by rw [hq]; exact Int.natCast_nonneg _)
      exact Int.ofNat_inj.mp (this.trans hq)
    have hs : uN ((H / c) <<< (Int32.toInt64 (1 : Int32) &&& 63)) = uN x / 2 / uN c * 2 := by
      have := uN_shl (x := H / c) (j := 1) (by decide)
      rw [hqn] at this
      rw [Nat.mod_eq_of_lt (by omega)] at this
      exact this
    generalize hS : (H / c) <<< (Int32.toInt64 (1 : Int32) &&& 63) = S at *
    have hd := Nat.div_add_mod (uN x / 2) (uN c)
    have hm := Nat.mod_lt (uN x / 2) (show 0 < uN c by omega)
    have hSi : S.toInt = ((uN x / 2 / uN c * 2 : Nat) : Int) ∨ S.toInt = ((uN x / 2 / uN c * 2 : Nat) : Int) - 18446744073709551616 := by
      rw [uN_int S, hs]
      split
      · exact Or.inl rfl
      · exact Or.inr rfl
    have hm2 : uN (S * c) = uN x / 2 / uN c * 2 * uN c := by
      show (S * c).toBitVec.toNat = _
      rw [Int64.toBitVec_mul, BitVec.toNat_mul]
      show uN S * uN c % 18446744073709551616 = _
      rw [hs, Nat.mod_eq_of_lt]
      have : uN x / 2 / uN c * 2 * uN c = 2 * (uN c * (uN x / 2 / uN c)) := by
        rw [Nat.mul_comm (uN x / 2 / uN c) 2, Nat.mul_assoc, Nat.mul_comm (uN x / 2 / uN c) (uN c)]
      omega
    have hr : uN (x - S * c) = uN x - uN x / 2 / uN c * 2 * uN c := by
      show (x - S * c).toBitVec.toNat = _
      rw [Int64.toBitVec_sub, BitVec.toNat_sub]
      show (18446744073709551616 - uN (S * c) + uN x) % 18446744073709551616 = _
      rw [hm2]
      have : uN x / 2 / uN c * 2 * uN c = 2 * (uN c * (uN x / 2 / uN c)) := by
        rw [Nat.mul_comm (uN x / 2 / uN c) 2, Nat.mul_assoc, Nat.mul_comm (uN x / 2 / uN c) (uN c)]
      omega
    have hQ : uN x / 2 / uN c * 2 * uN c = 2 * (uN c * (uN x / 2 / uN c)) := by
      rw [Nat.mul_comm (uN x / 2 / uN c) 2, Nat.mul_assoc, Nat.mul_comm (uN x / 2 / uN c) (uN c)]
    have hri := uN_int (x - S * c)
    rw [hr] at hri
    have hp1 : uN (S + 1) = uN x / 2 / uN c * 2 + 1 := by
      show (S + 1).toBitVec.toNat = _
      rw [Int64.toBitVec_add, BitVec.toNat_add]
      show (uN S + 1) % 18446744073709551616 = _
      rw [hs, Nat.mod_eq_of_lt (by omega)]
    have hN : ∀ k, k * uN c ≤ uN x → uN x < (k + 1) * uN c → uN x / uN c = k := fun k q1 q2 => by
      apply Nat.div_eq_of_lt_le
      · exact q1
      · exact q2
    generalize hK : uN x / 2 / uN c = K at *
    have k1 : K * 2 * uN c = 2 * (uN c * K) := hQ
    have k2 : (K * 2 + 1) * uN c = 2 * (uN c * K) + uN c := by rw [Nat.add_mul, k1, Nat.one_mul]
    have k3 : (K * 2 + 1 + 1) * uN c = 2 * (uN c * K) + uN c + uN c := by rw [Nat.add_mul, k2, Nat.one_mul]
    by_cases r1 : x - S * c < 0
    · rw [if_pos r1, hp1, hN (K * 2 + 1)]
      · rw [k2]
        rw [ai_lt, ai_nz] at r1
        split at hri <;> omega
      · rw [k3]
        omega
    · rw [if_neg r1]
      rw [ai_lt, ai_nz] at r1
      by_cases r2 : x - S * c < c
      · rw [if_pos r2, hs, hN (K * 2)]
        · omega
        · rw [k2]
          rw [ai_lt] at r2
          split at hri <;> omega
      · rw [if_neg r2, hp1, hN (K * 2 + 1)]
        · rw [k2]
          rw [ai_lt] at r2
          split at hri <;> omega
        · rw [k3]
          omega
  · rw [if_neg h1]
    have h1' : c.toInt < 0 := by
      have := mt ai_le.mpr h1
      rw [ai_nz] at this
      omega
    by_cases h2 : 0 ≤ x
    · rw [if_pos h2]
      have h2' : 0 ≤ x.toInt := ai_le.mp h2
      rw [Nat.div_eq_of_lt (by split at xi <;> split at ci <;> omega)]
      rfl
    · rw [if_neg h2]
      have h2' : x.toInt < 0 := by
        have := mt ai_le.mpr h2
        rw [ai_nz] at this
        omega
      by_cases h3 : x < c
      · rw [if_pos h3]
        rw [ai_lt] at h3
        rw [Nat.div_eq_of_lt (by split at xi <;> split at ci <;> omega)]
        rfl
      · rw [if_neg h3]
        rw [ai_lt] at h3
        have : uN x / uN c = 1 := by
          apply Nat.div_eq_of_lt_le
          · split at xi <;> split at ci <;> omega
          · split at xi <;> split at ci <;> omega
        rw [this]
        rfl
theorem ai_quo (h1 : 0 ≤ x.toInt) (h2 : 0 < c.toInt) : (ar_quo x c).toInt = x.toInt / c.toInt := by
  have e := uN_quo (x := x) (c := c) (by intro q; rw [q] at h2; exact absurd h2 (by decide))
  have p1 := uN_pos h1
  have p2 := uN_pos (x := c) (by omega)
  have h3 := ai_hi x
  have h4 : uN x / uN c ≤ uN x := Nat.div_le_self _ _
  rw [uN_int, e, if_pos (by omega), ← p1, ← p2]
  rfl
end AJ
