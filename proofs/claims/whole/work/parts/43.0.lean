section AI
variable {x y a b e f c : Int64}
def uN (x : Int64) : Nat := x.toBitVec.toNat
theorem uN_lt (x : Int64) : uN x < 18446744073709551616 := x.toBitVec.isLt
theorem uN_int (x : Int64) : x.toInt = if uN x < 9223372036854775808 then (uN x : Int) else (uN x : Int) - 18446744073709551616 := by
  show x.toBitVec.toInt = _
  rw [BitVec.toInt_eq_toNat_cond]
  show (if 2 * uN x < 18446744073709551616 then (uN x : Int) else (uN x : Int) - 18446744073709551616) = _
  by_cases q : uN x < 9223372036854775808
  · rw [if_pos q, if_pos (by omega)]
  · rw [if_neg q, if_neg (by omega)]
theorem uN_inj : uN x = uN y ↔ x = y := by
  constructor
  · intro q
    exact Int64.toBitVec_inj.mp (BitVec.eq_of_toNat_eq q)
  · intro q
    rw [q]
theorem ai_lo (x : Int64) : -9223372036854775808 ≤ x.toInt := Int64.le_toInt x
theorem ai_hi (x : Int64) : x.toInt < 9223372036854775808 := Int64.toInt_lt x
theorem ai_le : x ≤ y ↔ x.toInt ≤ y.toInt := Int64.le_iff_toInt_le
theorem ai_lt : x < y ↔ x.toInt < y.toInt := Int64.lt_iff_toInt_lt
theorem ai_eq : x = y ↔ x.toInt = y.toInt := Int64.toInt_inj.symm
theorem ai_bm {z : Int} (h1 : -9223372036854775808 ≤ z) (h2 : z < 9223372036854775808) : z.bmod (2 ^ 64) = z := by
  apply Int.bmod_eq_of_le_mul_two
  · show -(18446744073709551616 : Int) ≤ z * 2
    omega
  · show z * 2 < (18446744073709551616 : Int)
    omega
theorem ai_add (h1 : -9223372036854775808 ≤ x.toInt + y.toInt) (h2 : x.toInt + y.toInt < 9223372036854775808) : (x + y).toInt = x.toInt + y.toInt := by
  rw [Int64.toInt_add, ai_bm h1 h2]
theorem ai_sub (h1 : -9223372036854775808 ≤ x.toInt - y.toInt) (h2 : x.toInt - y.toInt < 9223372036854775808) : (x - y).toInt = x.toInt - y.toInt := by
  rw [Int64.toInt_sub, ai_bm h1 h2]
theorem ai_mul (h1 : -9223372036854775808 ≤ x.toInt * y.toInt) (h2 : x.toInt * y.toInt < 9223372036854775808) : (x * y).toInt = x.toInt * y.toInt := by
  rw [Int64.toInt_mul, ai_bm h1 h2]
theorem ai_neg (h1 : x.toInt ≠ -9223372036854775808) : (-x).toInt = -x.toInt := by
  have := ai_lo x
  have := ai_hi x
  rw [Int64.toInt_neg, ai_bm (by omega) (by omega)]
theorem ai_bmx (z : Int) : ∃ m : Int, z.bmod (2 ^ 64) = z + m * 18446744073709551616 := by
  refine ⟨-Int.bdiv z (2 ^ 64), ?_⟩
  rw [Int.bmod_eq_self_sub_mul_bdiv]
  have : ((2 ^ 64 : Nat) : Int) = 18446744073709551616 := by decide
  rw [this]
  generalize Int.bdiv z (2 ^ 64) = q
  omega
theorem ai_addx (x y : Int64) : (x + y).toInt = x.toInt + y.toInt ∨ (x + y).toInt = x.toInt + y.toInt + 18446744073709551616 ∨ (x + y).toInt = x.toInt + y.toInt - 18446744073709551616 := by
  obtain ⟨m, hm⟩ := ai_bmx (x.toInt + y.toInt)
  rw [← Int64.toInt_add] at hm
  have := ai_lo x
  have := ai_hi x
  have := ai_lo y
  have := ai_hi y
  have := ai_lo (x + y)
  have := ai_hi (x + y)
  omega
theorem ai_subx (x y : Int64) : (x - y).toInt = x.toInt - y.toInt ∨ (x - y).toInt = x.toInt - y.toInt + 18446744073709551616 ∨ (x - y).toInt = x.toInt - y.toInt - 18446744073709551616 := by
  obtain ⟨m, hm⟩ := ai_bmx (x.toInt - y.toInt)
  rw [← Int64.toInt_sub] at hm
  have := ai_lo x
  have := ai_hi x
  have := ai_lo y
  have := ai_hi y
  have := ai_lo (x - y)
  have := ai_hi (x - y)
  omega
theorem ai_nz : (0 : Int64).toInt = 0 := rfl
theorem ai_msb : (x < 0) ↔ x.toBitVec.msb = true := by
  rw [ai_lt, ai_nz, BitVec.msb_eq_toInt]
  simp
theorem ai_xand : ((x ^^^ y) &&& (a ^^^ b)) < 0 ↔ ((x < 0) ≠ (y < 0)) ∧ ((a < 0) ≠ (b < 0)) := by
  rw [ai_msb]
  have e : ∀ z : Int64, (z < 0) = (z.toBitVec.msb = true) := fun z => propext ai_msb
  rw [e x, e y, e a, e b]
  simp [BitVec.msb_and, BitVec.msb_xor]
theorem ai_sf : pn_sf x y = 0 ↔ ¬ (-9223372036854775808 ≤ x.toInt + y.toInt ∧ x.toInt + y.toInt < 9223372036854775808) := by
  unfold pn_sf
  have q : ((x ^^^ (x + y)) &&& (y ^^^ (x + y))) < 0 ↔ ¬ (-9223372036854775808 ≤ x.toInt + y.toInt ∧ x.toInt + y.toInt < 9223372036854775808) := by
    rw [ai_xand]
    simp only [ai_lt, ai_nz, ne_eq, eq_iff_iff]
    have := ai_lo x
    have := ai_hi x
    have := ai_lo y
    have := ai_hi y
    have := ai_lo (x + y)
    have := ai_hi (x + y)
    rcases ai_addx x y with e | e | e <;> omega
  by_cases c : ((x ^^^ (x + y)) &&& (y ^^^ (x + y))) < 0
  · rw [if_pos c]
    exact ⟨fun _ => q.mp c, fun _ => rfl⟩
  · rw [if_neg c]
    exact ⟨fun r => absurd r (by decide), fun r => absurd (q.mpr r) c⟩
theorem ai_df : pn_df x y = 0 ↔ ¬ (-9223372036854775808 ≤ x.toInt - y.toInt ∧ x.toInt - y.toInt < 9223372036854775808) := by
  unfold pn_df
  have q : ((x ^^^ y) &&& (x ^^^ (x - y))) < 0 ↔ ¬ (-9223372036854775808 ≤ x.toInt - y.toInt ∧ x.toInt - y.toInt < 9223372036854775808) := by
    rw [ai_xand]
    simp only [ai_lt, ai_nz, ne_eq, eq_iff_iff]
    have := ai_lo x
    have := ai_hi x
    have := ai_lo y
    have := ai_hi y
    have := ai_lo (x - y)
    have := ai_hi (x - y)
    rcases ai_subx x y with e | e | e <;> omega
  by_cases c : ((x ^^^ y) &&& (x ^^^ (x - y))) < 0
  · rw [if_pos c]
    exact ⟨fun _ => q.mp c, fun _ => rfl⟩
  · rw [if_neg c]
    exact ⟨fun r => absurd r (by decide), fun r => absurd (q.mpr r) c⟩
theorem ai_pf : pn_pf x y = 0 ↔ ¬ (-9223372036854775808 ≤ x.toInt * y.toInt ∧ x.toInt * y.toInt < 9223372036854775808) := by
  unfold pn_pf
  have y1 := ai_lo y
  have y2 := ai_hi y
  by_cases c0 : x = 0
  · rw [if_pos c0, c0, ai_nz]
    simp
  · rw [if_neg c0]
    have x0 : x.toInt ≠ 0 := fun q => c0 (ai_eq.mpr q)
    by_cases c1 : x = -1
    · rw [if_pos c1, c1]
      have e1 : (-1 : Int64).toInt = -1 := rfl
      rw [e1]
      by_cases c2 : y = -9223372036854775808
      · rw [if_pos c2, c2]
        decide
      · rw [if_neg c2]
        have : y.toInt ≠ -9223372036854775808 := fun q => c2 (ai_eq.mpr q)
        constructor
        · intro q
          exact absurd q (by decide)
        · intro q
          omega
    · rw [if_neg c1]
      have x1 : x.toInt ≠ -1 := fun q => c1 (ai_eq.mpr q)
      have ed : (x * y / x).toInt = (x * y).toInt.tdiv x.toInt := Int64.toInt_div_of_ne_right _ _ c1
      constructor
      · intro q ⟨r1, r2⟩
        have em := ai_mul r1 r2
        have : x * y / x = y := by
          rw [ai_eq, ed, em, Int.mul_comm, Int.mul_tdiv_cancel _ x0]
        rw [if_pos this] at q
        exact absurd q (by decide)
      · intro q
        rw [if_neg]
        intro r
        apply q
        rw [ai_eq, ed] at r
        obtain ⟨m, hm⟩ := ai_bmx (x.toInt * y.toInt)
        rw [← Int64.toInt_mul] at hm
        have p1 := ai_lo (x * y)
        have p2 := ai_hi (x * y)
        generalize hP : (x * y).toInt = P at *
        have hd : x.toInt * P.tdiv x.toInt + P.tmod x.toInt = P := Int.mul_tdiv_add_tmod P x.toInt
        rw [r] at hd
        have hmod : (P.tmod x.toInt).natAbs < x.toInt.natAbs := by
          rw [Int.natAbs_tmod]
          exact Nat.mod_lt _ (by omega)
        have xl := ai_lo x
        have xh := ai_hi x
        generalize x.toInt * y.toInt = Z at *
        generalize P.tmod x.toInt = M at *
        omega
end AI
