section AK
variable {x y a b e f c : Int64}
def iv (v : pv_T) (x : Int64) : Prop := v.2.1.toInt ≤ x.toInt ∧ x.toInt ≤ v.2.2.toInt
theorem sd_any : iv pn_any x := ⟨ai_lo x, Int.le_of_lt_add_one (ai_hi x)⟩
theorem mx_i : (mx_L a b).toInt = if a.toInt < b.toInt then b.toInt else a.toInt := by
  unfold mx_L
  by_cases q : a < b
  · rw [if_pos q, if_pos (ai_lt.mp q)]
  · rw [if_neg q, if_neg (fun r => q (ai_lt.mpr r))]
theorem mn_i : (mn_L a b).toInt = if b.toInt < a.toInt then b.toInt else a.toInt := by
  unfold mn_L
  by_cases q : b < a
  · rw [if_pos q, if_pos (ai_lt.mp q)]
  · rw [if_neg q, if_neg (fun r => q (ai_lt.mpr r))]
theorem iv_mk {k : Int32} (h1 : a.toInt ≤ x.toInt) (h2 : x.toInt ≤ b.toInt) : iv (k, a, b) x := ⟨h1, h2⟩
theorem sd_add (h1 : a.toInt ≤ x.toInt) (h2 : x.toInt ≤ b.toInt) (h3 : e.toInt ≤ y.toInt) (h4 : y.toInt ≤ f.toInt) : iv (pn_add a b e f) (x + y) := by
  unfold pn_add
  split
  · exact sd_any
  · next q1 =>
    split
    · exact sd_any
    · next q2 =>
      rw [ai_sf, Decidable.not_not] at q1 q2
      have e1 := ai_add q1.1 q1.2
      have e2 := ai_add q2.1 q2.2
      have e3 := ai_add (x := x) (y := y) (by omega) (by omega)
      exact iv_mk (by omega) (by omega)
theorem sd_sub (h1 : a.toInt ≤ x.toInt) (h2 : x.toInt ≤ b.toInt) (h3 : e.toInt ≤ y.toInt) (h4 : y.toInt ≤ f.toInt) : iv (pn_sub a b e f) (x - y) := by
  unfold pn_sub
  split
  · exact sd_any
  · next q1 =>
    split
    · exact sd_any
    · next q2 =>
      rw [ai_df, Decidable.not_not] at q1 q2
      have e1 := ai_sub q1.1 q1.2
      have e2 := ai_sub q2.1 q2.2
      have e3 := ai_sub (x := x) (y := y) (by omega) (by omega)
      exact iv_mk (by omega) (by omega)
theorem im_hi {a b e f x y : Int} (h1 : a ≤ x) (h2 : x ≤ b) (h3 : e ≤ y) (h4 : y ≤ f) : x * y ≤ a * e ∨ x * y ≤ a * f ∨ x * y ≤ b * e ∨ x * y ≤ b * f := by
  by_cases y0 : 0 ≤ y
  · have q := Int.mul_le_mul_of_nonneg_right h2 y0
    by_cases b0 : 0 ≤ b
    · have := Int.mul_le_mul_of_nonneg_left h4 b0
      omega
    · have := Int.mul_le_mul_of_nonpos_left (a := b) (by omega) h3
      omega
  · have q := Int.mul_le_mul_of_nonpos_right h1 (show y ≤ 0 by omega)
    by_cases a0 : 0 ≤ a
    · have := Int.mul_le_mul_of_nonneg_left h4 a0
      omega
    · have := Int.mul_le_mul_of_nonpos_left (a := a) (by omega) h3
      omega
theorem im_lo {a b e f x y : Int} (h1 : a ≤ x) (h2 : x ≤ b) (h3 : e ≤ y) (h4 : y ≤ f) : a * e ≤ x * y ∨ a * f ≤ x * y ∨ b * e ≤ x * y ∨ b * f ≤ x * y := by
  have := im_hi (a := -b) (b := -a) (x := -x) (by omega) (by omega) h3 h4
  simp only [Int.neg_mul] at this
  omega
theorem sd_mul (h1 : a.toInt ≤ x.toInt) (h2 : x.toInt ≤ b.toInt) (h3 : e.toInt ≤ y.toInt) (h4 : y.toInt ≤ f.toInt) : iv (pn_mul a b e f) (x * y) := by
  unfold pn_mul
  split
  · exact sd_any
  · next q1 =>
    split
    · exact sd_any
    · next q2 =>
      split
      · exact sd_any
      · next q3 =>
        split
        · exact sd_any
        · next q4 =>
          rw [ai_pf, Decidable.not_not] at q1 q2 q3 q4
          have e1 := ai_mul q1.1 q1.2
          have e2 := ai_mul q2.1 q2.2
          have e3 := ai_mul q3.1 q3.2
          have e4 := ai_mul q4.1 q4.2
          have m1 := im_hi h1 h2 h3 h4
          have m2 := im_lo h1 h2 h3 h4
          generalize a.toInt * e.toInt = P1 at *
          generalize a.toInt * f.toInt = P2 at *
          generalize b.toInt * e.toInt = P3 at *
          generalize b.toInt * f.toInt = P4 at *
          have e5 := ai_mul (x := x) (y := y) (by omega) (by omega)
          generalize x.toInt * y.toInt = Z at *
          refine iv_mk ?_ ?_
          · simp only [mn_i, e1, e2, e3, e4, e5]
            (repeat' split) <;> omega
          · simp only [mx_i, e1, e2, e3, e4, e5]
            (repeat' split) <;> omega
theorem ai_div (h1 : 0 ≤ a.toInt) (h2 : 0 < b.toInt) : (a / b).toInt = a.toInt / b.toInt := by
  rw [Int64.toInt_div_of_ne_right _ _ (by intro q; rw [q] at h2; exact absurd h2 (by decide)), Int.tdiv_eq_ediv_of_nonneg h1]
theorem im_div {a b e f x y : Int} (h0 : 0 ≤ a) (h1 : a ≤ x) (h2 : x ≤ b) (he : 0 < e) (h3 : e ≤ y) (h4 : y ≤ f) : a / f ≤ x / y ∧ x / y ≤ b / e := by
  constructor
  · apply (Int.le_ediv_iff_mul_le (by omega)).mpr
    have q := Int.ediv_mul_le a (show f ≠ 0 by omega)
    have n := Int.ediv_nonneg h0 (show 0 ≤ f by omega)
    have := Int.mul_le_mul_of_nonneg_left h4 n
    omega
  · apply (Int.le_ediv_iff_mul_le he).mpr
    have q := Int.ediv_mul_le x (show y ≠ 0 by omega)
    have n := Int.ediv_nonneg (show 0 ≤ x by omega) (show 0 ≤ y by omega)
    have := Int.mul_le_mul_of_nonneg_left h3 n
    omega
theorem sd_div (h1 : a.toInt ≤ x.toInt) (h2 : x.toInt ≤ b.toInt) (h3 : e.toInt ≤ y.toInt) (h4 : y.toInt ≤ f.toInt) : iv (pn_div a b e f) (ar_quo x y) := by
  unfold pn_div
  split
  · exact sd_any
  · next q1 =>
    split
    · exact sd_any
    · next q2 =>
      split
      · exact sd_any
      · next q3 =>
        rw [ai_lt, ai_nz] at q1
        rw [ai_le, ai_nz] at q2 q3
        have e1 := ai_div (a := a) (b := f) (by omega) (by omega)
        have e2 := ai_div (a := b) (b := e) (by omega) (by omega)
        have e3 := ai_quo (x := x) (c := y) (by omega) (by omega)
        have m := im_div (show 0 ≤ a.toInt by omega) h1 h2 (show 0 < e.toInt by omega) h3 h4
        exact iv_mk (by rw [e1, e3]; exact m.1) (by rw [e2, e3]; exact m.2)
theorem ai_rem (h1 : 0 ≤ x.toInt) (h2 : 0 < y.toInt) : (x - ar_quo x y * y).toInt = x.toInt % y.toInt := by
  have q := ai_quo h1 h2
  have d := Int.mul_ediv_add_emod x.toInt y.toInt
  have m0 := Int.emod_nonneg x.toInt (show y.toInt ≠ 0 by omega)
  have m1 := Int.emod_lt_of_pos x.toInt h2
  have n := Int.ediv_nonneg h1 (show 0 ≤ y.toInt by omega)
  have xh := ai_hi x
  have e0 : (ar_quo x y).toInt * y.toInt = y.toInt * (x.toInt / y.toInt) := by
    rw [q, Int.mul_comm]
  have n2 := Int.mul_nonneg (show 0 ≤ y.toInt by omega) n
  have e1 := ai_mul (x := ar_quo x y) (y := y) (by omega) (by omega)
  have e2 := ai_sub (x := x) (y := ar_quo x y * y) (by omega) (by omega)
  omega
theorem sd_rem (h1 : a.toInt ≤ x.toInt) (h2 : x.toInt ≤ b.toInt) (h3 : e.toInt ≤ y.toInt) (h4 : y.toInt ≤ f.toInt) : iv (pn_rem a b e f) (x - ar_quo x y * y) := by
  unfold pn_rem
  split
  · exact sd_any
  · next q1 =>
    split
    · exact sd_any
    · next q2 =>
      rw [ai_lt, ai_nz] at q1
      rw [ai_le, ai_nz] at q2
      have e1 := ai_rem (x := x) (y := y) (by omega) (by omega)
      have m0 := Int.emod_nonneg x.toInt (show y.toInt ≠ 0 by omega)
      have m1 := Int.emod_lt_of_pos x.toInt (show 0 < y.toInt by omega)
      have m3 := Int.mul_ediv_add_emod x.toInt y.toInt
      have m4 := Int.mul_nonneg (show 0 ≤ y.toInt by omega) (Int.ediv_nonneg (show 0 ≤ x.toInt by omega) (show 0 ≤ y.toInt by omega))
      have e2 : (1 : Int64).toInt = 1 := rfl
      have fl := ai_lo f
      have fh := ai_hi f
      have e3 := ai_sub (x := f) (y := 1) (by omega) (by omega)
      refine iv_mk (by rw [e1, ai_nz]; exact m0) ?_
      rw [mn_i, e3, e1]
      split <;> omega
theorem ai_and (h : 0 ≤ y.toInt) : 0 ≤ (x &&& y).toInt ∧ (x &&& y).toInt ≤ y.toInt := by
  have p := uN_pos h
  have hy := ai_hi y
  have q : uN (x &&& y) ≤ uN y := by
    rw [uN_and]
    exact Nat.and_le_right
  rw [uN_int (x &&& y), if_pos (by omega)]
  omega
theorem ai_andc : x &&& y = y &&& x := by
  apply uN_inj.mp
  rw [uN_and, uN_and, Nat.and_comm]
theorem sd_and (h1 : a.toInt ≤ x.toInt) (h2 : x.toInt ≤ b.toInt) (h3 : e.toInt ≤ y.toInt) (h4 : y.toInt ≤ f.toInt) : iv (pn_and a b e f) (x &&& y) := by
  have c1 : 0 ≤ y.toInt → 0 ≤ (x &&& y).toInt ∧ (x &&& y).toInt ≤ y.toInt := ai_and
  have c2 : 0 ≤ x.toInt → 0 ≤ (x &&& y).toInt ∧ (x &&& y).toInt ≤ x.toInt := fun q => by
    rw [ai_andc]
    exact ai_and q
  have h8 : iv (pn_and8 a b e f) (x &&& y) := by
    unfold pn_and8
    split
    · next q1 =>
      split
      · exact sd_any
      · next q2 =>
        rw [ai_lt, ai_nz] at q2
        have := c2 (by omega)
        exact iv_mk (by rw [ai_nz]; omega) (by omega)
    · next q1 =>
      rw [ai_lt, ai_nz] at q1
      have := c1 (by omega)
      exact iv_mk (by rw [ai_nz]; omega) (by omega)
  unfold pn_and
  split
  · exact h8
  · next q1 =>
    split
    · exact h8
    · next q2 =>
      rw [ai_lt, ai_nz] at q1 q2
      have := c1 (by omega)
      have := c2 (by omega)
      refine iv_mk (by rw [ai_nz]; omega) ?_
      rw [mn_i]
      split <;> omega
theorem nt_or1 (n : Nat) : 2 * n ||| 1 = 2 * n + 1 := by
  have := Nat.shiftLeft_add_eq_or_of_lt (i := 1) (b := 1) (by decide) n
  rw [Nat.shiftLeft_eq, Nat.mul_comm] at this
  exact this.symm
theorem uN_dbl {k : Nat} (h : uN y = 2 ^ k - 1) (hk : k < 63) : uN (y <<< (Int32.toInt64 (1 : Int32) &&& 63) ||| 1) = 2 ^ (k + 1) - 1 := by
  have e := uN_shl (x := y) (j := 1) (by decide)
  have e' : uN (y <<< (Int32.toInt64 (1 : Int32) &&& 63)) = uN y * 2 ^ 1 % 18446744073709551616 := e
  rw [uN_or, e']
  have p : 2 ^ (k + 1) ≤ 2 ^ 63 := Nat.pow_le_pow_right (by decide) (by omega)
  have p1 : 2 ^ (k + 1) = 2 * 2 ^ k := by rw [Nat.pow_succ, Nat.mul_comm]
  have p2 : 0 < 2 ^ k := Nat.two_pow_pos k
  have p3 : (2 : Nat) ^ 63 = 9223372036854775808 := by decide
  rw [Nat.mod_eq_of_lt (by omega)]
  show uN y * 2 ||| 1 = _
  rw [Nat.mul_comm, nt_or1]
  omega
theorem pn_ol_e {m : Int64} (hm : 0 ≤ m.toInt) : ∀ (t k : Nat) (y : Int64), k + t = 63 → uN y = 2 ^ k - 1 → ∃ j, j ≤ 63 ∧ uN (pn_ol m t y) = 2 ^ j - 1 ∧ uN m ≤ 2 ^ j - 1 := by
  intro t
  induction t with
  | zero =>
    intro k y hk hy
    have : k = 63 := by omega
    subst this
    refine ⟨63, by omega, hy, ?_⟩
    have := uN_pos hm
    have := ai_hi m
    have p3 : (2 : Nat) ^ 63 = 9223372036854775808 := by decide
    omega
  | succ t ih =>
    intro k y hk hy
    show ∃ j, j ≤ 63 ∧ uN (if m ≤ y then y else pn_ol m t (y <<< (Int32.toInt64 (1 : Int32) &&& 63) ||| 1)) = 2 ^ j - 1 ∧ _
    by_cases c : m ≤ y
    · rw [if_pos c]
      refine ⟨k, by omega, hy, ?_⟩
      rw [ai_le] at c
      have e1 := uN_pos hm
      have e2 := uN_pos (x := y) (by omega)
      omega
    · rw [if_neg c]
      exact ih (k + 1) _ (by omega) (uN_dbl hy (by omega))
theorem sd_or (h1 : a.toInt ≤ x.toInt) (h2 : x.toInt ≤ b.toInt) (h3 : e.toInt ≤ y.toInt) (h4 : y.toInt ≤ f.toInt) : iv (pn_or a b e f) (x ||| y) ∧ iv (pn_or a b e f) (x ^^^ y) := by
  unfold pn_or
  split
  · exact ⟨sd_any, sd_any⟩
  · next q1 =>
    split
    · next q2 =>
      rw [ai_lt, ai_nz] at q1
      rw [ai_le, ai_nz] at q2
      have hm : 0 ≤ (mx_L b f).toInt := by
        rw [mx_i]
        split <;> omega
      obtain ⟨j, j1, j2, j3⟩ := pn_ol_e (m := mx_L b f) hm 63 0 0 rfl rfl
      have pm := uN_pos hm
      rw [mx_i] at pm
      have px := uN_pos (x := x) (by omega)
      have py := uN_pos (x := y) (by omega)
      have p2 : 0 < 2 ^ j := Nat.two_pow_pos j
      have p : 2 ^ j ≤ 2 ^ 63 := Nat.pow_le_pow_right (by decide) j1
      have p3 : (2 : Nat) ^ 63 = 9223372036854775808 := by decide
      have lx : uN x < 2 ^ j := by
        split at pm <;> omega
      have ly : uN y < 2 ^ j := by
        split at pm <;> omega
      have o1 : uN (x ||| y) < 2 ^ j := by
        rw [uN_or]
        exact Nat.or_lt_two_pow lx ly
      have o2 : uN (x ^^^ y) < 2 ^ j := by
        rw [uN_xor]
        exact Nat.xor_lt_two_pow lx ly
      have i1 := uN_int (x ||| y)
      have i2 := uN_int (x ^^^ y)
      have i3 := uN_int (pn_ol (mx_L b f) 63 0)
      rw [if_pos (by omega)] at i1 i2 i3
      exact ⟨iv_mk (by rw [ai_nz]; omega) (by omega), iv_mk (by rw [ai_nz]; omega) (by omega)⟩
    · exact ⟨sd_any, sd_any⟩
theorem sd_neg (h1 : a.toInt ≤ x.toInt) (h2 : x.toInt ≤ b.toInt) : iv (pn_neg a b) (-x) := by
  unfold pn_neg
  split
  · exact sd_any
  · next q1 =>
    have : a.toInt ≠ -9223372036854775808 := fun q => q1 (ai_eq.mpr q)
    have := ai_lo a
    have e1 := ai_neg (x := a) (by omega)
    have e2 := ai_neg (x := b) (by omega)
    have e3 := ai_neg (x := x) (by omega)
    exact iv_mk (by omega) (by omega)
theorem sd_shl {j : Nat} (hj : j < 64) (h1 : a.toInt ≤ x.toInt) (h2 : x.toInt ≤ b.toInt) : iv (pn_shl (nI j) a b e f) (x <<< (Int32.toInt64 (nI j) &&& 63)) := by
  unfold pn_shl
  split
  · split
    · next q1 =>
      split
      · next q2 =>
        have e1 := ai_shl0 hj q1
        have e2 := ai_shl0 hj q2
        have p := ip_pos j
        have m1 := Int.mul_le_mul_of_nonneg_right h1 (show 0 ≤ (2 : Int) ^ j by omega)
        have m2 := Int.mul_le_mul_of_nonneg_right h2 (show 0 ≤ (2 : Int) ^ j by omega)
        have := ai_lo (a <<< (Int32.toInt64 (nI j) &&& 63))
        have := ai_hi (b <<< (Int32.toInt64 (nI j) &&& 63))
        have e3 := ai_shl1 (x := x) hj (by omega) (by omega)
        exact iv_mk (by omega) (by omega)
      · exact sd_any
    · exact sd_any
  · exact sd_any
theorem ai_sarm {j : Nat} (hj : j < 64) (h1 : a.toInt ≤ x.toInt) : (a >>> (Int32.toInt64 (nI j) &&& 63)).toInt ≤ (x >>> (Int32.toInt64 (nI j) &&& 63)).toInt := by
  rw [ai_sar hj, ai_sar hj]
  exact Int.ediv_le_ediv (ip_pos j) h1
theorem sd_shr {j : Nat} {kind of32 : Int32} {t : Int64} (hj : j < 64) (h1 : a.toInt ≤ x.toInt) (h2 : x.toInt ≤ b.toInt) (ht : (kind = 7 → 0 ≤ x.toInt → t = x >>> (Int32.toInt64 (nI j) &&& 63)) ∧ (kind ≠ 7 → of32 = 0 → t = x >>> (Int32.toInt64 (nI j) &&& 63)) ∧ (kind ≠ 7 → of32 ≠ 0 → x.toInt < 2147483648 → t = x >>> (Int32.toInt64 (nI j) &&& 63))) : iv (pn_shr kind of32 (nI j) a b e f) t := by
  have m1 := ai_sarm hj h1
  have m2 := ai_sarm hj h2
  unfold pn_shr
  split
  · split
    · next k7 =>
      split
      · exact sd_any
      · next q =>
        rw [ai_lt, ai_nz] at q
        rw [ht.1 k7 (by omega)]
        exact iv_mk m1 m2
    · next k7 =>
      split
      · next q =>
        rw [ht.2.1 k7 q]
        exact iv_mk m1 m2
      · next q =>
        split
        · exact sd_any
        · next q2 =>
          rw [ai_le] at q2
          have e2 : (2147483648 : Int64).toInt = 2147483648 := rfl
          rw [ht.2.2 k7 q (by omega)]
          exact iv_mk m1 m2
  · exact sd_any
end AK
