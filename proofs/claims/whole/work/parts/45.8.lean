section S1
variable {h : ja_H} {op rel : Int32} {a b x y K : Int64} {v : pv_T} {g : Nat → Int32}
def ub (x : Int64) : Int64 := x ^^^ -9223372036854775808
def bl (a b : Int64) : Int32 := if ub b ≤ ub a then 0 else 1
def ah (rel : Int32) (a b : Int64) : Int32 := if rel = 1 then (if a = b then 1 else 0) else if rel = 2 then bl b a else if rel = 3 then (if bl a b = 0 then 1 else 0) else if rel = 4 then (if a &&& b = 0 then 0 else 1) else if rel = 5 then (if a = b then 0 else 1) else if rel = 6 then (if a ≤ b then 0 else 1) else if rel = 7 then (if a < b then 0 else 1) else if rel = 8 then (if b < a then 0 else 1) else if rel = 9 then (if b < a then 0 else 1) else if rel = 10 then bl a b else if rel = 11 then (if bl b a = 0 then 1 else 0) else if rel = 12 then (if b ≤ a then 0 else 1) else (if b < a then 0 else 1)
theorem a_below : r_Ar_isBelow h a b = some (bl a b, h) := by
  rw [r_Ar_isBelow, r_Ar_isBelow_19, r_Ar_isBelow_19, jb0, jb1]
  unfold bl ub
  rw [pw_ite]
theorem bl_01 (a b : Int64) : bl a b = 0 ∨ bl a b = 1 := by
  unfold bl
  split
  · exact Or.inl rfl
  · exact Or.inr rfl
theorem jb_bl : jb (bl a b) (some (bl a b, h)) = some (bl a b, h) := if_pos (bl_01 a b)
theorem a_rel : r_Ar_isRelated h rel a b = some (ah rel a b, h) := by
  simp only [r_Ar_isRelated, r_Ar_isRelated_75, r_Ar_isRelated_87, r_Ar_isRelated_101, r_Ar_isRelated_121, r_Ar_isRelated_141, r_Ar_isRelated_153, r_Ar_isRelated_165, r_Ar_isRelated_177, r_Ar_isRelated_178, r_Ar_isRelated_189, a_below, jb_bl, jcI, jb0, jb1, jsw, ah, pw_ite]
theorem ah_01 (rel : Int32) (a b : Int64) : ah rel a b = 0 ∨ ah rel a b = 1 := by
  have t : ∀ (c : Prop) [Decidable c] (u v : Int32), (u = 0 ∨ u = 1) → (v = 0 ∨ v = 1) → ((if c then u else v) = 0 ∨ (if c then u else v) = 1) := fun c _ u v h1 h2 => by
    split
    · exact h1
    · exact h2
  have z : (0 : Int32) = 0 ∨ (0 : Int32) = 1 := Or.inl rfl
  have o : (1 : Int32) = 0 ∨ (1 : Int32) = 1 := Or.inr rfl
  unfold ah
  exact t _ _ _ (t _ _ _ o z) (t _ _ _ (bl_01 _ _) (t _ _ _ (t _ _ _ o z) (t _ _ _ (t _ _ _ z o) (t _ _ _ (t _ _ _ z o) (t _ _ _ (t _ _ _ z o) (t _ _ _ (t _ _ _ z o) (t _ _ _ (t _ _ _ z o) (t _ _ _ (t _ _ _ z o) (t _ _ _ (bl_01 _ _) (t _ _ _ (t _ _ _ o z) (t _ _ _ (t _ _ _ z o) (t _ _ _ z o))))))))))))
def a32 (op : Int32) (x : Int64) : Int64 := if op &&& 7 = 6 then Int32.toInt64 (Int64.toInt32 x) else x
theorem a_holds : r_Ar_holds h op a b = some (ah (op >>> (4 &&& 31)) (a32 op a) (a32 op b), h) := by
  have e43 : ∀ u v r, r_Ar_holds_43 h u v r = some (ah r v u, h) := fun u v r => by
    rw [r_Ar_holds_43, a_rel, jcI]
    exact if_pos (ah_01 r v u)
  rw [r_Ar_holds]
  unfold a32
  by_cases z : op &&& 7 = 6
  · rw [if_pos z, if_pos z, if_pos z, r_Ar_holds_14, jlE, if_neg i10, r_Ar_holds_31, if_neg i10, e43]
  · rw [if_neg z, if_neg z, if_neg z, r_Ar_holds_14, jlE, if_pos rfl, r_Ar_holds_31, if_pos rfl, e43]
theorem xb_1 {r : Nat} (hr : r < 2 ^ 63) : r ^^^ 2 ^ 63 = 2 ^ 63 ||| r := by
  apply Nat.eq_of_testBit_eq
  intro i
  rw [Nat.testBit_xor, Nat.testBit_or, Nat.testBit_two_pow]
  by_cases c : 63 = i
  · subst c
    rw [Nat.testBit_lt_two_pow hr, decide_eq_true rfl]
    rfl
  · rw [decide_eq_false c, Bool.xor_false, Bool.false_or]
theorem xb_2 {r : Nat} (hr : r < 2 ^ 63) : (2 ^ 63 ||| r) ^^^ 2 ^ 63 = r := by
  apply Nat.eq_of_testBit_eq
  intro i
  rw [Nat.testBit_xor, Nat.testBit_or, Nat.testBit_two_pow]
  by_cases c : 63 = i
  · subst c
    rw [Nat.testBit_lt_two_pow hr, decide_eq_true rfl]
    rfl
  · rw [decide_eq_false c, Bool.xor_false, Bool.false_or]
theorem ub_i : (ub x).toInt = (uN x : Int) - 9223372036854775808 := by
  have m : uN (-9223372036854775808 : Int64) = 2 ^ 63 := rfl
  have l := uN_lt x
  have e : uN (ub x) = uN x ^^^ 2 ^ 63 := by
    unfold ub
    rw [uN_xor, m]
  have i := uN_int (ub x)
  have k : uN x ^^^ 2 ^ 63 = if uN x < 9223372036854775808 then uN x + 9223372036854775808 else uN x - 9223372036854775808 := by
    have p3 : (2 : Nat) ^ 63 = 9223372036854775808 := by decide
    by_cases c : uN x < 9223372036854775808
    · rw [if_pos c, xb_1 (by omega)]
      have := Nat.two_pow_add_eq_or_of_lt (i := 63) (b := uN x) (by omega) 1
      rw [Nat.mul_one] at this
      rw [← this]
      omega
    · rw [if_neg c]
      have q := xb_2 (r := uN x - 9223372036854775808) (by omega)
      have := Nat.two_pow_add_eq_or_of_lt (i := 63) (b := uN x - 9223372036854775808) (by omega) 1
      rw [Nat.mul_one] at this
      rw [← this, p3, show 9223372036854775808 + (uN x - 9223372036854775808) = uN x by omega] at q
      rw [p3]
      exact q
  rw [e, k] at i
  rw [i]
  split at i <;> split <;> omega
theorem ub_le : ub x ≤ ub y ↔ uN x ≤ uN y := by
  rw [ai_le, ub_i, ub_i]
  omega
theorem ub_lt : ub x < ub y ↔ uN x < uN y := by
  rw [ai_lt, ub_i, ub_i]
  omega
theorem bl_0 : bl a b = 0 ↔ uN b ≤ uN a := by
  unfold bl
  rw [← ub_le]
  by_cases c : ub b ≤ ub a
  · rw [if_pos c]
    exact ⟨fun _ => c, fun _ => rfl⟩
  · rw [if_neg c]
    exact ⟨fun q => absurd q i10, fun q => absurd q c⟩
theorem uN_32 : uN (Int32.toInt64 (Int64.toInt32 x)) = if uN x % 4294967296 < 2147483648 then uN x % 4294967296 else uN x % 4294967296 + 18446744069414584320 := by
  have p := uN_int (Int32.toInt64 (Int64.toInt32 x))
  have q := uN_int x
  rw [ai_of32, Int64.toInt_toInt32] at p
  obtain ⟨m, hm⟩ := bm32 x.toInt
  have b1 : -2147483648 ≤ x.toInt.bmod (2 ^ 32) := by
    have := Int.le_bmod (x := x.toInt) (m := 2 ^ 32) (by decide)
    have e : -((2 ^ 32 : Nat) / 2 : Int) = -2147483648 := by decide
    omega
  have b2 : x.toInt.bmod (2 ^ 32) < 2147483648 := by
    have := Int.bmod_lt (x := x.toInt) (m := 2 ^ 32) (by decide)
    have e : (((2 ^ 32 : Nat) : Int) + 1) / 2 = 2147483648 := by decide
    omega
  have l := uN_lt x
  have l2 := uN_lt (Int32.toInt64 (Int64.toInt32 x))
  rw [hm] at p b1 b2
  split at p <;> split at q <;> split <;> omega
theorem uN_m : uN (x &&& 4294967295) = uN x % 4294967296 := uN_low
theorem le_32 : uN (x &&& 4294967295) ≤ uN (y &&& 4294967295) ↔ uN (Int32.toInt64 (Int64.toInt32 x)) ≤ uN (Int32.toInt64 (Int64.toInt32 y)) := by
  rw [uN_m, uN_m, uN_32, uN_32]
  have l1 := Nat.mod_lt (uN x) (show 0 < 4294967296 by decide)
  have l2 := Nat.mod_lt (uN y) (show 0 < 4294967296 by decide)
  split <;> split <;> omega
end S1
