section C1
variable {h f : ja_H} {J : jS} {a s m j i o : Nat} {X Y Z v : Int64} {q : Nat → Int32}
theorem i32_p (o8 : o < 2147483648) : uN (Int32.toInt64 (nI o)) = o := by
  have e : (Int32.toInt64 (nI o)).toInt = o := by rw [ai_of32, jn_int o8]
  have := uN_pos (x := Int32.toInt64 (nI o)) (by omega)
  omega
theorem rd_acc {N : Nat} (ho : o < 256) (hN : 256 * N + o < 18446744073709551616) : (lI N <<< (Int32.toInt64 8 &&& 63)) ||| Int32.toInt64 (nI o) = lI (256 * N + o) := by
  apply uN_inj.mp
  have e1 : uN (lI N) = N := uN_of (by omega)
  have e2 : uN (lI (256 * N + o)) = 256 * N + o := uN_of hN
  have e3 : uN (lI N <<< (Int32.toInt64 8 &&& 63)) = uN (lI N) * 2 ^ 8 % 18446744073709551616 := uN_shl (j := 8) (by decide)
  have e4 := Nat.two_pow_add_eq_or_of_lt (i := 8) ho N
  rw [uN_or, e3, i32_p (by omega), e1, e2, Nat.mod_eq_of_lt (by omega), Nat.mul_comm N, ← e4]
theorem t32_n (e : Z.toInt = j) (hj : j < 2147483648) : Int64.toInt32 Z = nI j := by
  rw [← Int32.toInt_inj, Int64.toInt_toInt32, jn_int hj, e]
  rw [Int.bmod_eq_of_le (by omega) (by omega)]
theorem oc_n (x : Int32) : ∃ v, v < 256 ∧ x &&& 255 = nI v := by
  refine ⟨(x.toBitVec.toNat) % 256, Nat.mod_lt _ (by decide), ?_⟩
  apply Int32.toBitVec_inj.mp
  apply BitVec.eq_of_toNat_eq
  rw [Int32.toBitVec_and, BitVec.toNat_and, show (255 : Int32).toBitVec.toNat = 2 ^ 8 - 1 from rfl, Nat.and_two_pow_sub_one_eq_mod]
  show _ = (BitVec.ofNat 32 (x.toBitVec.toNat % 256)).toNat
  rw [BitVec.toNat_ofNat]
  omega
theorem gi_no (b : jv_B h) (hm : m ≤ 256) (e : h.2.1 3 1 = nI m) (y : Y.toInt < 0 ∨ 256 ≤ Y.toInt) : r_Gi_has h 3 Y = some (0, h) := by
  rw [r_Gi_has, r_Gi_has_28, r_Gi_has_29, jb0]
  by_cases q : Y < 0
  · rw [if_pos q]
  · rw [if_neg q, jI_3 b, e, if_pos]
    rw [ai_le, ai_of32, jn_int (by omega)]
    rw [ai_lt, ai_nz] at q
    omega
theorem gi_yes (b : jv_B h) (hm : m ≤ 256) (e : h.2.1 3 1 = nI m) (y0 : 0 ≤ Y.toInt) (y1 : Y.toInt < m) : r_Gi_has h 3 Y = some (1, h) := by
  rw [r_Gi_has, if_neg (by rw [ai_lt, ai_nz]; omega), jI_3 b, e, if_neg (by rw [ai_le, ai_of32, jn_int (by omega)]; omega), if_neg (by rw [ai_le, show (256 : Int64).toInt = 256 from rfl]; omega), r_Gi_has_29, jb1]
theorem k41 : (2199023255552 : Int64).toInt = 2199023255552 ∧ (1099511627776 : Int64).toInt = 1099511627776 ∧ (2199023256064 : Int64).toInt = 2199023256064 := ⟨rfl, rfl, rfl⟩
theorem st_ix (y : X.toInt = 2199023255552 + j) (hj : j < 512) : r_Ma_stackIndex h 19 X = some (nI j, h) := by
  have k := k41
  have e : (X - 2199023255552).toInt = j := by
    rw [ai_sub (by omega) (by omega)]
    omega
  rw [r_Ma_stackIndex, jlE, if_neg (by rw [ai_lt, ai_nz, e]; omega), if_neg (by rw [ai_le, show (512 : Int64).toInt = 512 from rfl, e]; omega), r_Ma_stackIndex_26, t32_n e (by omega)]
theorem ro_st (b : jv_B h) (hm : m ≤ 256) (e : h.2.1 3 1 = nI m) (y : X.toInt = 2199023255552 + j) (hj : j < 512) (e23 : h.2.1 23 j = 1) : r_Ma_readOctet h 19 X 3 = some (h.2.1 22 j &&& 255, h) := by
  have k := k41
  have e1 : (X - 1099511627776).toInt = 1099511627776 + j := by
    rw [ai_sub (by omega) (by omega)]
    omega
  rw [r_Ma_readOctet, jk_3 b, gi_no b hm e (by rw [e1]; omega), jcI, if_pos rfl, jk_19 b, st_ix y hj, jcI, jlE, if_neg (jn_neg (by omega)), jR_19_3 b, jE_23 b (jn_jx hj (by decide)), jn_clamp (by omega), e23, if_neg i10, jR_19_2 b, jE_22 b (jn_jx hj (by decide)), jn_clamp (by omega)]
theorem ro_cx (b : jv_B h) (hm : m ≤ 256) (e : h.2.1 3 1 = nI m) (y : X.toInt = 1099511627776 + j) (hj : j < m) : r_Ma_readOctet h 19 X 3 = some (h.2.1 4 j &&& 255, h) := by
  have k := k41
  have e1 : (X - 1099511627776).toInt = j := by
    rw [ai_sub (by omega) (by omega)]
    omega
  have y1 := gi_yes b hm e (Y := X - 1099511627776) (by rw [e1]; omega) (by rw [e1]; omega)
  rw [r_Ma_readOctet, jk_3 b, y1, jcI, if_neg i10, jk_3 b, r_Gi_octet, jk_3 b, y1, jcI, if_neg i10, jR_3_0 b, t32_n e1 (by omega), jE_4 b (jn_jx (by omega) (by decide)), jn_clamp (by omega), r_Gi_octet_23, jcI]
theorem rd_lp (b : jv_B h) (s8 : s ≤ 8) (q8 : ∀ j, (q j).toNatClampNeg < 256) (O : ∀ i, i < s → (∃ v, v < 256 ∧ q (a + i) = nI v) ∧ r_Ma_readOctet h 19 (X + Int32.toInt64 (nI i)) 3 = some (q (a + i), h)) : ∀ (t i : Nat), i ≤ s → i < t → r_Ma_read_8 t h 19 X 3 (lI (n8 q (a + i) (s - i))) (nI i - 1) = some (lI (n8 q a s), h) := by
  intro t
  induction t with
  | zero => intro i _ ht; omega
  | succ t ih =>
    intro i hi ht
    show q_Ma_read_8 (r_Ma_read_8 t) h 19 X 3 (lI (n8 q (a + i) (s - i))) (nI i - 1) = _
    cases i with
    | zero =>
      rw [q_Ma_read_8, if_pos (show nI 0 - 1 < 0 by decide)]
      rfl
    | succ i =>
      obtain ⟨⟨v, v1, v2⟩, o⟩ := O i (by omega)
      have e1 : nI (i + 1) - 1 = nI i := jn_sub (a := i + 1) (b := 1) (by omega)
      have l := n8_lt q8 (s - (i + 1)) (a + (i + 1))
      have p : (256 : Nat) ^ (s - (i + 1)) ≤ 256 ^ 7 := Nat.pow_le_pow_right (by decide) (by omega)
      have e2 : n8 q (a + i) (s - i) = 256 * n8 q (a + (i + 1)) (s - (i + 1)) + v := by
        rw [show s - i = (s - (i + 1)) + 1 by omega, n8_s, v2, jn_clamp (by omega), show a + i + 1 = a + (i + 1) by omega]
        omega
      rw [e1, q_Ma_read_8, if_neg (jn_neg (by omega)), jk_19 b, o, jcI, jlE, jlE, v2, rd_acc v1 (by omega), ← e2, show nI i + (-1) = nI i - 1 from (Int32.sub_eq_add_neg _ _).symm]
      exact ih i (by omega) (by omega)
theorem rd_all (b : jv_B h) (s0 : 0 < s) (s8 : s ≤ 8) (q8 : ∀ j, (q j).toNatClampNeg < 256) (O : ∀ i, i < s → (∃ v, v < 256 ∧ q (a + i) = nI v) ∧ r_Ma_readOctet h 19 (X + Int32.toInt64 (nI i)) 3 = some (q (a + i), h)) : r_Ma_read h 19 X (nI s) 3 = some (lI (n8 q a s), h) := by
  have e := rd_lp b s8 q8 O 2000 s (Nat.le_refl _) (by omega)
  rw [Nat.sub_self] at e
  rw [r_Ma_read, jlE, jlE, ja_fu_eq]
  exact e
def mw (h f : ja_H) (a i s : Nat) (v : Int64) : Prop := f.1 = h.1 ∧ f.2.2 = h.2.2 ∧ (∀ x y, x ≠ 22 → x ≠ 23 → f.2.1 x y = h.2.1 x y) ∧ (∀ j, f.2.1 22 j &&& 255 = if a + i ≤ j ∧ j < a + s then jo_m v (j - a) else h.2.1 22 j &&& 255) ∧ (∀ j, f.2.1 23 j = if a + i ≤ j ∧ j < a + s then 1 else h.2.1 23 j)
theorem mw_lp (s8 : s ≤ 8) (as : a + s ≤ 512) (y : X.toInt = 2199023255552 + a) : ∀ (t i : Nat) (h : ja_H), jv_B h → i ≤ s → s - i < t → ∃ f, r_Ma_write_3 t h 19 X (nI s) v (nI i) = some f ∧ mw h f a i s v := by
  intro t
  induction t with
  | zero => intro i h _ _ ht; omega
  | succ t ih =>
    intro i h b hi ht
    show ∃ f, q_Ma_write_3 (r_Ma_write_3 t) h 19 X (nI s) v (nI i) = some f ∧ _
    have e1 : (nI s ≤ nI i) ↔ s ≤ i := jn_le (by omega) (by omega)
    by_cases c : s ≤ i
    · refine ⟨h, ?_, rfl, rfl, fun _ _ _ _ => rfl, fun j => ?_, fun j => ?_⟩
      · rw [q_Ma_write_3, if_pos (e1.mpr c)]
      · rw [if_neg (by omega)]
      · rw [if_neg (by omega)]
    · have ex : (X + Int32.toInt64 (nI i)).toInt = 2199023255552 + (a + i : Nat) := by
        have ei : (Int32.toInt64 (nI i)).toInt = i := by rw [ai_of32, jn_int (by omega)]
        rw [ai_add (by omega) (by omega)]
        omega
      have eb : Int8.toInt32 (Int32.toInt8 (Int64.toInt32 (UInt64.toInt64 (Int64.toUInt64 v >>> (Int64.toUInt64 (Int32.toInt64 ((8 : Int32) * nI i)) &&& Int64.toUInt64 63))))) = jo_b v i := rfl
      have b1 : jv_B (ja_sI h 22 (a + i) (vp_nar .byte (jo_b v i))) := b
      have b2 : jv_B (ja_sI (ja_sI h 22 (a + i) (vp_nar .byte (jo_b v i))) 23 (a + i) 1) := b
      obtain ⟨f, f1, f2, f3, f4, f5, f6⟩ := ih (i + 1) _ b2 (by omega) (by omega)
      refine ⟨f, ?_, f2, f3, fun x z n2 n3 => ?_, fun j => ?_, fun j => ?_⟩
      · rw [q_Ma_write_3, if_neg (fun z => c (e1.mp z)), jk_19 b, st_ix ex (by omega), jcI, jlE, if_neg (jn_neg (by omega)), jR_19_2 b, jW_22 b (jn_jx (by omega) (by decide)), jn_clamp (by omega), eb, jR_19_3 b1, jW_23 b1 (jn_jx (by omega) (by decide)), jn_clamp (by omega), bz1, r_Ma_write_58, jlE, lq_add1]
        exact f1
      · rw [f4 x z n2 n3, ja_rI, if_neg (fun z => n3 z.1), ja_rI, if_neg (fun z => n2 z.1)]
      · rw [f5 j, ja_rI, if_neg (c := 22 = 23 ∧ j = a + i) (by omega), ja_rI]
        by_cases z : j = a + i
        · rw [if_neg (by omega), if_pos ⟨rfl, z⟩, if_pos (by omega)]
          rw [show vp_nar .byte (jo_b v i) = jo_b v i from jo_nar _, jo_bm, z, show a + i - a = i by omega]
        · rw [if_neg (c := 22 = 22 ∧ j = a + i) (fun w => z w.2)]
          by_cases z2 : a + (i + 1) ≤ j ∧ j < a + s
          · rw [if_pos z2, if_pos (by omega)]
          · rw [if_neg z2, if_neg (by omega)]
      · rw [f6 j, ja_rI, ja_rI]
        by_cases z : j = a + i
        · rw [if_neg (by omega), if_pos ⟨rfl, z⟩, if_pos (by omega)]
        · rw [if_neg (c := 23 = 23 ∧ j = a + i) (fun w => z w.2), if_neg (c := 23 = 22 ∧ j = a + i) (by omega)]
          by_cases z2 : a + (i + 1) ≤ j ∧ j < a + s
          · rw [if_pos z2, if_pos (by omega)]
          · rw [if_neg z2, if_neg (by omega)]
theorem mw_all (b : jv_B h) (s8 : s ≤ 8) (as : a + s ≤ 512) (y : X.toInt = 2199023255552 + a) : ∃ f, r_Ma_write h 19 X (nI s) v = some f ∧ mw h f a 0 s v := by
  rw [r_Ma_write, jlE, ja_fu_eq]
  exact mw_lp s8 as y 2000 0 h b (by omega) (by omega)
end C1
