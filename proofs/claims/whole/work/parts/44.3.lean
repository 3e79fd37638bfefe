section MM
variable {h : ja_H} {k d : Nat} {a a' c e f : Int64} {op : Int32}
theorem mo_t32 {z : Int64} {m : Int32} : Int64.toInt32 (z &&& Int32.toInt64 m) = Int64.toInt32 z &&& m := by
  rw [Int64.toInt32_and, Int32.toInt32_toInt64]
def mk_k (z : Int32) : Prop := z = 0 ∨ z = 1 ∨ z = 2 ∨ z = 3 ∨ z = 4 ∨ z = 5 ∨ z = 6 ∨ z = 7 ∨ z = 8 ∨ z = 9 ∨ z = 10 ∨ z = 11 ∨ z = 12
theorem mo_161 {y8 z0 : Int32} (kk : mk_k (op >>> (4 &&& 31))) (h12 : y8 = 0 ↔ op &&& 7 = 4) : r_Mo_machine_161 h (op >>> (4 &&& 31)) y8 a c z0 c = some (if y8 = 0 then ar_tk op a c (Int64.toInt32 c &&& z0) &&& 4294967295 else ar_tk op a c (Int64.toInt32 c &&& z0), h) := by
  have q0 : ar_quo a 0 = 0 := if_pos rfl
  have q1 : a - (0 : Int64) * 0 = a := by
    apply uN_inj.mp
    have l := uN_lt a
    rw [uN_sub, uN_mul, show uN (0 : Int64) = 0 from rfl]
    omega
  rcases kk with e | e | e | e | e | e | e | e | e | e | e | e | e
  · simp (decide := true) only [r_Mo_machine_161, r_Mo_machine_396, r_Mo_machine_412, jlE, jsw, mo_t32, ar_tk, e, reduceIte, pw_itL]
  · simp (decide := true) only [r_Mo_machine_161, r_Mo_machine_396, r_Mo_machine_412, jlE, jsw, mo_t32, ar_tk, e, reduceIte, pw_itL]
  · simp (decide := true) only [r_Mo_machine_161, r_Mo_machine_396, r_Mo_machine_412, jlE, jsw, mo_t32, ar_tk, e, reduceIte, pw_itL]
  · by_cases c0 : c = 0
    · subst c0
      simp (decide := true) only [r_Mo_machine_161, r_Mo_machine_396, r_Mo_machine_412, jlE, jsw, mo_t32, ar_tk, r_Mo_machine_280, e, q0, reduceIte, pw_itL]
    · simp (decide := true) only [r_Mo_machine_161, r_Mo_machine_396, r_Mo_machine_412, jlE, jsw, mo_t32, ar_tk, r_Mo_machine_280, e, c0, mo_du c0, jcL, reduceIte, pw_itL]
  · simp (decide := true) only [r_Mo_machine_161, r_Mo_machine_396, r_Mo_machine_412, jlE, jsw, mo_t32, ar_tk, e, reduceIte, pw_itL]
  · simp (decide := true) only [r_Mo_machine_161, r_Mo_machine_396, r_Mo_machine_412, jlE, jsw, mo_t32, ar_tk, e, reduceIte, pw_itL]
  · simp (decide := true) only [r_Mo_machine_161, r_Mo_machine_396, r_Mo_machine_412, jlE, jsw, mo_t32, ar_tk, e, reduceIte, pw_itL]
  · simp (decide := true) only [r_Mo_machine_161, r_Mo_machine_396, r_Mo_machine_412, jlE, jsw, mo_t32, ar_tk, e, reduceIte, pw_itL]
  · simp (decide := true) only [r_Mo_machine_161, r_Mo_machine_396, r_Mo_machine_412, jlE, jsw, mo_t32, ar_tk, e, reduceIte, pw_itL]
  · by_cases c0 : c = 0
    · subst c0
      simp (decide := true) only [r_Mo_machine_161, r_Mo_machine_396, r_Mo_machine_412, jlE, jsw, mo_t32, ar_tk, r_Mo_machine_352, e, q0, q1, reduceIte, pw_itL]
    · simp (decide := true) only [r_Mo_machine_161, r_Mo_machine_396, r_Mo_machine_412, jlE, jsw, mo_t32, ar_tk, r_Mo_machine_352, e, c0, mo_ru c0, jcL, reduceIte, pw_itL]
  · simp (decide := true) only [r_Mo_machine_161, r_Mo_machine_396, r_Mo_machine_412, jlE, jsw, mo_t32, ar_tk, e, reduceIte, pw_itL]
  · simp (decide := true) only [r_Mo_machine_161, r_Mo_machine_396, r_Mo_machine_412, jlE, jsw, mo_t32, ar_tk, e, reduceIte, pw_itL]
  · by_cases y : y8 = 0
    · have h4 := h12.mp y
      simp (decide := true) only [r_Mo_machine_161, r_Mo_machine_396, r_Mo_machine_412, jlE, jsw, mo_t32, ar_tk, r_Mo_machine_394, e, y, h4, reduceIte]
    · have h4 : ¬ op &&& 7 = 4 := fun z => y (h12.mpr z)
      simp (decide := true) only [r_Mo_machine_161, r_Mo_machine_396, r_Mo_machine_412, jlE, jsw, mo_t32, ar_tk, r_Mo_machine_394, e, y, h4, reduceIte]
theorem mo_111 {z0 : Int32} (kk : mk_k (op >>> (4 &&& 31))) (k13 : ¬ op >>> (4 &&& 31) = 13) (hz : z0 = 0 ∧ op &&& 7 = 4 ∨ z0 = 1 ∧ ¬ op &&& 7 = 4) : r_Mo_machine_111 h a c (op >>> (4 &&& 31)) z0 = some (ar_reck op a c, h) := by
  rcases hz with ⟨e0, e4⟩ | ⟨e0, e4⟩
  · subst e0
    simp only [r_Mo_machine_111, r_Mo_machine_127, r_Mo_machine_145, jlE, if_true, mo_161 (y8 := 0) kk ⟨fun _ => e4, fun _ => rfl⟩]
    simp (decide := true) only [ar_reck, ar_32, ar_m, ar_sh, e4, k13, reduceIte]
  · subst e0
    simp only [r_Mo_machine_111, r_Mo_machine_127, r_Mo_machine_145, jlE, if_neg i10, mo_161 (y8 := 1) kk ⟨fun q => absurd q i10, fun q => absurd q e4⟩]
    simp (decide := true) only [ar_reck, ar_32, ar_m, ar_sh, e4, reduceIte]
def sl (x : Int64) (j : Nat) : Int64 := x <<< (Int32.toInt64 (nI j) &&& 63)
def pt (x : Int64) (i : Nat) : Int64 := (UInt64.toInt64 (Int64.toUInt64 x >>> (Int64.toUInt64 (Int32.toInt64 (nI (8 * i))) &&& Int64.toUInt64 63))) &&& 255
theorem sl_b {x : Int64} {j : Nat} (hj : j < 64) : (sl x j).toBitVec = x.toBitVec <<< j := by
  unfold sl
  rw [Int64.toBitVec_shiftLeft, as_sh j hj, BitVec.shiftLeft_eq', ofN64 hj]
theorem sl_or {x y : Int64} {j : Nat} (hj : j < 64) : sl (x ||| y) j = sl x j ||| sl y j := by
  apply Int64.toBitVec_inj.mp
  rw [sl_b hj, Int64.toBitVec_or, Int64.toBitVec_or, sl_b hj, sl_b hj, BitVec.shiftLeft_or_distrib]
theorem sl_sl {x : Int64} {i j : Nat} (hj : i + j < 64) : sl (sl x i) j = sl x (i + j) := by
  apply Int64.toBitVec_inj.mp
  rw [sl_b (by omega), sl_b (by omega), sl_b hj, BitVec.shiftLeft_add]
theorem sl_0 {x : Int64} : sl x 0 = x := by
  apply Int64.toBitVec_inj.mp
  rw [sl_b (by decide), BitVec.shiftLeft_zero]
theorem or_0 {x : Int64} : 0 ||| x = x := by
  apply Int64.toBitVec_inj.mp
  rw [Int64.toBitVec_or, show (0 : Int64).toBitVec = 0#64 by decide, BitVec.zero_or]
theorem sl_z {j : Nat} (hj : j < 64) : sl 0 j = 0 := by
  apply Int64.toBitVec_inj.mp
  rw [sl_b hj, show (0 : Int64).toBitVec = 0#64 by decide, BitVec.zero_shiftLeft]
theorem ar_tl_s {bits y : Int64} {t i : Nat} (q : ¬ bits ≤ Int32.toInt64 (nI (8 * i))) : ar_tl a bits (t + 1) y (8 * i) = ar_tl a bits t (sl y 8 ||| pt a i) (8 * (i + 1)) := if_neg q
theorem ar_tl_e {bits y : Int64} {t i : Nat} (q : bits ≤ Int32.toInt64 (nI (8 * i))) : ar_tl a bits (t + 1) y (8 * i) = y := if_pos q
def mtl (a : Int64) (n : Nat) (b : Prop) [Decidable b] : Nat → Int64 → Nat → Int64
  | 0, y, _ => y
  | t + 1, y, i => mtl a n b t (y ||| sl (pt a i) (if b then 8 * i else 8 * (n - 1 - i))) (i + 1)
theorem jn_mul (i j : Nat) : nI i * nI j = nI (i * j) := by
  apply Int32.toBitVec_inj.mp
  rw [Int32.toBitVec_mul]
  exact (BitVec.ofNat_mul_ofNat ..)
theorem mo_36 {n : Nat} (n8 : n ≤ 8) : ∀ (t i : Nat) (y : Int64), i ≤ n → n - i < t → r_Mo_machine_36 t h a op (nI n) y (nI i) = some (mtl a n (op &&& 8 = 0) (n - i) y i, h) := by
  intro t
  induction t with
  | zero => intro i y _ ht; omega
  | succ t ih =>
    intro i y hi ht
    show q_Mo_machine_36 (r_Mo_machine_36 t) h a op (nI n) y (nI i) = _
    have e1 : (nI n ≤ nI i) = (n ≤ i) := propext (jn_le (by omega) (by omega))
    have e2 : (8 : Int32) * nI i = nI (8 * i) := jn_mul 8 i
    simp only [q_Mo_machine_36, r_Mo_machine_82, jlE, e1]
    by_cases q : n ≤ i
    · rw [if_pos q, show n - i = 0 by omega]
      rfl
    · have e3 : (8 : Int32) * (nI n - 1 - nI i) = nI (8 * (n - 1 - i)) := by
        rw [show (1 : Int32) = nI 1 from rfl, jn_sub (by omega), jn_sub (by omega)]
        exact jn_mul 8 _
      rw [if_neg q, show n - i = n - (i + 1) + 1 by omega, lq_ad1]
      simp only [mtl]
      by_cases z : op &&& 8 = 0
      · rw [if_pos z, if_pos z, ih (i + 1) _ (by omega) (by omega), e2]
        rfl
      · rw [if_neg z, if_neg z, ih (i + 1) _ (by omega) (by omega), e2, e3]
        rfl
theorem uN_pt {i : Nat} (hi : i < 8) : uN (pt a i) = uN a / 2 ^ (8 * i) % 256 := by
  unfold pt
  rw [uN_and, uN_shr (by omega), show uN (255 : Int64) = 2 ^ 8 - 1 from rfl, Nat.and_two_pow_sub_one_eq_mod]
theorem mtl_low {n : Nat} {b : Prop} [Decidable b] (hb : b) : ∀ (t i : Nat) (y : Int64), i + t ≤ 8 → uN y = uN a % 2 ^ (8 * i) → uN (mtl a n b t y i) = uN a % 2 ^ (8 * (i + t)) := by
  intro t
  induction t with
  | zero => intro i y _ hy; exact hy
  | succ t ih =>
    intro i y hi hy
    show uN (mtl a n b t (y ||| sl (pt a i) (if b then 8 * i else 8 * (n - 1 - i))) (i + 1)) = _
    rw [if_pos hb, show i + (t + 1) = i + 1 + t by omega]
    apply ih (i + 1) _ (by omega)
    have lt : uN y < 2 ^ (8 * i) := by
      rw [hy]
      exact Nat.mod_lt _ (Nat.two_pow_pos _)
    have lp : uN (pt a i) < 256 := by
      rw [uN_pt (by omega)]
      exact Nat.mod_lt _ (by decide)
    have pw : (2 : Nat) ^ (8 * (i + 1)) = 2 ^ (8 * i) * 256 := by
      rw [show 8 * (i + 1) = 8 * i + 8 by omega, Nat.pow_add]
    have le : (2 : Nat) ^ (8 * (i + 1)) ≤ 18446744073709551616 := by
      rw [show 18446744073709551616 = 2 ^ 64 from rfl]
      exact Nat.pow_le_pow_right (by decide) (by omega)
    have hs : uN (sl (pt a i) (8 * i)) = 2 ^ (8 * i) * uN (pt a i) := by
      unfold sl
      rw [uN_shl (by omega), Nat.mul_comm]
      apply Nat.mod_eq_of_lt
      have : 2 ^ (8 * i) * uN (pt a i) < 2 ^ (8 * i) * 256 := Nat.mul_lt_mul_of_pos_left lp (Nat.two_pow_pos _)
      omega
    rw [uN_or, hs, Nat.or_comm, ← Nat.two_pow_add_eq_or_of_lt lt, uN_pt (by omega), hy, pw, Nat.mod_mul, Nat.add_comm]
theorem mo_m13 {imm : Int32} (im : imm = 16 ∨ imm = 32 ∨ imm = 64) : r_Mo_machine_36 ja_fu h a op (imm / 8) 0 0 = some (if op &&& 8 = 0 then ar_low a imm.toInt64 else ar_turned a imm.toInt64, h) := by
  have key : ∃ n, (n = 2 ∨ n = 4 ∨ n = 8) ∧ imm / 8 = nI n ∧ (op &&& 8 = 0 → mtl a n (op &&& 8 = 0) n 0 0 = ar_low a imm.toInt64) ∧ (¬ op &&& 8 = 0 → mtl a n (op &&& 8 = 0) n 0 0 = ar_turned a imm.toInt64) := by
    have low : ∀ n : Nat, n ≤ 8 → op &&& 8 = 0 → uN (mtl a n (op &&& 8 = 0) n 0 0) = uN a % 2 ^ (8 * n) := fun n n8 hb => by
      have := mtl_low (a := a) (n := n) hb n 0 0 (by omega) (by rw [show 8 * 0 = 0 from rfl, Nat.pow_zero, Nat.mod_one]; rfl)
      rw [Nat.zero_add] at this
      exact this
    rcases im with e | e | e
    · subst e
      refine ⟨2, Or.inl rfl, by decide, fun hb => ?_, fun hb => ?_⟩
      · apply uN_inj.mp
        rw [low 2 (by decide) hb]
        show _ = uN (if (16 : Int32).toInt64 = 64 then a else a &&& (((1 : Int64) <<< (Int32.toInt64 (Int64.toInt32 (16 : Int32).toInt64) &&& 63)) - 1))
        rw [if_neg (by decide), show (((1 : Int64) <<< (Int32.toInt64 (Int64.toInt32 (16 : Int32).toInt64) &&& 63)) - 1) = 65535 by decide, uN_and, show uN (65535 : Int64) = 2 ^ 16 - 1 from rfl, Nat.and_two_pow_sub_one_eq_mod]
      · show _ = ar_tl a (16 : Int32).toInt64 8 0 (8 * 0)
        rw [ar_tl_s (by decide), ar_tl_s (by decide), ar_tl_e (by decide)]
        simp only [mtl, if_neg hb]
        simp (decide := true) only [sl_or, sl_sl, sl_0, sl_z, or_0, Nat.reduceAdd, Nat.reduceMul, Nat.reduceSub]
    · subst e
      refine ⟨4, Or.inr (Or.inl rfl), by decide, fun hb => ?_, fun hb => ?_⟩
      · apply uN_inj.mp
        rw [low 4 (by decide) hb]
        show _ = uN (if (32 : Int32).toInt64 = 64 then a else a &&& (((1 : Int64) <<< (Int32.toInt64 (Int64.toInt32 (32 : Int32).toInt64) &&& 63)) - 1))
        rw [if_neg (by decide), show (((1 : Int64) <<< (Int32.toInt64 (Int64.toInt32 (32 : Int32).toInt64) &&& 63)) - 1) = 4294967295 by decide, uN_and, show uN (4294967295 : Int64) = 2 ^ 32 - 1 from rfl, Nat.and_two_pow_sub_one_eq_mod]
      · show _ = ar_tl a (32 : Int32).toInt64 8 0 (8 * 0)
        rw [ar_tl_s (by decide), ar_tl_s (by decide), ar_tl_s (by decide), ar_tl_s (by decide), ar_tl_e (by decide)]
        simp only [mtl, if_neg hb]
        simp (decide := true) only [sl_or, sl_sl, sl_0, sl_z, or_0, Nat.reduceAdd, Nat.reduceMul, Nat.reduceSub]
    · subst e
      refine ⟨8, Or.inr (Or.inr rfl), by decide, fun hb => ?_, fun hb => ?_⟩
      · apply uN_inj.mp
        rw [low 8 (by decide) hb]
        show _ = uN (if (64 : Int32).toInt64 = 64 then a else _)
        rw [if_pos (by decide)]
        exact Nat.mod_eq_of_lt (uN_lt a)
      · show _ = ar_tl a (64 : Int32).toInt64 8 0 (8 * 0)
        rw [ar_tl_s (by decide), ar_tl_s (by decide), ar_tl_s (by decide), ar_tl_s (by decide), ar_tl_s (by decide), ar_tl_s (by decide), ar_tl_s (by decide), ar_tl_s (by decide)]
        simp only [mtl, ar_tl, if_neg hb]
        simp (decide := true) only [sl_or, sl_sl, sl_0, sl_z, or_0, Nat.reduceAdd, Nat.reduceMul, Nat.reduceSub]
  obtain ⟨n, n1, n2, n3, n4⟩ := key
  rw [n2, show r_Mo_machine_36 ja_fu h a op (nI n) 0 0 = _ from mo_36 (h := h) (a := a) (op := op) (n := n) (by omega) ja_fu 0 0 (by omega) (by rw [ja_fu_eq]; omega), Nat.sub_zero]
  by_cases hb : op &&& 8 = 0
  · rw [if_pos hb, n3 hb]
  · rw [if_neg hb, n4 hb]
theorem mo_mach (b : jv_B h) (hk : k < 1024) (hop : op = jw_op (h.2.2.1 26 k)) (h47 : op &&& 7 = 4 ∨ op &&& 7 = 7) (kk : mk_k (op >>> (4 &&& 31)) ∨ (op >>> (4 &&& 31) = 13 ∧ op &&& 7 = 4 ∧ c = (jw_imm (h.2.2.1 26 k)).toInt64 ∧ (jw_imm (h.2.2.1 26 k) = 16 ∨ jw_imm (h.2.2.1 26 k) = 32 ∨ jw_imm (h.2.2.1 26 k) = 64))) : r_Mo_machine h 25 (nI k) a c = some (ar_reck op a c, h) := by
  simp only [r_Mo_machine, jk_25 b, mo_op b hk, jcI, jlE, ← hop, mo_imm b hk, jz_I, if_neg (show ¬ (8 : Int32) = 0 by decide)]
  rcases kk with kk | ⟨k13, h4, hc, him⟩
  · have k13 : ¬ op >>> (4 &&& 31) = 13 := by
      rcases kk with e | e | e | e | e | e | e | e | e | e | e | e | e <;> rw [e] <;> decide
    rw [if_neg k13]
    rcases h47 with q | q
    · rw [if_neg (by rw [q]; decide)]
      exact mo_111 kk k13 (Or.inl ⟨rfl, q⟩)
    · rw [if_pos q]
      exact mo_111 kk k13 (Or.inr ⟨rfl, by rw [q]; decide⟩)
  · rw [if_pos k13, mo_m13 him, hc]
    simp (decide := true) only [ar_reck, ar_32, ar_m, ar_tk, h4, k13, reduceIte]
end MM
