section SO
variable {x y a b e f c : Int64} {g : Nat → Int32} {l r : pv_T}
theorem ar_tl_b {d bits : Int64} : ∀ (t j : Nat) (y : Int64) (i : Nat), i + t ≤ 8 → uN y < 2 ^ (8 * i) → (∀ k, i ≤ k → k < i + t → (bits ≤ Int32.toInt64 (nI (8 * k)) ↔ j ≤ k)) → i ≤ j → j ≤ i + t → uN (ar_tl d bits t y (8 * i)) < 2 ^ (8 * j) := by
  intro t
  induction t with
  | zero =>
    intro j y i _ hy _ h1 h2
    have : i = j := by omega
    subst this
    exact hy
  | succ t ih =>
    intro j y i hi hy hb h1 h2
    show uN (if bits ≤ Int32.toInt64 (nI (8 * i)) then y else ar_tl d bits t (y <<< (Int32.toInt64 (8 : Int32) &&& 63) ||| ((UInt64.toInt64 (Int64.toUInt64 d >>> (Int64.toUInt64 (Int32.toInt64 (nI (8 * i))) &&& Int64.toUInt64 63))) &&& 255)) (8 * i + 8)) < _
    by_cases c : bits ≤ Int32.toInt64 (nI (8 * i))
    · rw [if_pos c]
      have := (hb i (by omega) (by omega)).mp c
      have : i = j := by omega
      subst this
      exact hy
    · rw [if_neg c]
      have c' : ¬ j ≤ i := fun q => c ((hb i (by omega) (by omega)).mpr q)
      have e := uN_shl (x := y) (j := 8) (by decide)
      have e' : uN (y <<< (Int32.toInt64 (8 : Int32) &&& 63)) = uN y * 2 ^ 8 % 18446744073709551616 := e
      have p : 2 ^ (8 * (i + 1)) ≤ 2 ^ 64 := Nat.pow_le_pow_right (by decide) (by omega)
      have p1 : 2 ^ (8 * (i + 1)) = 2 ^ (8 * i) * 256 := by
        rw [show 8 * (i + 1) = 8 * i + 8 by omega, Nat.pow_add]
      have p3 : (2 : Nat) ^ 64 = 18446744073709551616 := by decide
      have hy2 : uN (y <<< (Int32.toInt64 (8 : Int32) &&& 63) ||| ((UInt64.toInt64 (Int64.toUInt64 d >>> (Int64.toUInt64 (Int32.toInt64 (nI (8 * i))) &&& Int64.toUInt64 63))) &&& 255)) < 2 ^ (8 * (i + 1)) := by
        rw [uN_or, e', uN_and]
        apply Nat.or_lt_two_pow
        · rw [Nat.mod_eq_of_lt (by omega)]
          omega
        · refine Nat.lt_of_le_of_lt Nat.and_le_right ?_
          show 255 < _
          have : 0 < 2 ^ (8 * i) := Nat.two_pow_pos _
          omega
      exact ih j _ (i + 1) (by omega) hy2 (fun k k1 k2 => hb k (by omega) (by omega)) (by omega) (by omega)
theorem ar_k16 : ∀ k : Fin 8, ((16 : Int64) ≤ Int32.toInt64 (nI (8 * k.val)) ↔ 2 ≤ k.val) := by decide
theorem ar_k32 : ∀ k : Fin 8, ((32 : Int64) ≤ Int32.toInt64 (nI (8 * k.val)) ↔ 4 ≤ k.val) := by decide
theorem ar_t16 (d : Int64) : uN (ar_turned d 16) < 65536 := ar_tl_b (d := d) (bits := 16) 8 2 0 0 (by omega) (by decide) (fun k _ q => ar_k16 ⟨k, by omega⟩) (by omega) (by omega)
theorem ar_t32 (d : Int64) : uN (ar_turned d 32) < 4294967296 := ar_tl_b (d := d) (bits := 32) 8 4 0 0 (by omega) (by decide) (fun k _ q => ar_k32 ⟨k, by omega⟩) (by omega) (by omega)
theorem ar_l16 (d : Int64) : uN (ar_low d 16) < 65536 := by
  unfold ar_low
  rw [if_neg (by decide), uN_and]
  exact Nat.lt_of_le_of_lt Nat.and_le_right (by decide)
theorem ar_l32 (d : Int64) : uN (ar_low d 32) < 4294967296 := by
  unfold ar_low
  rw [if_neg (by decide), uN_and]
  exact Nat.lt_of_le_of_lt Nat.and_le_right (by decide)
theorem sd_turn {imm : Int32} {t : Int64} (ht : imm = 16 → uN t < 65536) (ht2 : imm = 32 → uN t < 4294967296) : iv (pn_turn imm) t := by
  unfold pn_turn
  have i := uN_int t
  split
  · next q =>
    have := ht q
    rw [if_pos (by omega)] at i
    subst q
    refine iv_mk (by rw [ai_nz]; omega) ?_
    have e1 : (((1 : Int64) <<< (Int32.toInt64 16 &&& 63)) - 1).toInt = 65535 := by decide
    omega
  · split
    · next q =>
      have := ht2 q
      rw [if_pos (by omega)] at i
      subst q
      refine iv_mk (by rw [ai_nz]; omega) ?_
      have e1 : (((1 : Int64) <<< (Int32.toInt64 32 &&& 63)) - 1).toInt = 4294967295 := by decide
      omega
    · exact sd_any
def ga_ok (g : Nat → Int32) : Prop := g 6 = g 0 >>> (4 &&& 31) ∧ (g 6 = 0 ∨ g 6 = 1 ∨ g 6 = 2 ∨ g 6 = 3 ∨ g 6 = 4 ∨ g 6 = 5 ∨ g 6 = 6 ∨ g 6 = 7 ∨ g 6 = 8 ∨ g 6 = 9 ∨ g 6 = 10 ∨ g 6 = 12 ∨ g 6 = 13) ∧ (g 6 = 13 → g 0 &&& 7 = 4) ∧ (g 0 &&& 7 = 4 ∨ g 0 &&& 7 = 7)
theorem ga_32 (k : ga_ok g) : pw_isOf32 g = ar_32 (g 0) := by
  unfold pw_isOf32 ar_32
  rw [k.1]
theorem a31_of {z : Int64} {j : Nat} (hj : j < 32) (h1 : 0 ≤ z.toInt) (h2 : z.toInt < 2147483648) : Int32.toInt64 (Int64.toInt32 z >>> (nI j &&& 31)) = z >>> (Int32.toInt64 (nI j) &&& 63) := by
  rw [ai_eq, ai_sar (by omega), Int32.toInt_toInt64]
  have e1 : (Int64.toInt32 z).toInt = z.toInt := by
    rw [Int64.toInt_toInt32]
    apply Int.bmod_eq_of_le_mul_two
    · show -(4294967296 : Int) ≤ _
      omega
    · show _ < (4294967296 : Int)
      omega
  show (Int64.toInt32 z >>> (nI j &&& 31)).toBitVec.toInt = _
  have e2 : (nI j &&& 31).toBitVec.smod 32 = BitVec.ofNat 32 j := by
    have : ∀ j : Fin 32, (nI j.val &&& 31).toBitVec.smod 32 = BitVec.ofNat 32 j.val := by decide
    exact this ⟨j, hj⟩
  rw [Int32.toBitVec_shiftRight, e2, BitVec.sshiftRight_eq', BitVec.toInt_sshiftRight, BitVec.toNat_ofNat, Nat.mod_eq_of_lt (by omega), Int.shiftRight_eq_div_pow]
  show (Int64.toInt32 z).toInt / _ = _
  rw [e1]
  rfl
theorem ar_sh_e (k : ga_ok g) (h13 : g 6 ≠ 13) : ar_sh (g 0) y = pn_sh (pw_isOf32 g) y := by
  rw [ga_32 k]
  unfold ar_sh pn_sh ar_32
  rw [← k.1]
  congr 1
  by_cases q : g 0 &&& 7 = 4
  · rw [if_pos q, if_pos q, if_neg h13, if_neg (by decide)]
  · rw [if_neg q, if_neg q, if_pos rfl]
theorem pn_sh_n (b : Int32) (y : Int64) : ∃ j, j < 64 ∧ pn_sh b y = nI j ∧ (b ≠ 0 → j < 32) := by
  unfold pn_sh
  by_cases q : b = 0
  · rw [if_pos q]
    obtain ⟨j, h1, h2⟩ := sh_63 y
    exact ⟨j, h1, h2, fun r => absurd q r⟩
  · rw [if_neg q]
    obtain ⟨j, h1, h2⟩ := sh_31 y
    exact ⟨j, by omega, h2, fun _ => h1⟩
theorem sd_spans (k : ga_ok g) (h13 : g 6 = 13 → y = Int32.toInt64 (g 4)) (h1 : a.toInt ≤ x.toInt) (h2 : x.toInt ≤ b.toInt) (h3 : e.toInt ≤ y.toInt) (h4 : y.toInt ≤ f.toInt) (hm : pw_isOf32 g ≠ 0 → 0 ≤ x.toInt) : iv (pn_spans g a b e f) (ar_tk (g 0) x y (ar_sh (g 0) y)) := by
  unfold pn_spans ar_tk
  rw [← k.1]
  rcases k.2.1 with q | q | q | q | q | q | q | q | q | q | q | q | q
  · simp (decide := true) only [q, reduceIte]
    exact sd_add h1 h2 h3 h4
  · simp (decide := true) only [q, reduceIte]
    exact sd_sub h1 h2 h3 h4
  · simp (decide := true) only [q, reduceIte]
    exact sd_mul h1 h2 h3 h4
  · simp (decide := true) only [q, reduceIte]
    exact sd_div h1 h2 h3 h4
  · simp (decide := true) only [q, reduceIte]
    exact (sd_or h1 h2 h3 h4).1
  · simp (decide := true) only [q, reduceIte]
    exact sd_and h1 h2 h3 h4
  · have e0 : pn_sh (pw_isOf32 g) e = pn_sh (pw_isOf32 g) y ∨ e ≠ f := by
      by_cases ef : e = f
      · refine Or.inl ?_
        have : e = y := ai_eq.mpr (by rw [← ef] at h4; omega)
        rw [this]
      · exact Or.inr ef
    rw [ar_sh_e k (by rw [q]; decide)]
    simp (decide := true) only [q, reduceIte]
    show iv (pn_shl (pn_sh (pw_isOf32 g) e) a b e f) (x <<< (Int32.toInt64 (pn_sh (pw_isOf32 g) y) &&& 63))
    rcases e0 with e0 | e0
    · rw [e0]
      obtain ⟨j, j1, j2, _⟩ := pn_sh_n (pw_isOf32 g) y
      rw [j2]
      exact sd_shl j1 h1 h2
    · unfold pn_shl
      rw [if_neg e0]
      exact sd_any
  · have e0 : pn_sh (pw_isOf32 g) e = pn_sh (pw_isOf32 g) y ∨ e ≠ f := by
      by_cases ef : e = f
      · refine Or.inl ?_
        have : e = y := ai_eq.mpr (by rw [← ef] at h4; omega)
        rw [this]
      · exact Or.inr ef
    rw [ar_sh_e k (by rw [q]; decide)]
    simp (decide := true) only [q, reduceIte]
    show iv (pn_shr 7 (pw_isOf32 g) (pn_sh (pw_isOf32 g) e) a b e f) (UInt64.toInt64 (Int64.toUInt64 x >>> (Int64.toUInt64 (Int32.toInt64 (pn_sh (pw_isOf32 g) y)) &&& Int64.toUInt64 63)))
    rcases e0 with e0 | e0
    · rw [e0]
      obtain ⟨j, j1, j2, _⟩ := pn_sh_n (pw_isOf32 g) y
      rw [j2]
      refine sd_shr j1 h1 h2 ⟨fun _ x0 => ?_, fun q => absurd rfl q, fun q => absurd rfl q⟩
      rw [ai_eq, ai_shr j1 x0, ai_sar j1]
    · unfold pn_shr
      rw [if_neg e0]
      exact sd_any
  · simp (decide := true) only [q, reduceIte]
    exact sd_neg h1 h2
  · simp (decide := true) only [q, reduceIte]
    exact sd_rem h1 h2 h3 h4
  · simp (decide := true) only [q, reduceIte]
    exact (sd_or h1 h2 h3 h4).2
  · have e0 : pn_sh (pw_isOf32 g) e = pn_sh (pw_isOf32 g) y ∨ e ≠ f := by
      by_cases ef : e = f
      · refine Or.inl ?_
        have : e = y := ai_eq.mpr (by rw [← ef] at h4; omega)
        rw [this]
      · exact Or.inr ef
    have e32 := ga_32 k
    unfold ar_32 at e32
    rw [← k.1, q, if_neg (show ¬ (12 : Int32) = 13 by decide)] at e32
    rw [ar_sh_e k (by rw [q]; decide)]
    simp (decide := true) only [q, reduceIte]
    show iv (pn_shr 12 (pw_isOf32 g) (pn_sh (pw_isOf32 g) e) a b e f) (if g 0 &&& 7 = 4 then Int32.toInt64 (Int64.toInt32 x >>> (pn_sh (pw_isOf32 g) y &&& 31)) else x >>> (Int32.toInt64 (pn_sh (pw_isOf32 g) y) &&& 63))
    rcases e0 with e0 | e0
    · rw [e0]
      obtain ⟨j, j1, j2, j3⟩ := pn_sh_n (pw_isOf32 g) y
      rw [j2]
      refine sd_shr j1 h1 h2 ⟨fun q => absurd q (by decide), fun _ z => ?_, fun _ z xs => ?_⟩
      · by_cases q7 : g 0 &&& 7 = 4
        · rw [if_pos q7] at e32
          exact absurd (e32.symm.trans z) (by decide)
        · rw [if_neg q7]
      · by_cases q7 : g 0 &&& 7 = 4
        · rw [if_pos q7]
          exact a31_of (j3 z) (hm z) xs
        · rw [if_neg q7]
    · unfold pn_shr
      rw [if_neg e0]
      exact sd_any
  · have hy := h13 q
    simp (decide := true) only [q, reduceIte]
    show iv (pn_turn (g 4)) (if g 0 &&& 8 = 0 then ar_low x y else ar_turned x y)
    refine sd_turn (fun w => ?_) (fun w => ?_)
    · rw [w] at hy
      rw [hy]
      split
      · exact ar_l16 x
      · exact ar_t16 x
    · rw [w] at hy
      rw [hy]
      split
      · exact ar_l32 x
      · exact ar_t32 x
theorem sd_t32 {b : Int32} {v : pv_T} (h : iv v x) : iv (pn_t32 b v) (ar_m b x) := by
  unfold pn_t32 ar_m
  by_cases q : b = 0
  · rw [if_pos q, if_pos q]
    exact h
  · rw [if_neg q, if_neg q]
    have lw := ai_low (x := x)
    have c1 : (4294967295 : Int64).toInt = 4294967295 := rfl
    unfold pn_low
    rw [pn_one0]
    by_cases o : v.2.1 = v.2.2
    · rw [if_pos o]
      have u1 := h.1
      have u2 := h.2
      rw [← o] at u2
      have : v.2.1 = x := ai_eq.mpr (by omega)
      rw [this]
      exact iv_mk (Int.le_refl _) (Int.le_refl _)
    · rw [if_neg o]
      unfold pn_in
      by_cases q1 : v.2.1 < 0
      · rw [if_pos q1, if_pos rfl]
        exact iv_mk (by rw [ai_nz]; omega) (by omega)
      · rw [if_neg q1]
        by_cases q2 : 4294967295 < v.2.2
        · rw [if_pos q2, if_pos rfl]
          exact iv_mk (by rw [ai_nz]; omega) (by omega)
        · rw [if_neg q2, if_neg (by decide)]
          rw [ai_lt] at q1 q2
          rw [ai_nz] at q1
          have h1 := h.1
          have h2 := h.2
          rw [ai_lows (by omega) (by omega)]
          exact h
theorem ar_m0 {b : Int32} (h : b ≠ 0) : 0 ≤ (ar_m b x).toInt ∧ (ar_m b x).toInt ≤ 4294967295 := by
  unfold ar_m
  rw [if_neg h, ai_low]
  omega
theorem ar_mm {b : Int32} : ar_m b (ar_m b x) = ar_m b x := by
  by_cases h : b = 0
  · unfold ar_m
    rw [if_pos h, if_pos h]
  · have := ar_m0 (x := x) h
    have e : ar_m b (ar_m b x) = ar_m b x &&& 4294967295 := if_neg h
    rw [e, ai_lows this.1 this.2]
theorem ar_reck_m : ar_reck (g 0) (ar_m (ar_32 (g 0)) x) (ar_m (ar_32 (g 0)) y) = ar_reck (g 0) x y := by
  unfold ar_reck
  rw [ar_mm, ar_mm]
theorem iv_one {v : pv_T} (h : iv v x) (o : pn_one v ≠ 0) : v.2.1 = x := by
  unfold pn_one at o
  by_cases q : v.2.1 = v.2.2
  · have h1 := h.1
    have h2 := h.2
    rw [← q] at h2
    exact ai_eq.mpr (by omega)
  · rw [if_neg q] at o
    exact absurd rfl o
theorem sd_reck (k : ga_ok g) (h13 : g 6 = 13 → r = (1, Int32.toInt64 (g 4), Int32.toInt64 (g 4))) (hx : iv l x) (hy : iv r y) : iv (pn_reck g l r) (ar_reck (g 0) x y) := by
  have e32 := ga_32 k
  have hx' := sd_t32 (b := pw_isOf32 g) hx
  have hy' := sd_t32 (b := pw_isOf32 g) hy
  have h53 : iv (pn_r53 g (pn_t32 (pw_isOf32 g) l) (pn_t32 (pw_isOf32 g) r)) (ar_reck (g 0) x y) := by
    have hs := sd_spans (g := g) (x := ar_m (pw_isOf32 g) x) (y := ar_m (pw_isOf32 g) y) k (fun q => by
      have z : pw_isOf32 g = 0 := by
        rw [e32]
        unfold ar_32
        rw [← k.1, if_pos q, ite_self]
      have : y = Int32.toInt64 (g 4) := by
        rw [h13 q] at hy
        have u1 : (Int32.toInt64 (g 4)).toInt ≤ y.toInt := hy.1
        have u2 : y.toInt ≤ (Int32.toInt64 (g 4)).toInt := hy.2
        exact ai_eq.mpr (by omega)
      rw [z]
      exact this) hx'.1 hx'.2 hy'.1 hy'.2 (fun q => (ar_m0 q).1)
    unfold pn_r53 ar_reck
    rw [← e32]
    generalize hT : ar_tk (g 0) (ar_m (pw_isOf32 g) x) (ar_m (pw_isOf32 g) y) (ar_sh (g 0) (ar_m (pw_isOf32 g) y)) = T at *
    generalize hS : pn_spans g (pn_t32 (pw_isOf32 g) l).2.1 (pn_t32 (pw_isOf32 g) l).2.2 (pn_t32 (pw_isOf32 g) r).2.1 (pn_t32 (pw_isOf32 g) r).2.2 = S at *
    by_cases q : pw_isOf32 g = 0
    · rw [if_pos q]
      unfold ar_m
      rw [if_pos q]
      exact hs
    · rw [if_neg q]
      have b0 := ar_m0 (x := T) q
      have c1 : (4294967295 : Int64).toInt = 4294967295 := rfl
      unfold pn_in
      by_cases q1 : S.2.1 < 0
      · rw [if_pos q1, if_pos rfl]
        exact iv_mk (by rw [ai_nz]; omega) (by omega)
      · rw [if_neg q1]
        by_cases q2 : 4294967295 < S.2.2
        · rw [if_pos q2, if_pos rfl]
          exact iv_mk (by rw [ai_nz]; omega) (by omega)
        · rw [if_neg q2, if_neg (by decide)]
          rw [ai_lt] at q1 q2
          rw [ai_nz] at q1
          have h1 := hs.1
          have h2 := hs.2
          have : ar_m (pw_isOf32 g) T = T := by
            unfold ar_m
            rw [if_neg q, ai_lows (by omega) (by omega)]
          rw [this]
          exact hs
  unfold pn_reck pn_r15
  by_cases o1 : pn_one (pn_t32 (pw_isOf32 g) l) = 0
  · rw [if_pos o1]
    exact h53
  · rw [if_neg o1]
    by_cases o2 : pn_one (pn_t32 (pw_isOf32 g) r) = 0
    · rw [if_pos o2]
      exact h53
    · rw [if_neg o2, iv_one hx' o1, iv_one hy' o2, e32, ar_reck_m]
      exact iv_mk (Int.le_refl _) (Int.le_refl _)
theorem pn_reck_1 : (pn_reck g l r).1 = 1 := by
  have hs : ∀ a b e f, (pn_spans g a b e f).1 = 1 := fun a b e f => by
    unfold pn_spans pn_add pn_sub pn_mul pn_div pn_or pn_and pn_and8 pn_shl pn_shr pn_neg pn_rem pn_turn pn_any
    simp only [apply_ite Prod.fst, ite_self]
  unfold pn_reck pn_r15 pn_r53
  simp only [apply_ite Prod.fst, ite_self, hs]
end SO
