section MQ
variable {h : ja_H} {k d r c : Nat} {a a' e f lo hi : Int64} {o y3 z0 : Int32} {g : Nat → Int32} {x : Int32}
theorem nar_b (hx : x = 0 ∨ x = 1 ∨ x = 2 ∨ x = 3) : vp_nar .byte (Int8.toInt32 (Int32.toInt8 x)) = x := by
  rcases hx with e | e | e | e <;> subst e <;> decide
def mgv (h : ja_H) (r c : Nat) (v : pv_T) : ja_H := ja_sL (ja_sL (ja_sI h 30 (75 * r + c) v.1) 31 (75 * r + c) v.2.1) 32 (75 * r + c) v.2.2
def mv (h : ja_H) (r c : Nat) : pv_T := (h.2.1 30 (75 * r + c), h.2.2.1 31 (75 * r + c), h.2.2.1 32 (75 * r + c))
theorem mo_75 : nI r * 75 + nI c = nI (75 * r + c) := by
  rw [show (75 : Int32) = nI 75 from rfl, jn_mul, jn_add, Nat.mul_comm]
theorem mo_give (b : jv_B h) (hr : r < 1026) (hc : c < 75) (hx : x = 0 ∨ x = 1 ∨ x = 2 ∨ x = 3) : r_Mo_give h 25 (nI r) (nI c) x lo hi = some (mgv h r c (x, lo, hi)) := by
  have b1 : jv_B (ja_sI h 30 (75 * r + c) x) := b
  have b2 : jv_B (ja_sL (ja_sI h 30 (75 * r + c) x) 31 (75 * r + c) lo) := b
  have j : jx (nI (75 * r + c)) 76950 := jn_jx (by omega) (by decide)
  have cl : (nI (75 * r + c)).toNatClampNeg = 75 * r + c := jn_clamp (by omega)
  unfold r_Mo_give
  rw [jR_25_10 b, mo_75, jW_30 b j, cl, nar_b hx, jR_25_11 b1, jW_31 b1 j, cl, jR_25_12 b2, jW_32 b2 j, cl]
  rfl
theorem mo_is (b : jv_B h) (hr : r < 1026) (hc : c < 75) : r_Mo_is h 25 (nI r) (nI c) = some ((mv h r c).1, h) := by
  have j : jx (nI (75 * r + c)) 76950 := jn_jx (by omega) (by decide)
  have cl : (nI (75 * r + c)).toNatClampNeg = 75 * r + c := jn_clamp (by omega)
  unfold r_Mo_is
  rw [jR_25_10 b, mo_75, jE_30 b j, cl]
  rfl
theorem mo_least (b : jv_B h) (hr : r < 1026) (hc : c < 75) : r_Mo_least h 25 (nI r) (nI c) = some ((mv h r c).2.1, h) := by
  have j : jx (nI (75 * r + c)) 76950 := jn_jx (by omega) (by decide)
  have cl : (nI (75 * r + c)).toNatClampNeg = 75 * r + c := jn_clamp (by omega)
  unfold r_Mo_least
  rw [jR_25_11 b, mo_75, jE_31 b j, cl]
  rfl
theorem mo_most (b : jv_B h) (hr : r < 1026) (hc : c < 75) : r_Mo_most h 25 (nI r) (nI c) = some ((mv h r c).2.2, h) := by
  have j : jx (nI (75 * r + c)) 76950 := jn_jx (by omega) (by decide)
  have cl : (nI (75 * r + c)).toNatClampNeg = 75 * r + c := jn_clamp (by omega)
  unfold r_Mo_most
  rw [jR_25_12 b, mo_75, jE_32 b j, cl]
  rfl
theorem mo_933 (b : jv_B h) (hd : d < 75) : r_Mo_numbers_933 h 25 (nI d) lo hi = some (mgv h 1024 d (1, lo, hi)) := by
  simp only [r_Mo_numbers_933, jk_25 b]
  rw [show (1024 : Int32) = nI 1024 from rfl, mo_give b (by decide) hd (Or.inr (Or.inl rfl))]
  rfl
def fin (o : Int32) (lo hi : Int64) : pv_T := if o = 0 then (1, lo, hi) else if lo < 0 then (1, 0, 4294967295) else if hi ≤ 4294967295 then (1, lo, hi) else (1, 0, 4294967295)
theorem mo_904 (b : jv_B h) (hd : d < 75) : r_Mo_numbers_904 h 25 (nI d) o lo hi = some (mgv h 1024 d (fin o lo hi)) := by
  simp only [r_Mo_numbers_904, r_Mo_numbers_925, jlE, mo_933 b hd, fin]
  by_cases c1 : o = 0
  · simp only [if_pos c1]
  · by_cases c2 : lo < 0
    · simp only [if_neg c1, if_pos c2]
    · by_cases c3 : hi ≤ 4294967295
      · simp only [if_neg c1, if_neg c2, if_pos c3]
      · simp only [if_neg c1, if_neg c2, if_neg c3]
def mo_R (h : ja_H) (d : Nat) (o : Int32) (S : pv_T) (x : Option ja_H) : Prop := ∃ w, x = some (mgv (ja_sI h 25 16 w) 1024 d (fin o S.2.1 S.2.2))
theorem mo_Rn (b : jv_B h) (hd : d < 75) (w0 : h.2.1 25 16 = 0) : mo_R h d o pn_any (r_Mo_numbers_882 h 25 (nI d) o lo hi 0) := by
  refine ⟨0, ?_⟩
  rw [ja_sI_same w0]
  simp only [r_Mo_numbers_882, r_Mo_numbers_894, jlE, if_true, mo_904 b hd]
  rfl
theorem mo_R1 (b : jv_B h) (hd : d < 75) (w0 : h.2.1 25 16 = 0) : mo_R h d o (1, lo, hi) (r_Mo_numbers_882 h 25 (nI d) o lo hi 1) := by
  refine ⟨0, ?_⟩
  rw [ja_sI_same w0]
  simp only [r_Mo_numbers_882, jI_25 b, w0, if_true, if_neg i10, mo_904 b hd]
theorem mo_Rw (b : jv_B h) (hd : d < 75) : mo_R h d o pn_any (r_Mo_numbers_882 (ja_sI h 25 16 1) 25 (nI d) o lo hi 1) := by
  have b1 : jv_B (ja_sI h 25 16 1) := b
  have w1 : (ja_sI h 25 16 1).2.1 25 16 = 1 := by rw [ja_rI, if_pos ⟨rfl, rfl⟩]
  refine ⟨1, ?_⟩
  simp only [r_Mo_numbers_882, r_Mo_numbers_894, jlE, jI_25 b1, w1, if_neg i10, mo_904 b1 hd]
  rfl
theorem mo_up (b : jv_B h) : r_Mo_up h 25 a x = some (a <<< (Int32.toInt64 x &&& 63), if (a <<< (Int32.toInt64 x &&& 63)) >>> (Int32.toInt64 x &&& 63) = a then h else ja_sI h 25 16 1) := by
  simp only [r_Mo_up, r_Mo_up_19, jlE, jpZ_25 b (Or.inr rfl)]
  split <;> rfl
theorem mo_566 {m : Int64} (b : jv_B h) : ∀ (s t : Nat) (y : Int64), s < t → m ≤ pn_ol m s y → r_Mo_numbers_566 t h 25 (nI d) o lo y 1 m = r_Mo_numbers_882 h 25 (nI d) o lo (pn_ol m s y) 1 := by
  intro s
  induction s with
  | zero =>
    intro t y ht hm
    obtain ⟨t, rfl⟩ : ∃ u, t = u + 1 := ⟨t - 1, by omega⟩
    show q_Mo_numbers_566 (r_Mo_numbers_566 t) h 25 (nI d) o lo y 1 m = _
    have hm' : m ≤ y := hm
    simp only [q_Mo_numbers_566, if_neg i10, if_pos hm']
    rfl
  | succ s ih =>
    intro t y ht hm
    obtain ⟨t, rfl⟩ : ∃ u, t = u + 1 := ⟨t - 1, by omega⟩
    show q_Mo_numbers_566 (r_Mo_numbers_566 t) h 25 (nI d) o lo y 1 m = _
    simp only [pn_ol] at hm ⊢
    simp only [q_Mo_numbers_566, if_neg i10, jlE]
    by_cases q : m ≤ y
    · rw [if_pos q, if_pos q]
    · rw [if_neg q] at hm
      rw [if_neg q, if_neg q]
      exact ih t _ (by omega) hm
theorem mo_n0 (b : jv_B h) (hd : d < 75) (w0 : h.2.1 25 16 = 0) : mo_R h d o (pn_add a a' e f) (r_Mo_numbers_283 h 25 (nI k) 0 y3 (nI d) a a' e f o (-9223372036854775808) 9223372036854775807 z0 e) := by
  have b1 : jv_B (ja_sI h 25 16 1) := b
  simp (decide := true) only [r_Mo_numbers_283, jlE, jsw, mo_t32, reduceIte, jk_25 b, mo_plus b, jcL]
  unfold pn_add
  by_cases p1 : pn_sf a e = 0
  · simp only [if_pos p1, jk_25 b1, mo_plus b1, jcL, ja_sI_sI, ite_self]
    exact mo_Rw b hd
  · by_cases p2 : pn_sf a' f = 0
    · simp only [if_neg p1, if_pos p2, jk_25 b, mo_plus b, jcL]
      exact mo_Rw b hd
    · simp only [if_neg p1, if_neg p2, jk_25 b, mo_plus b, jcL]
      exact mo_R1 b hd w0
theorem mo_n1 (b : jv_B h) (hd : d < 75) (w0 : h.2.1 25 16 = 0) : mo_R h d o (pn_sub a a' e f) (r_Mo_numbers_283 h 25 (nI k) 1 y3 (nI d) a a' e f o (-9223372036854775808) 9223372036854775807 z0 e) := by
  have b1 : jv_B (ja_sI h 25 16 1) := b
  simp (decide := true) only [r_Mo_numbers_283, jlE, jsw, mo_t32, reduceIte, jk_25 b, mo_minus b, jcL]
  unfold pn_sub
  by_cases p1 : pn_df a f = 0
  · simp only [if_pos p1, jk_25 b1, mo_minus b1, jcL, ja_sI_sI, ite_self]
    exact mo_Rw b hd
  · by_cases p2 : pn_df a' e = 0
    · simp only [if_neg p1, if_pos p2, jk_25 b, mo_minus b, jcL]
      exact mo_Rw b hd
    · simp only [if_neg p1, if_neg p2, jk_25 b, mo_minus b, jcL]
      exact mo_R1 b hd w0
theorem mo_n2 (b : jv_B h) (hd : d < 75) (w0 : h.2.1 25 16 = 0) : mo_R h d o (pn_mul a a' e f) (r_Mo_numbers_283 h 25 (nI k) 2 y3 (nI d) a a' e f o (-9223372036854775808) 9223372036854775807 z0 e) := by
  have b1 : jv_B (ja_sI h 25 16 1) := b
  simp (decide := true) only [r_Mo_numbers_283, jlE, jsw, mo_t32, reduceIte, jk_25 b, mo_times b, jcL]
  unfold pn_mul
  by_cases p1 : pn_pf a e = 0
  · simp only [if_pos p1, jk_25 b1, mo_times b1, jcL, ja_sI_sI, ite_self, w_minL, w_maxL]
    exact mo_Rw b hd
  · by_cases p2 : pn_pf a f = 0
    · simp only [if_neg p1, if_pos p2, jk_25 b, mo_times b, jk_25 b1, mo_times b1, jcL, ja_sI_sI, ite_self, w_minL, w_maxL]
      exact mo_Rw b hd
    · by_cases p3 : pn_pf a' e = 0
      · simp only [if_neg p1, if_neg p2, if_pos p3, jk_25 b, mo_times b, jk_25 b1, mo_times b1, jcL, ja_sI_sI, ite_self, w_minL, w_maxL]
        exact mo_Rw b hd
      · by_cases p4 : pn_pf a' f = 0
        · simp only [if_neg p1, if_neg p2, if_neg p3, if_pos p4, jk_25 b, mo_times b, jcL, w_minL, w_maxL]
          exact mo_Rw b hd
        · simp only [if_neg p1, if_neg p2, if_neg p3, if_neg p4, jk_25 b, mo_times b, jcL, w_minL, w_maxL]
          exact mo_R1 b hd w0
theorem mo_n3 (b : jv_B h) (hd : d < 75) (w0 : h.2.1 25 16 = 0) (ef : e.toInt ≤ f.toInt) : mo_R h d o (pn_div a a' e f) (r_Mo_numbers_283 h 25 (nI k) 3 y3 (nI d) a a' e f o (-9223372036854775808) 9223372036854775807 z0 e) := by
  simp (decide := true) only [r_Mo_numbers_283, jlE, jsw, mo_t32, reduceIte, r_Mo_numbers_505, r_Mo_numbers_506]
  unfold pn_div
  by_cases c1 : a < 0
  · simp only [if_pos c1, if_true]
    exact mo_Rn b hd w0
  · by_cases c2 : e ≤ 0
    · simp only [if_neg c1, if_pos c2, if_true]
      exact mo_Rn b hd w0
    · have c2' := mt ai_le.mpr c2
      rw [ai_nz] at c2'
      have c3 : ¬ f ≤ 0 := by
        rw [ai_le, ai_nz]
        omega
      have n1 : ¬ f = 0 := fun q => c3 (by rw [q, ai_le]; exact Int.le_refl _)
      have n2 : ¬ e = 0 := fun q => c2 (by rw [q, ai_le]; exact Int.le_refl _)
      simp only [if_neg c1, if_neg c2, if_neg c3, if_neg i10, jz_L, if_neg n1, if_neg n2]
      exact mo_R1 b hd w0
theorem mo_n4 (b : jv_B h) (hd : d < 75) (w0 : h.2.1 25 16 = 0) (ab : a.toInt ≤ a'.toInt) (ef : e.toInt ≤ f.toInt) : mo_R h d o (pn_or a a' e f) (r_Mo_numbers_283 h 25 (nI k) 4 y3 (nI d) a a' e f o (-9223372036854775808) 9223372036854775807 z0 e) := by
  have z5 : ∀ s, r_Mo_numbers_549 h 25 (nI d) a' f o s = r_Mo_numbers_566 ja_fu h 25 (nI d) o 0 0 s (mx_L a' f) := fun s => by
    simp only [r_Mo_numbers_549, jlE, w_maxL, jcL]
  have z6 : r_Mo_numbers_566 ja_fu h 25 (nI d) o 0 0 0 (mx_L a' f) = r_Mo_numbers_882 h 25 (nI d) o 0 0 0 := by
    rw [ja_fu_eq]
    show q_Mo_numbers_566 (r_Mo_numbers_566 1999) h 25 (nI d) o 0 0 0 (mx_L a' f) = _
    simp only [q_Mo_numbers_566, if_true]
  simp (decide := true) only [r_Mo_numbers_283, jlE, jsw, mo_t32, reduceIte, r_Mo_numbers_530, r_Mo_numbers_548, z5]
  unfold pn_or
  by_cases c1 : a < 0
  · simp only [if_pos c1, z6]
    exact mo_Rn b hd w0
  · by_cases c2 : e < 0
    · have c2' := ai_lt.mp c2
      rw [ai_nz] at c2'
      rw [if_neg c1, if_neg c1, if_pos c2, if_neg (by rw [ai_le, ai_nz]; omega), z6]
      exact mo_Rn b hd w0
    · have c1' := mt ai_lt.mpr c1
      have c2' := mt ai_lt.mpr c2
      rw [ai_nz] at c1' c2'
      rw [if_neg c1, if_neg c1, if_neg c2, if_pos (by rw [ai_le, ai_nz]; omega)]
      have m0 : 0 ≤ (mx_L a' f).toInt := by
        rw [mx_i]
        split <;> omega
      obtain ⟨j, j1, j2, j3⟩ := pn_ol_e m0 63 0 0 (by decide) rfl
      have q : mx_L a' f ≤ pn_ol (mx_L a' f) 63 0 := by
        have p := uN_pos m0
        have i := uN_int (pn_ol (mx_L a' f) 63 0)
        have l : (2 : Nat) ^ j ≤ 9223372036854775808 := by
          rw [show 9223372036854775808 = 2 ^ 63 from rfl]
          exact Nat.pow_le_pow_right (by decide) j1
        rw [j2, if_pos (by omega)] at i
        rw [ai_le]
        omega
      rw [mo_566 b 63 ja_fu 0 (by rw [ja_fu_eq]; decide) q]
      exact mo_R1 b hd w0
theorem mo_n10 (b : jv_B h) (hd : d < 75) (w0 : h.2.1 25 16 = 0) (ab : a.toInt ≤ a'.toInt) (ef : e.toInt ≤ f.toInt) : mo_R h d o (pn_or a a' e f) (r_Mo_numbers_283 h 25 (nI k) 10 y3 (nI d) a a' e f o (-9223372036854775808) 9223372036854775807 z0 e) := by
  have z5 : ∀ s, r_Mo_numbers_549 h 25 (nI d) a' f o s = r_Mo_numbers_566 ja_fu h 25 (nI d) o 0 0 s (mx_L a' f) := fun s => by
    simp only [r_Mo_numbers_549, jlE, w_maxL, jcL]
  have z6 : r_Mo_numbers_566 ja_fu h 25 (nI d) o 0 0 0 (mx_L a' f) = r_Mo_numbers_882 h 25 (nI d) o 0 0 0 := by
    rw [ja_fu_eq]
    show q_Mo_numbers_566 (r_Mo_numbers_566 1999) h 25 (nI d) o 0 0 0 (mx_L a' f) = _
    simp only [q_Mo_numbers_566, if_true]
  simp (decide := true) only [r_Mo_numbers_283, jlE, jsw, mo_t32, reduceIte, r_Mo_numbers_530, r_Mo_numbers_548, z5]
  unfold pn_or
  by_cases c1 : a < 0
  · simp only [if_pos c1, z6]
    exact mo_Rn b hd w0
  · by_cases c2 : e < 0
    · have c2' := ai_lt.mp c2
      rw [ai_nz] at c2'
      rw [if_neg c1, if_neg c1, if_pos c2, if_neg (by rw [ai_le, ai_nz]; omega), z6]
      exact mo_Rn b hd w0
    · have c1' := mt ai_lt.mpr c1
      have c2' := mt ai_lt.mpr c2
      rw [ai_nz] at c1' c2'
      rw [if_neg c1, if_neg c1, if_neg c2, if_pos (by rw [ai_le, ai_nz]; omega)]
      have m0 : 0 ≤ (mx_L a' f).toInt := by
        rw [mx_i]
        split <;> omega
      obtain ⟨j, j1, j2, j3⟩ := pn_ol_e m0 63 0 0 (by decide) rfl
      have q : mx_L a' f ≤ pn_ol (mx_L a' f) 63 0 := by
        have p := uN_pos m0
        have i := uN_int (pn_ol (mx_L a' f) 63 0)
        have l : (2 : Nat) ^ j ≤ 9223372036854775808 := by
          rw [show 9223372036854775808 = 2 ^ 63 from rfl]
          exact Nat.pow_le_pow_right (by decide) j1
        rw [j2, if_pos (by omega)] at i
        rw [ai_le]
        omega
      rw [mo_566 b 63 ja_fu 0 (by rw [ja_fu_eq]; decide) q]
      exact mo_R1 b hd w0
theorem mo_n5 (b : jv_B h) (hd : d < 75) (w0 : h.2.1 25 16 = 0) : mo_R h d o (pn_and a a' e f) (r_Mo_numbers_283 h 25 (nI k) 5 y3 (nI d) a a' e f o (-9223372036854775808) 9223372036854775807 z0 e) := by
  simp (decide := true) only [r_Mo_numbers_283, jlE, jsw, mo_t32, reduceIte, r_Mo_numbers_604, r_Mo_numbers_609, r_Mo_numbers_645, w_minL, jcL]
  unfold pn_and pn_and8
  by_cases c1 : a < 0
  · have c1' := ai_lt.mp c1
    rw [ai_nz] at c1'
    have d1 : ¬ 0 ≤ a := by rw [ai_le, ai_nz]; omega
    by_cases c2 : e < 0
    · simp only [if_pos c1, if_neg d1, if_pos c2]
      exact mo_Rn b hd w0
    · simp only [if_pos c1, if_neg d1, if_neg c2]
      exact mo_R1 b hd w0
  · have c1' := mt ai_lt.mpr c1
    rw [ai_nz] at c1'
    have d1 : 0 ≤ a := by rw [ai_le, ai_nz]; omega
    by_cases c2 : e < 0
    · have c2' := ai_lt.mp c2
      rw [ai_nz] at c2'
      have d2 : ¬ 0 ≤ e := by rw [ai_le, ai_nz]; omega
      simp only [if_neg c1, if_pos d1, if_pos c2, if_neg d2]
      exact mo_R1 b hd w0
    · have c2' := mt ai_lt.mpr c2
      rw [ai_nz] at c2'
      have d2 : 0 ≤ e := by rw [ai_le, ai_nz]; omega
      simp only [if_neg c1, if_pos d1, if_neg c2, if_pos d2]
      exact mo_R1 b hd w0
theorem mo_fin0 {h1 : ja_H} (b : jv_B h) (hd : d < 75) (w0 : h.2.1 25 16 = 0) (q : h1 = h ∨ h1 = ja_sI h 25 16 1) : mo_R h d o pn_any (r_Mo_numbers_882 h1 25 (nI d) o lo hi 0) := by
  have b1 : jv_B (ja_sI h 25 16 1) := b
  rcases q with q | q
  · rw [q]
    exact mo_Rn b hd w0
  · rw [q]
    refine ⟨1, ?_⟩
    simp only [r_Mo_numbers_882, r_Mo_numbers_894, jlE, if_true, mo_904 b1 hd]
    rfl
theorem mo_663 {s : Int32} (b : jv_B h) (hd : d < 75) (w0 : h.2.1 25 16 = 0) : mo_R h d o (if (a <<< (Int32.toInt64 s &&& 63)) >>> (Int32.toInt64 s &&& 63) = a then (if (a' <<< (Int32.toInt64 s &&& 63)) >>> (Int32.toInt64 s &&& 63) = a' then (1, a <<< (Int32.toInt64 s &&& 63), a' <<< (Int32.toInt64 s &&& 63)) else pn_any) else pn_any) (r_Mo_numbers_663 h 25 (nI d) a a' o s 1) ∧ mo_R h d o pn_any (r_Mo_numbers_663 h 25 (nI d) a a' o s 0) := by
  have b1 : jv_B (ja_sI h 25 16 1) := b
  by_cases p1 : (a <<< (Int32.toInt64 s &&& 63)) >>> (Int32.toInt64 s &&& 63) = a
  · by_cases p2 : (a' <<< (Int32.toInt64 s &&& 63)) >>> (Int32.toInt64 s &&& 63) = a'
    · simp only [r_Mo_numbers_663, jlE, jk_25 b, mo_up b, jcL, if_pos p1, if_pos p2]
      exact ⟨mo_R1 b hd w0, mo_Rn b hd w0⟩
    · simp only [r_Mo_numbers_663, jlE, jk_25 b, mo_up b, jcL, if_pos p1, if_neg p2]
      exact ⟨mo_Rw b hd, mo_fin0 b hd w0 (Or.inr rfl)⟩
  · simp only [r_Mo_numbers_663, jlE, jk_25 b, mo_up b, jcL, if_neg p1, jk_25 b1, mo_up b1, ja_sI_sI, ite_self]
    exact ⟨mo_Rw b hd, mo_fin0 b hd w0 (Or.inr rfl)⟩
theorem mo_n6 (b : jv_B h) (hd : d < 75) (w0 : h.2.1 25 16 = 0) : mo_R h d o (pn_shl (Int64.toInt32 e &&& z0) a a' e f) (r_Mo_numbers_283 h 25 (nI k) 6 y3 (nI d) a a' e f o (-9223372036854775808) 9223372036854775807 z0 e) := by
  unfold pn_shl
  by_cases c1 : e = f
  · simp (decide := true) only [r_Mo_numbers_283, jlE, jsw, mo_t32, reduceIte, c1]
    exact (mo_663 b hd w0).1
  · simp (decide := true) only [r_Mo_numbers_283, jlE, jsw, mo_t32, reduceIte, c1]
    exact (mo_663 b hd w0).2
theorem mo_n7 (b : jv_B h) (hd : d < 75) (w0 : h.2.1 25 16 = 0) : mo_R h d o (pn_shr 7 o (Int64.toInt32 e &&& z0) a a' e f) (r_Mo_numbers_283 h 25 (nI k) 7 y3 (nI d) a a' e f o (-9223372036854775808) 9223372036854775807 z0 e) := by
  simp (decide := true) only [r_Mo_numbers_283, jlE, jsw, mo_t32, reduceIte, r_Mo_numbers_707, r_Mo_numbers_708]
  generalize Int64.toInt32 e &&& z0 = s
  unfold pn_shr
  by_cases c1 : e = f
  · by_cases c2 : a < 0
    · simp only [if_pos c1, if_pos c2, if_true]
      exact mo_Rn b hd w0
    · simp only [if_pos c1, if_neg c2, if_true]
      exact mo_R1 b hd w0
  · simp only [if_neg c1]
    exact mo_Rn b hd w0
theorem mo_n12 (b : jv_B h) (hd : d < 75) (w0 : h.2.1 25 16 = 0) (y30 : y3 = 0 ↔ ¬ o = 0) : mo_R h d o (pn_shr 12 o (Int64.toInt32 e &&& z0) a a' e f) (r_Mo_numbers_283 h 25 (nI k) 12 y3 (nI d) a a' e f o (-9223372036854775808) 9223372036854775807 z0 e) := by
  have n7 : ¬ (12 : Int32) = 7 := by decide
  simp (decide := true) only [r_Mo_numbers_283, jlE, jsw, mo_t32, reduceIte, r_Mo_numbers_818, r_Mo_numbers_822, r_Mo_numbers_823]
  generalize Int64.toInt32 e &&& z0 = s
  unfold pn_shr
  by_cases c1 : e = f
  · by_cases c2 : o = 0
    · have c3 : ¬ y3 = 0 := fun q => y30.mp q c2
      rw [if_pos c1, if_neg c3, if_pos c1, if_neg n7, if_pos c2]
      exact mo_R1 b hd w0
    · have c3 : y3 = 0 := y30.mpr c2
      rw [if_pos c1, if_pos c3, if_pos c1, if_neg n7, if_neg c2]
      by_cases c4 : 2147483648 ≤ a'
      · rw [if_pos c4, if_pos c4]
        exact mo_Rn b hd w0
      · rw [if_neg c4, if_neg c4]
        exact mo_R1 b hd w0
  · rw [if_neg c1, if_neg c1]
    exact mo_Rn b hd w0
theorem pn_df0 {z : Int64} : pn_df 0 z = 0 ↔ z = -9223372036854775808 := by
  rw [ai_df, ai_nz, ai_eq]
  have l := ai_lo z
  have u := ai_hi z
  show _ ↔ z.toInt = -9223372036854775808
  omega
theorem mo_n8 (b : jv_B h) (hd : d < 75) (w0 : h.2.1 25 16 = 0) (ab : a.toInt ≤ a'.toInt) : mo_R h d o (pn_neg a a') (r_Mo_numbers_283 h 25 (nI k) 8 y3 (nI d) a a' e f o (-9223372036854775808) 9223372036854775807 z0 e) := by
  have b1 : jv_B (ja_sI h 25 16 1) := b
  simp (decide := true) only [r_Mo_numbers_283, jlE, jsw, mo_t32, reduceIte, jk_25 b, mo_minus b, jcL, Int64.zero_sub]
  unfold pn_neg
  by_cases p1 : a = -9223372036854775808
  · rw [if_pos p1]
    by_cases p2 : pn_df 0 a' = 0
    · simp only [if_pos p2, jk_25 b1, mo_minus b1, jcL, ja_sI_sI, ite_self]
      exact mo_Rw b hd
    · simp only [if_neg p2, jk_25 b, mo_minus b, jcL, if_pos (pn_df0.mpr p1)]
      exact mo_Rw b hd
  · have p2 : ¬ pn_df 0 a' = 0 := fun q => p1 (by
      have q' := pn_df0.mp q
      have l := ai_lo a
      rw [q'] at ab
      rw [ai_eq]
      have : (-9223372036854775808 : Int64).toInt = -9223372036854775808 := by decide
      omega)
    simp only [if_neg p1, if_neg p2, jk_25 b, mo_minus b, jcL, if_neg (fun q => p1 (pn_df0.mp q))]
    exact mo_R1 b hd w0
theorem mo_n9 (b : jv_B h) (hd : d < 75) (w0 : h.2.1 25 16 = 0) : mo_R h d o (pn_rem a a' e f) (r_Mo_numbers_283 h 25 (nI k) 9 y3 (nI d) a a' e f o (-9223372036854775808) 9223372036854775807 z0 e) := by
  simp (decide := true) only [r_Mo_numbers_283, jlE, jsw, mo_t32, reduceIte, r_Mo_numbers_766, r_Mo_numbers_767, w_minL, jcL]
  unfold pn_rem
  by_cases c1 : a < 0
  · simp only [if_pos c1]
    exact mo_Rn b hd w0
  · by_cases c2 : e ≤ 0
    · simp only [if_neg c1, if_pos c2]
      exact mo_Rn b hd w0
    · simp only [if_neg c1, if_neg c2]
      exact mo_R1 b hd w0
theorem mo_n13 (b : jv_B h) (hd : d < 75) (w0 : h.2.1 25 16 = 0) (hk : k < 1024) (im : jw_imm (h.2.2.1 26 k) = 16 ∨ jw_imm (h.2.2.1 26 k) = 32 ∨ jw_imm (h.2.2.1 26 k) = 64) : mo_R h d o (pn_turn (jw_imm (h.2.2.1 26 k))) (r_Mo_numbers_283 h 25 (nI k) 13 y3 (nI d) a a' e f o (-9223372036854775808) 9223372036854775807 z0 e) := by
  simp (decide := true) only [r_Mo_numbers_283, jlE, jsw, mo_t32, reduceIte, jk_25 b, mo_imm b hk, jcI, r_Mo_numbers_857, r_Mo_numbers_880]
  generalize jw_imm (h.2.2.1 26 k) = imm at *
  unfold pn_turn
  rcases im with q | q | q
  · subst q
    simp (decide := true) only [reduceIte]
    exact mo_R1 b hd w0
  · subst q
    simp (decide := true) only [reduceIte]
    exact mo_R1 b hd w0
  · subst q
    simp (decide := true) only [reduceIte]
    exact mo_Rn b hd w0
theorem fin_any : fin o pn_any.2.1 pn_any.2.2 = fin o (-9223372036854775808) 9223372036854775807 := rfl
theorem fin_r53 {u v : pv_T} (s1 : (pn_spans g u.2.1 u.2.2 v.2.1 v.2.2).1 = 1) : fin (pw_isOf32 g) (pn_spans g u.2.1 u.2.2 v.2.1 v.2.2).2.1 (pn_spans g u.2.1 u.2.2 v.2.1 v.2.2).2.2 = pn_r53 g u v := by
  unfold fin pn_r53 pn_in
  generalize pn_spans g u.2.1 u.2.2 v.2.1 v.2.2 = S at *
  have eS : S = (1, S.2.1, S.2.2) := by
    rw [← s1]
  by_cases c1 : pw_isOf32 g = 0
  · rw [if_pos c1, if_pos c1, ← eS]
  · rw [if_neg c1, if_neg c1]
    by_cases c2 : S.2.1 < 0
    · simp only [if_pos c2, if_true]
    · by_cases c3 : S.2.2 ≤ 4294967295
      · have c4 : ¬ 4294967295 < S.2.2 := by
          rw [ai_le] at c3
          rw [ai_lt]
          omega
        simp only [if_neg c2, if_pos c3, if_neg c4, if_neg i10, ← eS]
      · have c4 : 4294967295 < S.2.2 := by
          rw [ai_le] at c3
          rw [ai_lt]
          omega
        simp only [if_neg c2, if_neg c3, if_pos c4, if_true]
theorem pn_any1 : pn_any.1 = 1 := rfl
theorem pn_spans_1 : (pn_spans g a a' e f).1 = 1 := by
  simp only [pn_spans, pn_add, pn_sub, pn_mul, pn_div, pn_or, pn_and, pn_and8, pn_shl, pn_shr, pn_neg, pn_rem, pn_turn, apply_ite Prod.fst, pn_any, ite_self]
theorem mo_283 (b : jv_B h) (hd : d < 75) (hk : k < 1024) (w0 : h.2.1 25 16 = 0) (kk : ga_ok g) (h4 : g 4 = jw_imm (h.2.2.1 26 k)) (im : g 6 = 13 → g 4 = 16 ∨ g 4 = 32 ∨ g 4 = 64) (hz : g 6 ≠ 13 → z0 = if pw_isOf32 g = 0 then 63 else 31) (y30 : g 6 ≠ 13 → (y3 = 0 ↔ ¬ pw_isOf32 g = 0)) (ab : a.toInt ≤ a'.toInt) (ef : e.toInt ≤ f.toInt) : mo_R h d (pw_isOf32 g) (pn_spans g a a' e f) (r_Mo_numbers_283 h 25 (nI k) (g 6) y3 (nI d) a a' e f (pw_isOf32 g) (-9223372036854775808) 9223372036854775807 z0 e) := by
  have sh : g 6 ≠ 13 → Int64.toInt32 e &&& z0 = pn_sh (pw_isOf32 g) e := fun q => by
    unfold pn_sh
    rw [hz q]
  rcases kk.2.1 with q | q | q | q | q | q | q | q | q | q | q | q | q
  · have E : pn_spans g a a' e f = pn_add a a' e f := by simp (decide := true) only [pn_spans, q, reduceIte]
    rw [E, q]
    exact mo_n0 b hd w0
  · have E : pn_spans g a a' e f = pn_sub a a' e f := by simp (decide := true) only [pn_spans, q, reduceIte]
    rw [E, q]
    exact mo_n1 b hd w0
  · have E : pn_spans g a a' e f = pn_mul a a' e f := by simp (decide := true) only [pn_spans, q, reduceIte]
    rw [E, q]
    exact mo_n2 b hd w0
  · have E : pn_spans g a a' e f = pn_div a a' e f := by simp (decide := true) only [pn_spans, q, reduceIte]
    rw [E, q]
    exact mo_n3 b hd w0 ef
  · have E : pn_spans g a a' e f = pn_or a a' e f := by simp (decide := true) only [pn_spans, q, reduceIte]
    rw [E, q]
    exact mo_n4 b hd w0 ab ef
  · have E : pn_spans g a a' e f = pn_and a a' e f := by simp (decide := true) only [pn_spans, q, reduceIte]
    rw [E, q]
    exact mo_n5 b hd w0
  · have E : pn_spans g a a' e f = pn_shl (pn_sh (pw_isOf32 g) e) a a' e f := by simp (decide := true) only [pn_spans, q, reduceIte]
    rw [E, q, ← sh (by rw [q]; decide)]
    exact mo_n6 b hd w0
  · have E : pn_spans g a a' e f = pn_shr 7 (pw_isOf32 g) (pn_sh (pw_isOf32 g) e) a a' e f := by simp (decide := true) only [pn_spans, q, reduceIte]
    rw [E, q, ← sh (by rw [q]; decide)]
    exact mo_n7 b hd w0
  · have E : pn_spans g a a' e f = pn_neg a a' := by simp (decide := true) only [pn_spans, q, reduceIte]
    rw [E, q]
    exact mo_n8 b hd w0 ab
  · have E : pn_spans g a a' e f = pn_rem a a' e f := by simp (decide := true) only [pn_spans, q, reduceIte]
    rw [E, q]
    exact mo_n9 b hd w0
  · have E : pn_spans g a a' e f = pn_or a a' e f := by simp (decide := true) only [pn_spans, q, reduceIte]
    rw [E, q]
    exact mo_n10 b hd w0 ab ef
  · have E : pn_spans g a a' e f = pn_shr 12 (pw_isOf32 g) (pn_sh (pw_isOf32 g) e) a a' e f := by simp (decide := true) only [pn_spans, q, reduceIte]
    rw [E, q, ← sh (by rw [q]; decide)]
    exact mo_n12 b hd w0 (y30 (by rw [q]; decide))
  · have E : pn_spans g a a' e f = pn_turn (g 4) := by simp (decide := true) only [pn_spans, q, reduceIte]
    rw [E, q, h4]
    exact mo_n13 b hd w0 hk (by rw [← h4]; exact im q)
theorem mo_149 (b : jv_B h) (hd : d < 75) (hk : k < 1024) (kk : ga_ok g) (h0 : g 0 = jw_op (h.2.2.1 26 k)) (h4 : g 4 = jw_imm (h.2.2.1 26 k)) (im : g 6 = 13 → g 4 = 16 ∨ g 4 = 32 ∨ g 4 = 64) (e13 : g 6 = 13 → e = (g 4).toInt64) (e8 : g 6 = 8 ∨ g 6 = 13 → e = f) (y30 : y3 = 0 ↔ g 0 &&& 7 = 4) (ab : a.toInt ≤ a'.toInt) (ef : e.toInt ≤ f.toInt) : ∃ w, r_Mo_numbers_149 h 25 (nI k) (g 6) y3 (nI d) a a' e f (pw_isOf32 g) = some (mgv (ja_sI h 25 16 w) 1024 d (pn_r15 g (1, a, a') (1, e, f))) := by
  have b1 : jv_B (ja_sI h 25 16 0) := b
  have o32 : g 6 ≠ 13 → (g 0 &&& 7 = 4 ↔ ¬ pw_isOf32 g = 0) := fun q => by
    unfold pw_isOf32
    by_cases z : g 0 &&& 7 = 4
    · rw [if_pos z, if_neg q]
      exact ⟨fun _ => i10, fun _ => z⟩
    · rw [if_neg z]
      exact ⟨fun y => absurd y z, fun y => absurd rfl y⟩
  have n11 : ¬ g 6 = 11 := by
    rcases kk.2.1 with q | q | q | q | q | q | q | q | q | q | q | q | q <;> rw [q] <;> decide
  have mk : mk_k (g 0 >>> (4 &&& 31)) ∨ (g 0 >>> (4 &&& 31) = 13 ∧ g 0 &&& 7 = 4 ∧ e = (jw_imm (h.2.2.1 26 k)).toInt64 ∧ (jw_imm (h.2.2.1 26 k) = 16 ∨ jw_imm (h.2.2.1 26 k) = 32 ∨ jw_imm (h.2.2.1 26 k) = 64)) := by
    rw [← kk.1, ← h4]
    unfold mk_k
    rcases kk.2.1 with q | q | q | q | q | q | q | q | q | q | q | q | q
    · exact Or.inl (Or.inl q)
    · exact Or.inl (Or.inr (Or.inl q))
    · exact Or.inl (Or.inr (Or.inr (Or.inl q)))
    · exact Or.inl (Or.inr (Or.inr (Or.inr (Or.inl q))))
    · exact Or.inl (Or.inr (Or.inr (Or.inr (Or.inr (Or.inl q)))))
    · exact Or.inl (Or.inr (Or.inr (Or.inr (Or.inr (Or.inr (Or.inl q))))))
    · exact Or.inl (Or.inr (Or.inr (Or.inr (Or.inr (Or.inr (Or.inr (Or.inl q)))))))
    · exact Or.inl (Or.inr (Or.inr (Or.inr (Or.inr (Or.inr (Or.inr (Or.inr (Or.inl q))))))))
    · exact Or.inl (Or.inr (Or.inr (Or.inr (Or.inr (Or.inr (Or.inr (Or.inr (Or.inr (Or.inl q)))))))))
    · exact Or.inl (Or.inr (Or.inr (Or.inr (Or.inr (Or.inr (Or.inr (Or.inr (Or.inr (Or.inr (Or.inl q))))))))))
    · exact Or.inl (Or.inr (Or.inr (Or.inr (Or.inr (Or.inr (Or.inr (Or.inr (Or.inr (Or.inr (Or.inr (Or.inl q)))))))))))
    · exact Or.inl (Or.inr (Or.inr (Or.inr (Or.inr (Or.inr (Or.inr (Or.inr (Or.inr (Or.inr (Or.inr (Or.inr (Or.inr q))))))))))))
    · exact Or.inr ⟨q, kk.2.2.1 q, e13 q, im q⟩
  have one : r_Mo_numbers_220 h 25 (nI k) (g 6) y3 (nI d) a a' e f (pw_isOf32 g) 1 = some (mgv (ja_sI h 25 16 0) 1024 d (1, ar_reck (g 0) a e, ar_reck (g 0) a e)) := by
    simp only [r_Mo_numbers_220, r_Mo_numbers_256, jlE, jpZ_25 b (Or.inl rfl), if_neg i10, if_neg n11, jk_25 b1, mo_mach (h := ja_sI h 25 16 0) (a := a) b1 hk h0 kk.2.2.2 mk, jcL, mo_933 b1 hd]
  have many : ∃ w, r_Mo_numbers_220 h 25 (nI k) (g 6) y3 (nI d) a a' e f (pw_isOf32 g) 0 = some (mgv (ja_sI h 25 16 w) 1024 d (pn_r53 g (1, a, a') (1, e, f))) := by
    have w0 : (ja_sI h 25 16 0).2.1 25 16 = 0 := by rw [ja_rI, if_pos ⟨rfl, rfl⟩]
    have sp : (pn_spans g a a' e f).1 = 1 := pn_spans_1
    have fr : fin (pw_isOf32 g) (pn_spans g a a' e f).2.1 (pn_spans g a a' e f).2.2 = pn_r53 g (1, a, a') (1, e, f) := fin_r53 (u := (1, a, a')) (v := (1, e, f)) sp
    simp only [r_Mo_numbers_220, jlE, jpZ_25 b (Or.inl rfl), if_true]
    by_cases z : y3 = 0
    · have z4 := y30.mp z
      rw [if_pos z]
      obtain ⟨w, hw⟩ := mo_283 (h := ja_sI h 25 16 0) (z0 := 31) (y3 := y3) b1 hd hk w0 kk h4 im (fun q => by rw [if_neg ((o32 q).mp z4)]) (fun q => y30.trans (o32 q)) ab ef
      rw [ja_sI_sI, fr] at hw
      exact ⟨w, hw⟩
    · have z4 : ¬ g 0 &&& 7 = 4 := fun q => z (y30.mpr q)
      rw [if_neg z]
      obtain ⟨w, hw⟩ := mo_283 (h := ja_sI h 25 16 0) (z0 := 63) (y3 := y3) b1 hd hk w0 kk h4 im (fun q => by rw [if_pos (Classical.byContradiction (fun n => z4 ((o32 q).mpr n)))]) (fun q => y30.trans (o32 q)) ab ef
      rw [ja_sI_sI, fr] at hw
      exact ⟨w, hw⟩
  unfold pn_r15 pn_one
  simp only [r_Mo_numbers_149, r_Mo_numbers_183, r_Mo_numbers_219, if_neg n11]
  by_cases c1 : a = a'
  · by_cases c2 : e = f
    · simp only [if_pos c1, if_pos c2, if_neg i10]
      refine ⟨0, ?_⟩
      split
      · exact one
      · split <;> exact one
    · have n8 : ¬ g 6 = 8 := fun q => c2 (e8 (Or.inl q))
      have n13 : ¬ g 6 = 13 := fun q => c2 (e8 (Or.inr q))
      simp only [if_pos c1, if_neg c2, if_neg i10, if_true, if_neg n8, if_neg n13]
      exact many
  · simp only [if_neg c1, if_true, ite_self]
    exact many
theorem pn_t32_e {v : pv_T} (v1 : v.1 = 1) : pn_t32 o v = (1, (pn_t32 o v).2.1, (pn_t32 o v).2.2) := by
  unfold pn_t32 pn_low
  have e : v = (1, v.2.1, v.2.2) := by rw [← v1]
  split
  · exact e
  · split
    · split
      · rfl
      · exact e
    · rfl
theorem pn_low_v {u v : Int64} : pn_low (1, u, v) = if u = v then (1, u &&& 4294967295, u &&& 4294967295) else if u < 0 then (1, 0, 4294967295) else if v ≤ 4294967295 then (1, u, v) else (1, 0, 4294967295) := by
  unfold pn_low pn_one pn_in
  by_cases c1 : u = v
  · simp only [if_pos c1, if_neg i10]
  · by_cases c2 : u < 0
    · simp only [if_neg c1, if_pos c2, if_true]
    · by_cases c3 : v ≤ 4294967295
      · have c4 : ¬ 4294967295 < v := by
          rw [ai_le] at c3
          rw [ai_lt]
          omega
        simp only [if_neg c1, if_neg c2, if_pos c3, if_neg c4, if_true, if_neg i10]
      · have c4 : 4294967295 < v := by
          rw [ai_le] at c3
          rw [ai_lt]
          omega
        simp only [if_neg c1, if_neg c2, if_neg c3, if_pos c4, if_true]
theorem mo_102 {y2 : Int32} : r_Mo_numbers_102 h 25 (nI k) y2 y3 (nI d) a a' e f o = r_Mo_numbers_149 h 25 (nI k) y2 y3 (nI d) a a' (pn_low (1, e, f)).2.1 (pn_low (1, e, f)).2.2 o := by
  simp only [r_Mo_numbers_102, r_Mo_numbers_141, jlE, pn_low_v]
  by_cases c1 : e = f
  · simp only [if_pos c1]
  · by_cases c2 : e < 0
    · simp only [if_neg c1, if_pos c2]
    · by_cases c3 : f ≤ 4294967295
      · simp only [if_neg c1, if_neg c2, if_pos c3]
      · simp only [if_neg c1, if_neg c2, if_neg c3]
theorem mo_48 {y2 : Int32} : r_Mo_numbers_48 h 25 (nI k) y2 y3 (nI d) a a' e f o = r_Mo_numbers_149 h 25 (nI k) y2 y3 (nI d) (pn_t32 o (1, a, a')).2.1 (pn_t32 o (1, a, a')).2.2 (pn_t32 o (1, e, f)).2.1 (pn_t32 o (1, e, f)).2.2 o := by
  simp only [r_Mo_numbers_48, r_Mo_numbers_94, jlE, mo_102]
  unfold pn_t32
  by_cases c0 : o = 0
  · simp only [if_pos c0]
  · simp only [if_neg c0]
    rw [pn_low_v (u := a) (v := a')]
    by_cases c1 : a = a'
    · simp only [if_pos c1]
    · by_cases c2 : a < 0
      · simp only [if_neg c1, if_pos c2]
      · by_cases c3 : a' ≤ 4294967295
        · simp only [if_neg c1, if_neg c2, if_pos c3]
        · simp only [if_neg c1, if_neg c2, if_neg c3]
theorem mo_numbers {l rr : pv_T} (b : jv_B h) (hk : k < 1024) (hd : jw_d (h.2.2.1 26 k) = nI d) (d75 : d < 75) (hl : mv h k d = l) (l1 : l.1 = 1) (r1 : rr.1 = 1) (lo : pv_ok l) (ro : pv_ok rr) (kk : ga_ok g) (h0 : g 0 = jw_op (h.2.2.1 26 k)) (h4 : g 4 = jw_imm (h.2.2.1 26 k)) (im : g 6 = 13 → g 4 = 16 ∨ g 4 = 32 ∨ g 4 = 64) (e8 : g 6 = 8 ∨ g 6 = 13 → rr = (1, (g 4).toInt64, (g 4).toInt64)) (y30 : y3 = 0 ↔ g 0 &&& 7 = 4) : ∃ w, r_Mo_numbers h 25 (nI k) (g 6) y3 rr.2.1 rr.2.2 = some (mgv (ja_sI h 25 16 w) 1024 d (pn_reck g l rr)) := by
  have k26 : k < 1026 := by omega
  have el : l = (1, l.2.1, l.2.2) := by rw [← l1]
  have er : rr = (1, rr.2.1, rr.2.2) := by rw [← r1]
  have o13 : g 6 = 13 → pw_isOf32 g = 0 := fun q => by
    unfold pw_isOf32
    rw [if_pos q, ite_self]
  have oo : (if y3 = 0 then (if g 6 = 13 then (0 : Int32) else 1) else 0) = pw_isOf32 g := by
    unfold pw_isOf32
    by_cases z : y3 = 0
    · rw [if_pos z, if_pos (y30.mp z)]
    · rw [if_neg z, if_neg (fun q => z (y30.mpr q))]
  have st : r_Mo_numbers h 25 (nI k) (g 6) y3 rr.2.1 rr.2.2 = r_Mo_numbers_48 h 25 (nI k) (g 6) y3 (nI d) l.2.1 l.2.2 rr.2.1 rr.2.2 (pw_isOf32 g) := by
    simp only [r_Mo_numbers, r_Mo_numbers_47, jk_25 b, mo_d b hk, hd, mo_least b k26 d75, mo_most b k26 d75, hl, jcI, jcL, jlE, ← oo]
    by_cases z : y3 = 0
    · by_cases q : g 6 = 13
      · simp only [if_pos z, if_pos q]
      · simp only [if_pos z, if_neg q]
    · simp only [if_neg z]
  rw [st, mo_48, ← el, ← er]
  have t1 := pn_t32_e (o := pw_isOf32 g) l1
  have t2 := pn_t32_e (o := pw_isOf32 g) r1
  have ok32 : ∀ v, pv_ok v → v.1 = 1 → pv_ok (pn_t32 (pw_isOf32 g) v) := fun v q1 q2 => by
    unfold pn_t32
    split
    · exact q1
    · exact pn_low_ok q1 q2
  have ab := pv_le (ok32 l lo l1)
  have ef := pv_le (ok32 rr ro r1)
  obtain ⟨w, hw⟩ := mo_149 (y3 := y3) b d75 hk kk h0 h4 im (fun q => by
    unfold pn_t32
    rw [if_pos (o13 q), e8 (Or.inr q)]) (fun q => by
    rw [e8 q]
    unfold pn_t32
    split
    · rfl
    · rw [pn_low_v, if_pos rfl]) y30 ab ef
  refine ⟨w, hw.trans ?_⟩
  unfold pn_reck
  rw [← t1, ← t2]
end MQ
