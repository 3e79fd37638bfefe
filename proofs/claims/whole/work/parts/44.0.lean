section MW
variable {h : ja_H} {k n : Nat} {x : Int32}
theorem mo_op (b : jv_B h) (hk : k < 1024) : r_Mo_op h 25 (nI k) = some (jw_op (h.2.2.1 26 k), h) := by
  simp only [r_Mo_op, jR_25_1 b, jE_26 b (jn_jx hk (by decide)), jn_clamp (show k < 2147483648 by omega)]
  rfl
theorem mo_d (b : jv_B h) (hk : k < 1024) : r_Mo_d h 25 (nI k) = some (jw_d (h.2.2.1 26 k), h) := by
  simp only [r_Mo_d, jR_25_1 b, jE_26 b (jn_jx hk (by decide)), jn_clamp (show k < 2147483648 by omega)]
  rfl
theorem mo_s (b : jv_B h) (hk : k < 1024) : r_Mo_s h 25 (nI k) = some (jw_s (h.2.2.1 26 k), h) := by
  simp only [r_Mo_s, jR_25_1 b, jE_26 b (jn_jx hk (by decide)), jn_clamp (show k < 2147483648 by omega)]
  rfl
theorem mo_off (b : jv_B h) (hk : k < 1024) : r_Mo_off h 25 (nI k) = some (jw_off (h.2.2.1 26 k), h) := by
  simp only [r_Mo_off, jR_25_1 b, jE_26 b (jn_jx hk (by decide)), jn_clamp (show k < 2147483648 by omega)]
  rfl
theorem mo_imm (b : jv_B h) (hk : k < 1024) : r_Mo_imm h 25 (nI k) = some (jw_imm (h.2.2.1 26 k), h) := by
  simp only [r_Mo_imm, jR_25_1 b, jE_26 b (jn_jx hk (by decide)), jn_clamp (show k < 2147483648 by omega)]
  rfl
def mp_reads (x : Int32) : Int32 := if x = 97 then 1 else if x = 105 then 1 else if x = 113 then 1 else if x = 121 then 1 else 0
def mp_stores (x : Int32) : Int32 := if x = 99 then 1 else if x = 107 then 1 else if x = 115 then 1 else if x = 123 then 1 else 0
def mp_sn (x : Int32) : Int32 := if x = 98 then 1 else if x = 106 then 1 else if x = 114 then 1 else if x = 122 then 1 else 0
def mp_sum (x : Int32) : Int32 := if x &&& 7 = 7 then 1 else if x &&& 7 = 4 then 1 else 0
def mp_test (x : Int32) : Int32 := if x = 149 then 0 else if x &&& 7 = 5 then 1 else if x &&& 7 = 6 then 1 else 0
def mp_go (x : Int32) : Int32 := if x = 5 then 1 else 0
def mp_size (x : Int32) : Int32 := if x &&& 24 = 0 then 4 else if x &&& 24 = 8 then 2 else if x &&& 24 = 16 then 1 else 8
theorem mo_reads : r_Mo_reads h x = some (mp_reads x, h) := by
  simp only [r_Mo_reads, r_Mo_reads_24, r_Mo_reads_29, jb0, jb1, mp_reads, pw_ite]
theorem mo_stores : r_Mo_stores h x = some (mp_stores x, h) := by
  simp only [r_Mo_stores, r_Mo_stores_24, r_Mo_stores_29, jb0, jb1, mp_stores, pw_ite]
theorem mo_sn : r_Mo_storesNumber h x = some (mp_sn x, h) := by
  simp only [r_Mo_storesNumber, r_Mo_storesNumber_24, r_Mo_storesNumber_29, jb0, jb1, mp_sn, pw_ite]
theorem mo_sum : r_Mo_sum h x = some (mp_sum x, h) := by
  simp only [r_Mo_sum, r_Mo_sum_17, r_Mo_sum_22, jb0, jb1, mp_sum, pw_ite]
theorem mo_test : r_Mo_test h x = some (mp_test x, h) := by
  simp only [r_Mo_test, r_Mo_test_24, r_Mo_test_28, r_Mo_test_29, jb0, jb1, mp_test, pw_ite]
theorem mo_go : r_Mo_go h x = some (mp_go x, h) := by
  simp only [r_Mo_go, r_Mo_go_10, jb0, jb1, mp_go, pw_ite]
theorem mo_size : r_Mo_size h x = some (mp_size x, h) := by
  simp only [r_Mo_size, r_Mo_size_39, mp_size, pw_ite]
def mp_kd (x : Int32) : Int32 := x >>> (4 &&& 31)
def mp_c (z : Int32) : Int32 := if z < 10 then 0 else if 13 < z then 0 else 1
def mp_isOne (x y : Int32) : Int32 := if mp_reads x = 0 then (if mp_stores x = 0 then (if mp_sn x = 0 then (if x = 24 then 1 else if x = 149 then 1 else if x &&& 7 = 7 then (if (13 : Int32) ≤ x >>> (4 &&& 31) then 0 else if x >>> (4 &&& 31) = 8 then (if x &&& 8 = 0 then 1 else 0) else 1) else if x &&& 7 = 4 then (if (13 : Int32) ≤ x >>> (4 &&& 31) then (if x >>> (4 &&& 31) = 13 then (if y = 16 then 1 else if y = 32 then 1 else if y = 64 then 1 else 0) else 0) else if x >>> (4 &&& 31) = 8 then (if x &&& 8 = 0 then 1 else 0) else 1) else if x &&& 7 = 5 then (if x = 5 then 1 else if x >>> (4 &&& 31) < 1 then mp_c (x >>> (4 &&& 31)) else if x >>> (4 &&& 31) ≤ 7 then 1 else mp_c (x >>> (4 &&& 31))) else if x &&& 7 = 6 then (if x >>> (4 &&& 31) < 1 then mp_c (x >>> (4 &&& 31)) else if x >>> (4 &&& 31) ≤ 7 then 1 else mp_c (x >>> (4 &&& 31))) else 0) else 1) else 1) else 1
theorem mo_isOne (b : jv_B h) (hk : k < 1024) : r_Mo_isOne h 25 (nI k) = some (mp_isOne (jw_op (h.2.2.1 26 k)) (jw_imm (h.2.2.1 26 k)), h) := by
  simp only [r_Mo_isOne, r_Mo_isOne_236, r_Mo_isOne_235, r_Mo_isOne_231, r_Mo_isOne_219, r_Mo_isOne_198, r_Mo_isOne_197, r_Mo_isOne_193, r_Mo_isOne_181, r_Mo_isOne_156, r_Mo_isOne_155, r_Mo_isOne_151, r_Mo_isOne_107, r_Mo_isOne_79, r_Mo_isOne_78, r_Mo_isOne_74, r_Mo_isOne_44, jk_25 b, mo_op b hk, mo_imm b hk, jcI, jlE, mo_reads, mo_stores, mo_sn, jb0, jb1, mp_isOne, mp_c, pw_ite]
def mp_usesS (x : Int32) : Int32 := if mp_sum x = 0 then (if mp_test x = 0 then (if mp_reads x = 0 then (if mp_stores x = 0 then 0 else 1) else 1) else (if mp_go x = 0 then (if x &&& 8 = 0 then 0 else 1) else 0)) else (if x >>> (4 &&& 31) = 13 then 0 else if x &&& 8 = 0 then 0 else 1)
def mp_usesD (x : Int32) : Int32 := if mp_sum x = 0 then (if mp_test x = 0 then (if mp_stores x = 0 then (if mp_sn x = 0 then 0 else 1) else 1) else (if mp_go x = 0 then 1 else 0)) else (if x >>> (4 &&& 31) = 11 then 0 else 1)
def mp_getsD (x : Int32) : Int32 := if mp_sum x = 0 then (if mp_reads x = 0 then (if x = 24 then 1 else 0) else 1) else 1
theorem mo_usesS (b : jv_B h) (hk : k < 1024) : r_Mo_usesS h 25 (nI k) = some (mp_usesS (jw_op (h.2.2.1 26 k)), h) := by
  simp only [r_Mo_usesS, r_Mo_usesS_80, r_Mo_usesS_75, r_Mo_usesS_60, r_Mo_usesS_59, r_Mo_usesS_33, r_Mo_usesS_32, jk_25 b, mo_op b hk, jcI, jlE, mo_sum, mo_test, mo_reads, mo_stores, mo_go, jb0, jb1, mp_usesS, pw_ite]
theorem mo_usesD (b : jv_B h) (hk : k < 1024) : r_Mo_usesD h 25 (nI k) = some (mp_usesD (jw_op (h.2.2.1 26 k)), h) := by
  simp only [r_Mo_usesD, r_Mo_usesD_68, r_Mo_usesD_63, r_Mo_usesD_26, jk_25 b, mo_op b hk, jcI, jlE, mo_sum, mo_test, mo_stores, mo_sn, mo_go, jb0, jb1, mp_usesD, pw_ite]
theorem mo_getsD (b : jv_B h) (hk : k < 1024) : r_Mo_getsD h 25 (nI k) = some (mp_getsD (jw_op (h.2.2.1 26 k)), h) := by
  simp only [r_Mo_getsD, r_Mo_getsD_37, r_Mo_getsD_32, jk_25 b, mo_op b hk, jcI, mo_sum, mo_reads, jb0, jb1, mp_getsD, pw_ite]
def so (x : Int32) : Int32 := pw_s3 x 16 (x >>> (4 &&& 31))
def mg (x : Int32) : Nat → Int32 := fun b => if b = 0 then x else if b = 5 then so x else x >>> (4 &&& 31)
def mt_ok (x : Int32) : Bool := decide ((so x = 0 ∨ (mp_usesS x = pw_usesS (mg x) ∧ mp_usesD x = pw_usesOldD (mg x) ∧ mp_getsD x = pw_getsD (mg x))) ∧ (pw_s3 x 0 (x >>> (4 &&& 31)) = 0 ∨ pw_s3 x 0 (x >>> (4 &&& 31)) = so x) ∧ pw_s3 x 32 (x >>> (4 &&& 31)) = so x ∧ pw_s3 x 64 (x >>> (4 &&& 31)) = so x ∧ mp_isOne x 0 = (if pw_s3 x 0 (x >>> (4 &&& 31)) = 0 then 0 else 1) ∧ mp_isOne x 16 = (if so x = 0 then 0 else 1) ∧ mp_isOne x 32 = (if so x = 0 then 0 else 1) ∧ mp_isOne x 64 = (if so x = 0 then 0 else 1))
theorem mt_all : ∀ i : Fin 256, mt_ok (nI i.val) = true := by decide +kernel
theorem mp_one_y {y : Int32} (n1 : ¬ y = 16) (n2 : ¬ y = 32) (n3 : ¬ y = 64) : mp_isOne x y = mp_isOne x 0 := by
  have m1 : ¬ (0 : Int32) = 16 := by decide
  have m2 : ¬ (0 : Int32) = 32 := by decide
  have m3 : ¬ (0 : Int32) = 64 := by decide
  simp only [mp_isOne, if_neg n1, if_neg n2, if_neg n3, if_neg m1, if_neg m2, if_neg m3]
theorem mt_w (w : Int64) : mp_isOne (jw_op w) (jw_imm w) = (if jw_f w 5 = 0 then 0 else 1) ∧ (jw_f w 5 ≠ 0 → jw_f w 5 = so (jw_op w) ∧ mp_usesS (jw_op w) = pw_usesS (jw_f w) ∧ mp_usesD (jw_op w) = pw_usesOldD (jw_f w) ∧ mp_getsD (jw_op w) = pw_getsD (jw_f w)) := by
  obtain ⟨i, hi⟩ := jw_op_n w
  have t := mt_all i
  rw [← hi] at t
  unfold mt_ok at t
  obtain ⟨t1, t2, t3, t4, t5, t6, t7, t8⟩ := of_decide_eq_true t
  have e : mp_isOne (jw_op w) (jw_imm w) = (if jw_f w 5 = 0 then 0 else 1) ∧ (jw_f w 5 ≠ 0 → jw_f w 5 = so (jw_op w)) := by
    rw [jw_f5]
    by_cases y1 : jw_imm w = 16
    · rw [y1]
      exact ⟨t6, fun _ => rfl⟩
    · by_cases y2 : jw_imm w = 32
      · rw [y2, t3]
        exact ⟨t7, fun _ => rfl⟩
      · by_cases y3 : jw_imm w = 64
        · rw [y3, t4]
          exact ⟨t8, fun _ => rfl⟩
        · rw [s3_y y1 y2 y3, mp_one_y y1 y2 y3]
          refine ⟨t5, fun q => ?_⟩
          rcases t2 with r | r
          · exact absurd r q
          · exact r
  refine ⟨e.1, fun q => ?_⟩
  have s := e.2 q
  have f0 : jw_f w 0 = jw_op w := rfl
  have f6 : jw_f w 6 = jw_op w >>> (4 &&& 31) := rfl
  have g0 : mg (jw_op w) 0 = jw_op w := rfl
  have g5 : mg (jw_op w) 5 = so (jw_op w) := rfl
  have g6 : mg (jw_op w) 6 = jw_op w >>> (4 &&& 31) := rfl
  rcases t1 with r | ⟨r1, r2, r3⟩
  · rw [s] at q
    exact absurd r q
  · refine ⟨s, r1.trans ?_, r2.trans ?_, r3.trans ?_⟩
    · simp only [pw_usesS, pw_hasReg, f0, f6, g0, g5, g6, s]
    · simp only [pw_usesOldD, pw_stores, f6, g5, g6, s]
    · simp only [pw_getsD, g5, s]
theorem mt_1 : ∀ i : Fin 256, so (nI i.val) = 1 → mp_reads (nI i.val) = 0 ∧ mp_stores (nI i.val) = 0 ∧ mp_sn (nI i.val) = 0 ∧ mp_sum (nI i.val) = 1 ∧ mp_test (nI i.val) = 0 ∧ mp_go (nI i.val) = 0 ∧ ¬ nI i.val = 24 ∧ ¬ nI i.val = 149 := by decide +kernel
theorem mt_2 : ∀ i : Fin 256, so (nI i.val) = 2 → mp_reads (nI i.val) = 0 ∧ mp_stores (nI i.val) = 0 ∧ mp_sn (nI i.val) = 0 ∧ mp_sum (nI i.val) = 0 ∧ mp_test (nI i.val) = 1 ∧ mp_go (nI i.val) = 0 ∧ ¬ nI i.val = 24 ∧ ¬ nI i.val = 149 := by decide +kernel
theorem mt_3 : ∀ i : Fin 256, so (nI i.val) = 3 → mp_reads (nI i.val) = 1 ∧ mp_stores (nI i.val) = 0 ∧ mp_sn (nI i.val) = 0 ∧ mp_sum (nI i.val) = 0 ∧ mp_test (nI i.val) = 0 ∧ mp_go (nI i.val) = 0 ∧ ¬ nI i.val = 24 ∧ ¬ nI i.val = 149 := by decide +kernel
theorem mt_4 : ∀ i : Fin 256, so (nI i.val) = 4 → mp_reads (nI i.val) = 0 ∧ mp_stores (nI i.val) = 0 ∧ mp_sn (nI i.val) = 1 ∧ mp_sum (nI i.val) = 0 ∧ mp_test (nI i.val) = 0 ∧ mp_go (nI i.val) = 0 ∧ ¬ nI i.val = 24 ∧ ¬ nI i.val = 149 := by decide +kernel
theorem mt_5 : ∀ i : Fin 256, so (nI i.val) = 5 → mp_reads (nI i.val) = 0 ∧ mp_stores (nI i.val) = 1 ∧ mp_sn (nI i.val) = 0 ∧ mp_sum (nI i.val) = 0 ∧ mp_test (nI i.val) = 0 ∧ mp_go (nI i.val) = 0 ∧ ¬ nI i.val = 24 ∧ ¬ nI i.val = 149 := by decide +kernel
theorem mt_6 : ∀ i : Fin 256, so (nI i.val) = 6 → mp_reads (nI i.val) = 0 ∧ mp_stores (nI i.val) = 0 ∧ mp_sn (nI i.val) = 0 ∧ mp_sum (nI i.val) = 0 ∧ mp_test (nI i.val) = 1 ∧ mp_go (nI i.val) = 1 ∧ ¬ nI i.val = 24 ∧ ¬ nI i.val = 149 := by decide +kernel
theorem mt_7 : ∀ i : Fin 256, so (nI i.val) = 7 → mp_reads (nI i.val) = 0 ∧ mp_stores (nI i.val) = 0 ∧ mp_sn (nI i.val) = 0 ∧ mp_sum (nI i.val) = 0 ∧ mp_test (nI i.val) = 0 ∧ mp_go (nI i.val) = 0 ∧ nI i.val = 24 ∧ ¬ nI i.val = 149 := by decide +kernel
theorem mt_8 : ∀ i : Fin 256, so (nI i.val) = 8 → mp_reads (nI i.val) = 0 ∧ mp_stores (nI i.val) = 0 ∧ mp_sn (nI i.val) = 0 ∧ mp_sum (nI i.val) = 0 ∧ mp_test (nI i.val) = 0 ∧ mp_go (nI i.val) = 0 ∧ ¬ nI i.val = 24 ∧ nI i.val = 149 := by decide +kernel
theorem mt_i {w : Int64} {P : Int32 → Prop} (h : ∀ i : Fin 256, P (nI i.val)) : P (jw_op w) := by
  obtain ⟨i, hi⟩ := jw_op_n w
  rw [hi]
  exact h i
def mf_301 (n k : Nat) (x : Int32) : Int32 := if x = 149 then 0 else if nI k + (if x = 24 then 2 else 1) < nI n then 0 else 4
def mf_283 (n k : Nat) (x : Int32) : Int32 := if x = 24 then (if nI k + 1 < nI n then mf_301 n k x else 4) else mf_301 n k x
def mf_234 (s : Nat → Int32) (n k : Nat) (x off : Int32) : Int32 := if mp_test x = 0 then mf_283 n k x else if 0 ≤ off then (if nI n ≤ nI k + 1 + off then 4 else if s (nI k + 1 + off).toNatClampNeg = 0 then mf_283 n k x else 4) else 5
def mf_199 (s : Nat → Int32) (W : Nat → Int64) (n k : Nat) (x off : Int32) : Int32 := if x = 24 then (if nI n ≤ nI k + 1 then mf_234 s n k x off else if W (k + 1) &&& 4294967295 = 0 then mf_234 s n k x off else 3) else mf_234 s n k x off
def mf_189 (P off : Int32) : Int32 := if off = 0 then P else 3
def mf_169 (P x off : Int32) : Int32 := if mp_sum x = 0 then (if x = 24 then mf_189 P off else if x = 149 then mf_189 P off else P) else mf_189 P off
def mf_161 (P x d off : Int32) : Int32 := if d = 0 then mf_169 P x off else 3
def mf_147 (P x d off : Int32) : Int32 := if mp_go x = 0 then (if x = 149 then mf_161 P x d off else mf_169 P x off) else mf_161 P x d off
def mf_131 (P x d s off : Int32) : Int32 := if mp_usesS x = 0 then (if s = 0 then mf_147 P x d off else 3) else mf_147 P x d off
def mf_118 (P x d s off imm z : Int32) : Int32 := if z = 0 then mf_131 P x d s off else if imm = 0 then mf_131 P x d s off else 3
def mf_106 (P x d s off imm : Int32) : Int32 := if x &&& 8 = 0 then mf_118 P x d s off imm 0 else mf_118 P x d s off imm 1
def mf_99 (P x d s off imm : Int32) : Int32 := if mp_test x = 0 then mf_118 P x d s off imm 0 else mf_106 P x d s off imm
def mf_56 (P x d s off imm : Int32) : Int32 := if x = 149 then mf_118 P x d s off imm 1 else if mp_go x = 0 then (if mp_reads x = 0 then (if mp_stores x = 0 then (if mp_sum x = 0 then mf_99 P x d s off imm else if x >>> (4 &&& 31) = 13 then mf_99 P x d s off imm else mf_106 P x d s off imm) else mf_118 P x d s off imm 1) else mf_118 P x d s off imm 1) else mf_118 P x d s off imm 1
theorem mo_f301 (b : jv_B h) (hn : h.2.1 25 2 = nI n) : r_Mo_form_301 h 25 (nI k) x = some (mf_301 n k x, h) := by
  simp only [r_Mo_form_301, r_Mo_form_320, r_Mo_form_332, r_Mo_form_333, jI_25 b, hn, mf_301, pw_ite]
  by_cases c : x = 24
  · simp only [if_pos c]
  · simp only [if_neg c]
theorem mo_f283 (b : jv_B h) (hn : h.2.1 25 2 = nI n) : r_Mo_form_283 h 25 (nI k) x = some (mf_283 n k x, h) := by
  simp only [r_Mo_form_283, mo_f301 b hn, jI_25 b, hn, mf_283, pw_ite]
theorem mo_f234 (b : jv_B h) (hn : h.2.1 25 2 = nI n) (n1 : n ≤ 1024) (hk : k < 1024) : r_Mo_form_234 h 25 (nI k) x = some (mf_234 (h.2.1 27) n k x (jw_off (h.2.2.1 26 k)), h) := by
  simp only [r_Mo_form_234, r_Mo_form_281, mo_test, jcI, jk_25 b, mo_off b hk, jlE, jI_25 b, hn, mo_f283 b hn, mf_234]
  by_cases c1 : mp_test x = 0
  · simp only [if_pos c1]
  · simp only [if_neg c1]
    by_cases c2 : 0 ≤ jw_off (h.2.2.1 26 k)
    · simp only [if_pos c2]
      by_cases c3 : nI n ≤ nI k + 1 + jw_off (h.2.2.1 26 k)
      · simp only [if_pos c3]
      · have j1 : jx (nI k + 1 + jw_off (h.2.2.1 26 k)) 1025 := by
          obtain ⟨e1, e2⟩ := jn_of c2
          have o := jw_off_n (h.2.2.1 26 k)
          have o2 : ((jw_off (h.2.2.1 26 k)).toNatClampNeg : Int) = (jw_off (h.2.2.1 26 k)).toInt := by
            rw [← jn_int e2, ← e1]
          rw [e1, lq_ad1, jn_add] at c3 ⊢
          rw [jn_le (by omega) (by omega)] at c3
          exact jn_jx (by omega) (by decide)
        simp only [if_neg c3, jR_25_3 b, jE_27 b j1, pw_ite]
    · simp only [if_neg c2]
theorem mo_f199 (b : jv_B h) (hn : h.2.1 25 2 = nI n) (n1 : n ≤ 1024) (hk : k < n) : r_Mo_form_199 h 25 (nI k) x = some (mf_199 (h.2.1 27) (h.2.2.1 26) n k x (jw_off (h.2.2.1 26 k)), h) := by
  simp only [r_Mo_form_199, mo_f234 b hn n1 (show k < 1024 by omega), jI_25 b, hn, mf_199]
  by_cases c1 : x = 24
  · simp only [if_pos c1]
    by_cases c2 : nI n ≤ nI k + 1
    · simp only [if_pos c2]
    · have j1 : k + 1 < 1024 := by
        rw [lq_ad1, jn_le (by omega) (by omega)] at c2
        omega
      simp only [if_neg c2, lq_ad1, jR_25_1 b, jE_26 b (jn_jx j1 (by decide)), jn_clamp (show k + 1 < 2147483648 by omega), pw_ite]
  · simp only [if_neg c1]
theorem mo_f189 (b : jv_B h) (hn : h.2.1 25 2 = nI n) (n1 : n ≤ 1024) (hk : k < n) : r_Mo_form_189 h 25 (nI k) x = some (mf_189 (mf_199 (h.2.1 27) (h.2.2.1 26) n k x (jw_off (h.2.2.1 26 k))) (jw_off (h.2.2.1 26 k)), h) := by
  simp only [r_Mo_form_189, r_Mo_form_197, mo_f199 b hn n1 hk, jk_25 b, mo_off b (show k < 1024 by omega), jcI, mf_189, pw_ite]
theorem mo_f56 (b : jv_B h) (hn : h.2.1 25 2 = nI n) (n1 : n ≤ 1024) (hk : k < n) : r_Mo_form_56 h 25 (nI k) (jw_op (h.2.2.1 26 k)) = some (mf_56 (mf_199 (h.2.1 27) (h.2.2.1 26) n k (jw_op (h.2.2.1 26 k)) (jw_off (h.2.2.1 26 k))) (jw_op (h.2.2.1 26 k)) (jw_d (h.2.2.1 26 k)) (jw_s (h.2.2.1 26 k)) (jw_off (h.2.2.1 26 k)) (jw_imm (h.2.2.1 26 k)), h) := by
  have hk' : k < 1024 := by omega
  simp only [r_Mo_form_56, r_Mo_form_99, r_Mo_form_106, r_Mo_form_113, r_Mo_form_117, r_Mo_form_118, r_Mo_form_131, r_Mo_form_147, r_Mo_form_161, r_Mo_form_169, r_Mo_form_197, mo_f189 b hn n1 hk, mo_f199 b hn n1 hk, mo_go, mo_reads, mo_stores, mo_sum, mo_test, mo_usesS b hk', mo_s b hk', mo_d b hk', mo_imm b hk', jk_25 b, jcI, jlE, if_true, if_neg i10, mf_56, mf_99, mf_106, mf_118, mf_131, mf_147, mf_161, mf_169, pw_ite]
theorem pf_60_e {f : Nat → Int32} {nx : Int64} {last goal : Int32} {P : Int32} (hP : P = if f 5 = 7 then (if nx &&& 4294967295 = 0 then pf_97 f last goal else 3) else pf_97 f last goal) : pf_60 f nx last goal = if pf_u f = 0 then P else 3 := by
  subst hP
  rfl
theorem pf_ue {f : Nat → Int32} {P : Int32} : (if pf_u f = 0 then P else 3) = (if f 4 = 0 then (if pf_u20 f = 0 then P else 3) else if pw_usesImm f = 0 then 3 else (if pf_u20 f = 0 then P else 3)) := by
  unfold pf_u
  by_cases a : f 4 = 0
  · simp only [if_pos a]
  · by_cases c : pw_usesImm f = 0
    · simp only [if_neg a, if_pos c, if_neg i10]
    · simp only [if_neg a, if_neg c]
theorem pf_u2e {f : Nat → Int32} {P : Int32} : (if pf_u20 f = 0 then P else 3) = (if f 2 = 0 then (if pf_u40 f = 0 then P else 3) else if pw_usesS f = 0 then 3 else (if pf_u40 f = 0 then P else 3)) := by
  unfold pf_u20
  by_cases a : f 2 = 0
  · simp only [if_pos a]
  · by_cases c : pw_usesS f = 0
    · simp only [if_neg a, if_pos c, if_neg i10]
    · simp only [if_neg a, if_neg c]
theorem pf_u4e {f : Nat → Int32} {P : Int32} : (if pf_u40 f = 0 then P else 3) = (if f 1 = 0 then (if pf_u60 f = 0 then P else 3) else if pw_usesD f = 0 then 3 else (if pf_u60 f = 0 then P else 3)) := by
  unfold pf_u40
  by_cases a : f 1 = 0
  · simp only [if_pos a]
  · by_cases c : pw_usesD f = 0
    · simp only [if_neg a, if_pos c, if_neg i10]
    · simp only [if_neg a, if_neg c]
theorem pf_u6e {f : Nat → Int32} {P : Int32} : (if pf_u60 f = 0 then P else 3) = (if f 3 = 0 then P else if pw_usesOff f = 0 then 3 else P) := by
  unfold pf_u60
  by_cases a : f 3 = 0
  · simp only [if_pos a, if_true]
  · by_cases c : pw_usesOff f = 0
    · simp only [if_neg a, if_pos c, if_neg i10]
    · simp only [if_neg a, if_neg c, if_true]
theorem pf_sw {a : Prop} [Decidable a] {P Q : Int32} : (if a then P else Q) = if ¬ a then Q else P := by
  by_cases c : a
  · rw [if_pos c, if_neg (fun q => q c)]
  · rw [if_neg c, if_pos c]
end MW
