section MF
variable {h : ja_H} {k n : Nat} {w : Int64} {P : Int32} {s : Nat → Int32} {W : Nat → Int64}
theorem mf_k1 (e : jw_f w 5 = 1) : mf_56 P (jw_op w) (jw_d w) (jw_s w) (jw_off w) (jw_imm w) = if pf_u (jw_f w) = 0 then P else 3 := by
  have q := (mt_w w).2 (by rw [e]; decide)
  obtain ⟨i, hi⟩ := jw_op_n w
  have T := mt_1 i (by rw [← hi, ← q.1]; exact e)
  rw [← hi] at T
  obtain ⟨a1, a2, a3, a4, a5, a6, a7, a8⟩ := T
  have u1 : mp_usesS (jw_op w) = if jw_op w >>> (4 &&& 31) = 13 then 0 else if jw_op w &&& 8 = 0 then 0 else 1 := by
    simp (decide := true) only [mp_usesS, a1, a2, a4, a5, a6, reduceIte]
  have u2 : pw_usesS (jw_f w) = if jw_op w >>> (4 &&& 31) = 13 then 0 else if jw_op w &&& 8 = 0 then 0 else 1 := by rw [← q.2.1, u1]
  have z1 : pw_usesD (jw_f w) = 1 := by simp (decide := true) only [pw_usesD, e, reduceIte]
  have z2 : pw_usesOff (jw_f w) = 0 := by simp (decide := true) only [pw_usesOff, e, reduceIte]
  have z3 : pw_usesImm (jw_f w) = if pw_usesS (jw_f w) = 0 then 1 else 0 := by simp (decide := true) only [pw_usesImm, e, reduceIte, ite_self]
  have f1 : jw_f w 1 = jw_d w := rfl
  have f2 : jw_f w 2 = jw_s w := rfl
  have f3 : jw_f w 3 = jw_off w := rfl
  have f4 : jw_f w 4 = jw_imm w := rfl
  rw [pf_ue, pf_u2e, pf_u4e, pf_u6e, z3, z1, z2, u2, f1, f2, f3, f4]
  simp (decide := true) only [mf_56, mf_99, mf_106, mf_118, mf_131, mf_147, mf_161, mf_169, mf_189, a1, a2, a4, a5, a6, a7, a8, u1, reduceIte]
  by_cases k8 : jw_op w &&& 8 = 0 <;> by_cases k13 : jw_op w >>> (4 &&& 31) = 13 <;> by_cases i0 : jw_imm w = 0 <;> by_cases s0 : jw_s w = 0 <;> by_cases d0 : jw_d w = 0 <;> by_cases o0 : jw_off w = 0 <;> simp (decide := true) only [k8, k13, i0, s0, d0, o0, reduceIte]
theorem mf_k2 (e : jw_f w 5 = 2) : mf_56 P (jw_op w) (jw_d w) (jw_s w) (jw_off w) (jw_imm w) = if pf_u (jw_f w) = 0 then P else 3 := by
  have q := (mt_w w).2 (by rw [e]; decide)
  obtain ⟨i, hi⟩ := jw_op_n w
  have T := mt_2 i (by rw [← hi, ← q.1]; exact e)
  rw [← hi] at T
  obtain ⟨a1, a2, a3, a4, a5, a6, a7, a8⟩ := T
  have u1 : mp_usesS (jw_op w) = if jw_op w &&& 8 = 0 then 0 else 1 := by
    simp (decide := true) only [mp_usesS, a1, a2, a4, a5, a6, reduceIte]
  have u2 : pw_usesS (jw_f w) = if jw_op w &&& 8 = 0 then 0 else 1 := by rw [← q.2.1, u1]
  have z1 : pw_usesD (jw_f w) = 1 := by simp (decide := true) only [pw_usesD, e, reduceIte]
  have z2 : pw_usesOff (jw_f w) = 1 := by simp (decide := true) only [pw_usesOff, e, reduceIte]
  have z3 : pw_usesImm (jw_f w) = if pw_usesS (jw_f w) = 0 then 1 else 0 := by simp (decide := true) only [pw_usesImm, e, reduceIte, ite_self]
  have f1 : jw_f w 1 = jw_d w := rfl
  have f2 : jw_f w 2 = jw_s w := rfl
  have f3 : jw_f w 3 = jw_off w := rfl
  have f4 : jw_f w 4 = jw_imm w := rfl
  rw [pf_ue, pf_u2e, pf_u4e, pf_u6e, z3, z1, z2, u2, f1, f2, f3, f4]
  simp (decide := true) only [mf_56, mf_99, mf_106, mf_118, mf_131, mf_147, mf_161, mf_169, mf_189, a1, a2, a4, a5, a6, a7, a8, u1, reduceIte]
  by_cases k8 : jw_op w &&& 8 = 0 <;> by_cases i0 : jw_imm w = 0 <;> by_cases s0 : jw_s w = 0 <;> by_cases d0 : jw_d w = 0 <;> by_cases o0 : jw_off w = 0 <;> simp (decide := true) only [k8, i0, s0, d0, o0, reduceIte]
theorem mf_k3 (e : jw_f w 5 = 3) : mf_56 P (jw_op w) (jw_d w) (jw_s w) (jw_off w) (jw_imm w) = if pf_u (jw_f w) = 0 then P else 3 := by
  have q := (mt_w w).2 (by rw [e]; decide)
  obtain ⟨i, hi⟩ := jw_op_n w
  have T := mt_3 i (by rw [← hi, ← q.1]; exact e)
  rw [← hi] at T
  obtain ⟨a1, a2, a3, a4, a5, a6, a7, a8⟩ := T
  have u1 : mp_usesS (jw_op w) = 1 := by
    simp (decide := true) only [mp_usesS, a1, a2, a4, a5, a6, reduceIte]
  have u2 : pw_usesS (jw_f w) = 1 := by rw [← q.2.1, u1]
  have z1 : pw_usesD (jw_f w) = 1 := by simp (decide := true) only [pw_usesD, e, reduceIte]
  have z2 : pw_usesOff (jw_f w) = 1 := by simp (decide := true) only [pw_usesOff, e, reduceIte]
  have z3 : pw_usesImm (jw_f w) = if pw_usesS (jw_f w) = 0 then 1 else 0 := by simp (decide := true) only [pw_usesImm, e, reduceIte, ite_self]
  have f1 : jw_f w 1 = jw_d w := rfl
  have f2 : jw_f w 2 = jw_s w := rfl
  have f3 : jw_f w 3 = jw_off w := rfl
  have f4 : jw_f w 4 = jw_imm w := rfl
  rw [pf_ue, pf_u2e, pf_u4e, pf_u6e, z3, z1, z2, u2, f1, f2, f3, f4]
  simp (decide := true) only [mf_56, mf_99, mf_106, mf_118, mf_131, mf_147, mf_161, mf_169, mf_189, a1, a2, a4, a5, a6, a7, a8, u1, reduceIte]
  by_cases i0 : jw_imm w = 0 <;> by_cases s0 : jw_s w = 0 <;> by_cases d0 : jw_d w = 0 <;> by_cases o0 : jw_off w = 0 <;> simp (decide := true) only [i0, s0, d0, o0, reduceIte]
theorem mf_k4 (e : jw_f w 5 = 4) : mf_56 P (jw_op w) (jw_d w) (jw_s w) (jw_off w) (jw_imm w) = if pf_u (jw_f w) = 0 then P else 3 := by
  have q := (mt_w w).2 (by rw [e]; decide)
  obtain ⟨i, hi⟩ := jw_op_n w
  have T := mt_4 i (by rw [← hi, ← q.1]; exact e)
  rw [← hi] at T
  obtain ⟨a1, a2, a3, a4, a5, a6, a7, a8⟩ := T
  have u1 : mp_usesS (jw_op w) = 0 := by
    simp (decide := true) only [mp_usesS, a1, a2, a4, a5, a6, reduceIte]
  have u2 : pw_usesS (jw_f w) = 0 := by rw [← q.2.1, u1]
  have z1 : pw_usesD (jw_f w) = 1 := by simp (decide := true) only [pw_usesD, e, reduceIte]
  have z2 : pw_usesOff (jw_f w) = 1 := by simp (decide := true) only [pw_usesOff, e, reduceIte]
  have z3 : pw_usesImm (jw_f w) = if pw_usesS (jw_f w) = 0 then 1 else 0 := by simp (decide := true) only [pw_usesImm, e, reduceIte, ite_self]
  have f1 : jw_f w 1 = jw_d w := rfl
  have f2 : jw_f w 2 = jw_s w := rfl
  have f3 : jw_f w 3 = jw_off w := rfl
  have f4 : jw_f w 4 = jw_imm w := rfl
  rw [pf_ue, pf_u2e, pf_u4e, pf_u6e, z3, z1, z2, u2, f1, f2, f3, f4]
  simp (decide := true) only [mf_56, mf_99, mf_106, mf_118, mf_131, mf_147, mf_161, mf_169, mf_189, a1, a2, a4, a5, a6, a7, a8, u1, reduceIte]
  by_cases i0 : jw_imm w = 0 <;> by_cases s0 : jw_s w = 0 <;> by_cases d0 : jw_d w = 0 <;> by_cases o0 : jw_off w = 0 <;> simp (decide := true) only [i0, s0, d0, o0, reduceIte]
theorem mf_k5 (e : jw_f w 5 = 5) : mf_56 P (jw_op w) (jw_d w) (jw_s w) (jw_off w) (jw_imm w) = if pf_u (jw_f w) = 0 then P else 3 := by
  have q := (mt_w w).2 (by rw [e]; decide)
  obtain ⟨i, hi⟩ := jw_op_n w
  have T := mt_5 i (by rw [← hi, ← q.1]; exact e)
  rw [← hi] at T
  obtain ⟨a1, a2, a3, a4, a5, a6, a7, a8⟩ := T
  have u1 : mp_usesS (jw_op w) = 1 := by
    simp (decide := true) only [mp_usesS, a1, a2, a4, a5, a6, reduceIte]
  have u2 : pw_usesS (jw_f w) = 1 := by rw [← q.2.1, u1]
  have z1 : pw_usesD (jw_f w) = 1 := by simp (decide := true) only [pw_usesD, e, reduceIte]
  have z2 : pw_usesOff (jw_f w) = 1 := by simp (decide := true) only [pw_usesOff, e, reduceIte]
  have z3 : pw_usesImm (jw_f w) = if pw_usesS (jw_f w) = 0 then 1 else 0 := by simp (decide := true) only [pw_usesImm, e, reduceIte, ite_self]
  have f1 : jw_f w 1 = jw_d w := rfl
  have f2 : jw_f w 2 = jw_s w := rfl
  have f3 : jw_f w 3 = jw_off w := rfl
  have f4 : jw_f w 4 = jw_imm w := rfl
  rw [pf_ue, pf_u2e, pf_u4e, pf_u6e, z3, z1, z2, u2, f1, f2, f3, f4]
  simp (decide := true) only [mf_56, mf_99, mf_106, mf_118, mf_131, mf_147, mf_161, mf_169, mf_189, a1, a2, a4, a5, a6, a7, a8, u1, reduceIte]
  by_cases i0 : jw_imm w = 0 <;> by_cases s0 : jw_s w = 0 <;> by_cases d0 : jw_d w = 0 <;> by_cases o0 : jw_off w = 0 <;> simp (decide := true) only [i0, s0, d0, o0, reduceIte]
theorem mf_k6 (e : jw_f w 5 = 6) : mf_56 P (jw_op w) (jw_d w) (jw_s w) (jw_off w) (jw_imm w) = if pf_u (jw_f w) = 0 then P else 3 := by
  have q := (mt_w w).2 (by rw [e]; decide)
  obtain ⟨i, hi⟩ := jw_op_n w
  have T := mt_6 i (by rw [← hi, ← q.1]; exact e)
  rw [← hi] at T
  obtain ⟨a1, a2, a3, a4, a5, a6, a7, a8⟩ := T
  have u1 : mp_usesS (jw_op w) = 0 := by
    simp (decide := true) only [mp_usesS, a1, a2, a4, a5, a6, reduceIte]
  have u2 : pw_usesS (jw_f w) = 0 := by rw [← q.2.1, u1]
  have z1 : pw_usesD (jw_f w) = 0 := by simp (decide := true) only [pw_usesD, e, reduceIte]
  have z2 : pw_usesOff (jw_f w) = 1 := by simp (decide := true) only [pw_usesOff, e, reduceIte]
  have z3 : pw_usesImm (jw_f w) = 0 := by simp (decide := true) only [pw_usesImm, e, reduceIte, ite_self]
  have f1 : jw_f w 1 = jw_d w := rfl
  have f2 : jw_f w 2 = jw_s w := rfl
  have f3 : jw_f w 3 = jw_off w := rfl
  have f4 : jw_f w 4 = jw_imm w := rfl
  rw [pf_ue, pf_u2e, pf_u4e, pf_u6e, z3, z1, z2, u2, f1, f2, f3, f4]
  simp (decide := true) only [mf_56, mf_99, mf_106, mf_118, mf_131, mf_147, mf_161, mf_169, mf_189, a1, a2, a4, a5, a6, a7, a8, u1, reduceIte]
  by_cases i0 : jw_imm w = 0 <;> by_cases s0 : jw_s w = 0 <;> by_cases d0 : jw_d w = 0 <;> by_cases o0 : jw_off w = 0 <;> simp (decide := true) only [i0, s0, d0, o0, reduceIte]
theorem mf_k7 (e : jw_f w 5 = 7) : mf_56 P (jw_op w) (jw_d w) (jw_s w) (jw_off w) (jw_imm w) = if pf_u (jw_f w) = 0 then P else 3 := by
  have q := (mt_w w).2 (by rw [e]; decide)
  obtain ⟨i, hi⟩ := jw_op_n w
  have T := mt_7 i (by rw [← hi, ← q.1]; exact e)
  rw [← hi] at T
  obtain ⟨a1, a2, a3, a4, a5, a6, a7, a8⟩ := T
  have u1 : mp_usesS (jw_op w) = 0 := by
    simp (decide := true) only [mp_usesS, a1, a2, a4, a5, a6, reduceIte]
  have u2 : pw_usesS (jw_f w) = 0 := by rw [← q.2.1, u1]
  have z1 : pw_usesD (jw_f w) = 1 := by simp (decide := true) only [pw_usesD, e, reduceIte]
  have z2 : pw_usesOff (jw_f w) = 0 := by simp (decide := true) only [pw_usesOff, e, reduceIte]
  have z3 : pw_usesImm (jw_f w) = if pw_usesS (jw_f w) = 0 then 1 else 0 := by simp (decide := true) only [pw_usesImm, e, reduceIte, ite_self]
  have f1 : jw_f w 1 = jw_d w := rfl
  have f2 : jw_f w 2 = jw_s w := rfl
  have f3 : jw_f w 3 = jw_off w := rfl
  have f4 : jw_f w 4 = jw_imm w := rfl
  rw [pf_ue, pf_u2e, pf_u4e, pf_u6e, z3, z1, z2, u2, f1, f2, f3, f4]
  simp (decide := true) only [mf_56, mf_99, mf_106, mf_118, mf_131, mf_147, mf_161, mf_169, mf_189, a1, a2, a4, a5, a6, a7, a8, u1, reduceIte]
  by_cases i0 : jw_imm w = 0 <;> by_cases s0 : jw_s w = 0 <;> by_cases d0 : jw_d w = 0 <;> by_cases o0 : jw_off w = 0 <;> simp (decide := true) only [i0, s0, d0, o0, reduceIte]
theorem mf_k8 (e : jw_f w 5 = 8) : mf_56 P (jw_op w) (jw_d w) (jw_s w) (jw_off w) (jw_imm w) = if pf_u (jw_f w) = 0 then P else 3 := by
  have q := (mt_w w).2 (by rw [e]; decide)
  obtain ⟨i, hi⟩ := jw_op_n w
  have T := mt_8 i (by rw [← hi, ← q.1]; exact e)
  rw [← hi] at T
  obtain ⟨a1, a2, a3, a4, a5, a6, a7, a8⟩ := T
  have u1 : mp_usesS (jw_op w) = 0 := by
    simp (decide := true) only [mp_usesS, a1, a2, a4, a5, a6, reduceIte]
  have u2 : pw_usesS (jw_f w) = 0 := by rw [← q.2.1, u1]
  have z1 : pw_usesD (jw_f w) = 0 := by simp (decide := true) only [pw_usesD, e, reduceIte]
  have z2 : pw_usesOff (jw_f w) = 0 := by simp (decide := true) only [pw_usesOff, e, reduceIte]
  have z3 : pw_usesImm (jw_f w) = 0 := by simp (decide := true) only [pw_usesImm, e, reduceIte, ite_self]
  have f1 : jw_f w 1 = jw_d w := rfl
  have f2 : jw_f w 2 = jw_s w := rfl
  have f3 : jw_f w 3 = jw_off w := rfl
  have f4 : jw_f w 4 = jw_imm w := rfl
  rw [pf_ue, pf_u2e, pf_u4e, pf_u6e, z3, z1, z2, u2, f1, f2, f3, f4]
  simp (decide := true) only [mf_56, mf_99, mf_106, mf_118, mf_131, mf_147, mf_161, mf_169, mf_189, a1, a2, a4, a5, a6, a7, a8, u1, reduceIte]
theorem mf_t1 (e : jw_f w 5 = 1) {goal : Int32} {nx : Int64} : mf_199 s W n k (jw_op w) (jw_off w) = (if jw_f w 5 = 7 then (if nx &&& 4294967295 = 0 then pf_97 (jw_f w) (pf_last (jw_f w) n (nI k)) goal else 3) else pf_97 (jw_f w) (pf_last (jw_f w) n (nI k)) goal) := by
  have q := (mt_w w).2 (by rw [e]; decide)
  obtain ⟨i, hi⟩ := jw_op_n w
  have T := mt_1 i (by rw [← hi, ← q.1]; exact e)
  rw [← hi] at T
  obtain ⟨a1, a2, a3, a4, a5, a6, a7, a8⟩ := T
  simp (decide := true) only [mf_199, mf_234, mf_283, mf_301, a5, a7, a8, e, pf_97, pf_140, pf_167, pf_last, pw_goes, pw_words, reduceIte]
  by_cases c : nI k + 1 < nI n <;> simp (decide := true) only [c, reduceIte]
theorem mf_t3 (e : jw_f w 5 = 3) {goal : Int32} {nx : Int64} : mf_199 s W n k (jw_op w) (jw_off w) = (if jw_f w 5 = 7 then (if nx &&& 4294967295 = 0 then pf_97 (jw_f w) (pf_last (jw_f w) n (nI k)) goal else 3) else pf_97 (jw_f w) (pf_last (jw_f w) n (nI k)) goal) := by
  have q := (mt_w w).2 (by rw [e]; decide)
  obtain ⟨i, hi⟩ := jw_op_n w
  have T := mt_3 i (by rw [← hi, ← q.1]; exact e)
  rw [← hi] at T
  obtain ⟨a1, a2, a3, a4, a5, a6, a7, a8⟩ := T
  simp (decide := true) only [mf_199, mf_234, mf_283, mf_301, a5, a7, a8, e, pf_97, pf_140, pf_167, pf_last, pw_goes, pw_words, reduceIte]
  by_cases c : nI k + 1 < nI n <;> simp (decide := true) only [c, reduceIte]
theorem mf_t4 (e : jw_f w 5 = 4) {goal : Int32} {nx : Int64} : mf_199 s W n k (jw_op w) (jw_off w) = (if jw_f w 5 = 7 then (if nx &&& 4294967295 = 0 then pf_97 (jw_f w) (pf_last (jw_f w) n (nI k)) goal else 3) else pf_97 (jw_f w) (pf_last (jw_f w) n (nI k)) goal) := by
  have q := (mt_w w).2 (by rw [e]; decide)
  obtain ⟨i, hi⟩ := jw_op_n w
  have T := mt_4 i (by rw [← hi, ← q.1]; exact e)
  rw [← hi] at T
  obtain ⟨a1, a2, a3, a4, a5, a6, a7, a8⟩ := T
  simp (decide := true) only [mf_199, mf_234, mf_283, mf_301, a5, a7, a8, e, pf_97, pf_140, pf_167, pf_last, pw_goes, pw_words, reduceIte]
  by_cases c : nI k + 1 < nI n <;> simp (decide := true) only [c, reduceIte]
theorem mf_t5 (e : jw_f w 5 = 5) {goal : Int32} {nx : Int64} : mf_199 s W n k (jw_op w) (jw_off w) = (if jw_f w 5 = 7 then (if nx &&& 4294967295 = 0 then pf_97 (jw_f w) (pf_last (jw_f w) n (nI k)) goal else 3) else pf_97 (jw_f w) (pf_last (jw_f w) n (nI k)) goal) := by
  have q := (mt_w w).2 (by rw [e]; decide)
  obtain ⟨i, hi⟩ := jw_op_n w
  have T := mt_5 i (by rw [← hi, ← q.1]; exact e)
  rw [← hi] at T
  obtain ⟨a1, a2, a3, a4, a5, a6, a7, a8⟩ := T
  simp (decide := true) only [mf_199, mf_234, mf_283, mf_301, a5, a7, a8, e, pf_97, pf_140, pf_167, pf_last, pw_goes, pw_words, reduceIte]
  by_cases c : nI k + 1 < nI n <;> simp (decide := true) only [c, reduceIte]
theorem mf_t8 (e : jw_f w 5 = 8) {goal : Int32} {nx : Int64} : mf_199 s W n k (jw_op w) (jw_off w) = (if jw_f w 5 = 7 then (if nx &&& 4294967295 = 0 then pf_97 (jw_f w) (pf_last (jw_f w) n (nI k)) goal else 3) else pf_97 (jw_f w) (pf_last (jw_f w) n (nI k)) goal) := by
  have q := (mt_w w).2 (by rw [e]; decide)
  obtain ⟨i, hi⟩ := jw_op_n w
  have T := mt_8 i (by rw [← hi, ← q.1]; exact e)
  rw [← hi] at T
  obtain ⟨a1, a2, a3, a4, a5, a6, a7, a8⟩ := T
  simp (decide := true) only [mf_199, mf_234, mf_283, mf_301, a5, a7, a8, e, pf_97, pf_140, pf_167, pf_last, pw_goes, pw_words, reduceIte]
  by_cases c : nI k + 1 < nI n <;> simp (decide := true) only [c, reduceIte]
theorem mf_t7 (e : jw_f w 5 = 7) (hk : k < n) (n1 : n ≤ 1024) {goal : Int32} : mf_199 s W n k (jw_op w) (jw_off w) = (if jw_f w 5 = 7 then (if pf_nx W n (k + 1) &&& 4294967295 = 0 then pf_97 (jw_f w) (pf_last (jw_f w) n (nI k)) goal else 3) else pf_97 (jw_f w) (pf_last (jw_f w) n (nI k)) goal) := by
  have q := (mt_w w).2 (by rw [e]; decide)
  obtain ⟨i, hi⟩ := jw_op_n w
  have T := mt_7 i (by rw [← hi, ← q.1]; exact e)
  rw [← hi] at T
  obtain ⟨a1, a2, a3, a4, a5, a6, a7, a8⟩ := T
  have e1 : nI k + 1 = nI (k + 1) := lq_ad1 k
  have e2 : nI k + 2 = nI (k + 2) := jn_add k 2
  have l1 : (nI n ≤ nI (k + 1)) = (n ≤ k + 1) := propext (jn_le (by omega) (by omega))
  have l2 : (nI (k + 1) < nI n) = (k + 1 < n) := propext (jn_lt (by omega) (by omega))
  have l3 : (nI (k + 2) < nI n) = (k + 2 < n) := propext (jn_lt (by omega) (by omega))
  simp (decide := true) only [mf_199, mf_234, mf_283, mf_301, a5, a7, e, pf_97, pf_140, pf_167, pf_last, pw_goes, pw_words, pf_nx, e1, e2, l1, l2, l3, reduceIte]
  by_cases c1 : k + 1 < n
  · have c2 : ¬ n ≤ k + 1 := by omega
    by_cases c3 : k + 2 < n <;> simp (decide := true) only [c1, c2, c3, reduceIte]
  · have c2 : n ≤ k + 1 := by omega
    have c3 : ¬ k + 2 < n := by omega
    simp (decide := true) only [c1, c2, c3, reduceIte]
theorem mf_t2 (e : jw_f w 5 = 2) (hk : k < n) (n1 : n ≤ 1024) {nx : Int64} : mf_199 s W n k (jw_op w) (jw_off w) = (if jw_f w 5 = 7 then (if nx &&& 4294967295 = 0 then pf_97 (jw_f w) (pf_last (jw_f w) n (nI k)) (pf_goal s n (nI k + 1 + jw_f w 3)) else 3) else pf_97 (jw_f w) (pf_last (jw_f w) n (nI k)) (pf_goal s n (nI k + 1 + jw_f w 3))) := by
  have q := (mt_w w).2 (by rw [e]; decide)
  obtain ⟨i, hi⟩ := jw_op_n w
  have T := mt_2 i (by rw [← hi, ← q.1]; exact e)
  rw [← hi] at T
  obtain ⟨a1, a2, a3, a4, a5, a6, a7, a8⟩ := T
  have f3 : jw_f w 3 = jw_off w := rfl
  simp (decide := true) only [mf_199, mf_234, mf_283, mf_301, a5, a7, a8, e, f3, pf_97, pf_140, pf_167, pf_last, pf_goal, pw_goes, pw_words, reduceIte]
  by_cases c1 : 0 ≤ jw_off w
  · obtain ⟨e1, e2⟩ := jn_of c1
    have o := jw_off_n w
    have o2 : ((jw_off w).toNatClampNeg : Int) = (jw_off w).toInt := by
      rw [← jn_int e2, ← e1]
    have g : nI k + 1 + jw_off w = nI (k + 1 + (jw_off w).toNatClampNeg) := by
      rw [lq_ad1]
      conv => lhs; rw [e1]
      rw [jn_add]
    have g0 : ¬ nI k + 1 + jw_off w < 0 := by
      rw [g]
      exact jn_neg (by omega)
    by_cases c2 : nI n ≤ nI k + 1 + jw_off w
    · simp (decide := true) only [c1, g0, c2, reduceIte]
    · have c3 : ¬ 1024 ≤ nI k + 1 + jw_off w := by
        rw [g] at c2 ⊢
        rw [jn_le (by omega) (by omega)] at c2
        rw [show (1024 : Int32) = nI 1024 from rfl, jn_le (by omega) (by omega)]
        omega
      by_cases c4 : s (nI k + 1 + jw_off w).toNatClampNeg = 0
      · by_cases c5 : nI k + 1 < nI n <;> simp (decide := true) only [c1, g0, c2, c3, c4, c5, reduceIte]
      · simp (decide := true) only [c1, g0, c2, c3, c4, reduceIte]
  · simp (decide := true) only [c1, reduceIte]
theorem mf_t6 (e : jw_f w 5 = 6) (hk : k < n) (n1 : n ≤ 1024) {nx : Int64} : mf_199 s W n k (jw_op w) (jw_off w) = (if jw_f w 5 = 7 then (if nx &&& 4294967295 = 0 then pf_97 (jw_f w) (pf_last (jw_f w) n (nI k)) (pf_goal s n (nI k + 1 + jw_f w 3)) else 3) else pf_97 (jw_f w) (pf_last (jw_f w) n (nI k)) (pf_goal s n (nI k + 1 + jw_f w 3))) := by
  have q := (mt_w w).2 (by rw [e]; decide)
  obtain ⟨i, hi⟩ := jw_op_n w
  have T := mt_6 i (by rw [← hi, ← q.1]; exact e)
  rw [← hi] at T
  obtain ⟨a1, a2, a3, a4, a5, a6, a7, a8⟩ := T
  have f3 : jw_f w 3 = jw_off w := rfl
  simp (decide := true) only [mf_199, mf_234, mf_283, mf_301, a5, a7, a8, e, f3, pf_97, pf_140, pf_167, pf_last, pf_goal, pw_goes, pw_words, reduceIte]
  by_cases c1 : 0 ≤ jw_off w
  · obtain ⟨e1, e2⟩ := jn_of c1
    have o := jw_off_n w
    have o2 : ((jw_off w).toNatClampNeg : Int) = (jw_off w).toInt := by
      rw [← jn_int e2, ← e1]
    have g : nI k + 1 + jw_off w = nI (k + 1 + (jw_off w).toNatClampNeg) := by
      rw [lq_ad1]
      conv => lhs; rw [e1]
      rw [jn_add]
    have g0 : ¬ nI k + 1 + jw_off w < 0 := by
      rw [g]
      exact jn_neg (by omega)
    by_cases c2 : nI n ≤ nI k + 1 + jw_off w
    · simp (decide := true) only [c1, g0, c2, reduceIte]
    · have c3 : ¬ 1024 ≤ nI k + 1 + jw_off w := by
        rw [g] at c2 ⊢
        rw [jn_le (by omega) (by omega)] at c2
        rw [show (1024 : Int32) = nI 1024 from rfl, jn_le (by omega) (by omega)]
        omega
      by_cases c4 : s (nI k + 1 + jw_off w).toNatClampNeg = 0
      · by_cases c5 : nI k + 1 < nI n <;> simp (decide := true) only [c1, g0, c2, c3, c4, c5, reduceIte]
      · simp (decide := true) only [c1, g0, c2, c3, c4, reduceIte]
  · simp (decide := true) only [c1, reduceIte]
theorem mf_all (hk : k < n) (n1 : n ≤ 1024) (n0 : jw_f w 5 ≠ 0) : mf_56 (mf_199 s W n k (jw_op w) (jw_off w)) (jw_op w) (jw_d w) (jw_s w) (jw_off w) (jw_imm w) = pf_60 (jw_f w) (pf_nx W n (k + 1)) (pf_last (jw_f w) n (nI k)) (pf_goal s n (nI k + 1 + jw_f w 3)) := by
  have so := so_w w
  unfold so_ok at so
  obtain ⟨_, s2⟩ := of_decide_eq_true so
  rw [← jw_f5] at s2
  rcases s2 with e | e | e | e | e | e | e | e | e
  · exact absurd e n0
  · rw [mf_k1 e, pf_60_e (mf_t1 (s := s) (W := W) (n := n) (k := k) e)]
  · rw [mf_k2 e, pf_60_e (mf_t2 (s := s) (W := W) (n := n) (k := k) e hk n1)]
  · rw [mf_k3 e, pf_60_e (mf_t3 (s := s) (W := W) (n := n) (k := k) e)]
  · rw [mf_k4 e, pf_60_e (mf_t4 (s := s) (W := W) (n := n) (k := k) e)]
  · rw [mf_k5 e, pf_60_e (mf_t5 (s := s) (W := W) (n := n) (k := k) e)]
  · rw [mf_k6 e, pf_60_e (mf_t6 (s := s) (W := W) (n := n) (k := k) e hk n1)]
  · rw [mf_k7 e, pf_60_e (mf_t7 (s := s) (W := W) (n := n) (k := k) e hk n1)]
  · rw [mf_k8 e, pf_60_e (mf_t8 (s := s) (W := W) (n := n) (k := k) e)]
theorem mo_11 {x : Int32} : (10 < x) = (11 ≤ x) := by
  apply propext
  rw [← Int32.not_le, jle11, Int32.not_lt]
theorem mo_form (b : jv_B h) (hn : h.2.1 25 2 = nI n) (n1 : n ≤ 1024) (hk : k < n) : r_Mo_form h 25 (nI k) = some (pf_w (jw_f (h.2.2.1 26 k)) (pf_nx (h.2.2.1 26) n (k + 1)) (pf_last (jw_f (h.2.2.1 26 k)) n (nI k)) (pf_goal (h.2.1 27) n (nI k + 1 + jw_f (h.2.2.1 26 k) 3)), h) := by
  have hk' : k < 1024 := by omega
  obtain ⟨t1, t2⟩ := mt_w (h.2.2.1 26 k)
  simp only [r_Mo_form, r_Mo_form_54, jk_25 b, mo_isOne b hk', mo_op b hk', mo_d b hk', mo_s b hk', mo_getsD b hk', jcI, jlE, mo_f56 b hn n1 hk, t1, mo_11]
  unfold pf_w
  have f1 : jw_f (h.2.2.1 26 k) 1 = jw_d (h.2.2.1 26 k) := rfl
  have f2 : jw_f (h.2.2.1 26 k) 2 = jw_s (h.2.2.1 26 k) := rfl
  rw [f1, f2]
  by_cases c : jw_f (h.2.2.1 26 k) 5 = 0
  · simp only [if_pos c, if_true]
  · simp only [if_neg c, if_neg i10, mf_all hk n1 c, (t2 c).2.2.2, pw_ite]
end MF
