section JLAW
variable {L p : Nat} {xs : Nat → Int32} {h : ja_H}
theorem jr_gt (h1 : L < p + 4) (hL : L ≤ 2048) (hp : p ≤ 2100) : Int32.ofNat L - 4 < nI p := by
  rw [Int32.lt_iff_toInt_lt, jn_int (by omega), Int32.toInt_sub, show Int32.ofNat L = nI L from rfl, jn_int (by omega)]
  show ((L : Int) - 4).bmod 4294967296 < p
  rw [Int.bmod_eq_of_le (by omega) (by omega)]
  omega
theorem lq_end {C : ja_H → Nat → Nat → Nat → Int32 → Option (Int32 × ja_H)} (h1 : L < p + 4) (hL : L ≤ 2048) (hp : p ≤ 2100) : q_La_law_23 L xs C h 0 25 40 (nI p) = some (1, h) := by
  simp only [q_La_law_23, if_pos (jr_gt h1 hL hp), jb1]
theorem jh_1W : jv_W 0 0 jh_1 := by
  refine ⟨jh_1B, by omega, by omega, by decide +kernel, by decide +kernel, by decide +kernel, by decide +kernel, ?_, ?_, ?_, by decide +kernel, Or.inl (by decide +kernel), by decide +kernel, by decide +kernel, by decide +kernel⟩
  · decide +kernel
  · decide +kernel
  · have h9 : ∀ k, k < 256 → jh_1.2.1 4 k = 0 := by decide +kernel
    exact fun k _ hk => h9 k hk
theorem jh_1v : jh_1.2.1 0 5 = 0 := by decide +kernel
theorem jh_1c : ja_nc jh_1 = 41 ∧ ja_ns jh_1 ≤ 800000 := by decide +kernel
theorem ls_first (hL : 3 < L) (hL2 : L ≤ 2048) : jv_T L xs jh_1 0 (jv_P 0 0 jh_1) := by
  have hp : 0 + 3 < L := by omega
  generalize hz : xs 0 &&& 15 = z
  by_cases a0 : z = 0
  · obtain ⟨h', e, n', hW, hg, hor⟩ := ls_word jh_1W hp hL2 (hz.trans a0)
    refine ⟨h', e, n', 0, hW, hg, ?_⟩
    rcases hor with h9 | ⟨h9, h8⟩
    · exact Or.inl h9
    · exact Or.inr ⟨h9, rfl, h8⟩
  by_cases a1 : z = 1
  · exact ls_cut jh_1W hp hL2 (hz.trans a1)
  by_cases a2 : z = 2
  · exact ls_context jh_1W hp hL2 (hz.trans a2)
  by_cases a3 : z = 3
  · exact ls_put jh_1W hp hL2 (hz.trans a3)
  by_cases a4 : z = 4
  · exact ls_verify_0 jh_1W hp hL2 (hz.trans a4)
  by_cases a5 : z = 5
  · exact ls_fault jh_1W hp hL2 (hz.trans a5)
  by_cases a6 : z = 6
  · exact ls_state_nv jh_1W jh_1v hp hL2 (hz.trans a6)
  by_cases a7 : z = 7
  · exact ls_run_nv jh_1W jh_1v hp hL2 (hz.trans a7)
  by_cases a8 : z = 8
  · exact ls_count_nv jh_1W jh_1v hp hL2 (hz.trans a8)
  exact ls_other jh_1W hp hL2 hz a0 a1 a2 a3 a4 a5 a6 a7 a8
theorem ja_law4 (hL : L ≤ 4) : ∃ hf, r_La_law L xs ja_h0 = some (1, hf) ∧ ja_nc hf ≤ 42 ∧ ja_ns hf ≤ 800006 := by
  rw [ja_start, ja_fu_eq]
  obtain ⟨c1, c2⟩ := jh_1c
  by_cases h4 : 3 < L
  · obtain ⟨h', e, n', m', hW, hg, hor⟩ := ls_first (xs := xs) h4 (by omega)
    refine ⟨h', ?_, ?_, ?_⟩
    · show q_La_law_23 L xs (r_La_law_23 L xs 1999) jh_1 0 25 40 (nI 0) = _
      rw [e]
      show q_La_law_23 L xs (r_La_law_23 L xs 1998) h' 0 25 40 (nI 4) = _
      exact lq_end (by omega) (by omega) (by omega)
    · simp only [ja_nc, hg.1] at c1 ⊢
      have := hg.2.1
      omega
    · simp only [ja_ns, hg.1] at c2 ⊢
      have := hg.2.2.1
      omega
  · refine ⟨jh_1, ?_, by omega, by omega⟩
    show q_La_law_23 L xs (r_La_law_23 L xs 1999) jh_1 0 25 40 (nI 0) = _
    exact lq_end (by omega) (by omega) (by omega)
end JLAW
