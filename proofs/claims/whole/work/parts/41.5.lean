section JNV
variable {L p : Nat} {xs : Nat → Int32} {h : ja_H}
theorem ja_sI_sI {c k : Nat} {x y : Int32} : ja_sI (ja_sI h c k x) c k y = ja_sI h c k y := by
  rw [ja_sI_o (c := c) (x := x), ja_oI_sI, ja_sI_o]
  congr 1
  funext b
  by_cases h9 : b = k
  · simp [h9]
  · simp [h9]
theorem lw_state_nv {k r w : Int32} (B : jv_B h) (hv : h.2.1 0 5 = 0) : r_WJ_state h 0 k r w = some ([.retAddr (if w < 0 ∨ 2 < w ∨ r < 0 ∨ ¬ r < 11 then 19 else 36)], h) := by
  simp only [r_WJ_state, r_WJ_state_19, jI_0 B, hv, if_true]
  by_cases h1 : w < 0
  · simp [h1]
  · by_cases h2 : 2 < w
    · simp [h1, h2]
    · by_cases h3 : r < 0
      · simp [h1, h2, h3]
      · by_cases h4 : r < 11
        · simp [h1, h2, h3, h4]
        · simp [h1, h2, h3, h4]
theorem jle11 {r : Int32} : r ≤ 10 ↔ r < 11 := by
  rw [Int32.le_iff_toInt_le, Int32.lt_iff_toInt_lt]
  show r.toInt ≤ 10 ↔ r.toInt < 11
  omega
theorem lm_state_nv {k r w : Int32} (B : jv_B h) (hv : h.2.1 25 5 = 0) : r_Mo_state h 25 k r w = some (0, ja_sI h 25 0 (if w < 0 ∨ 2 < w ∨ r < 0 ∨ ¬ r < 11 then 1 else 2)) := by
  have B1 : jv_B (ja_sI h 25 0 0) := B
  have hv1 : (ja_sI h 25 0 0).2.1 25 5 = 0 := by rw [ja_rI, if_neg (by omega), hv]
  have e1 : r_Mo_state_20 h 25 k r w 25 = some (0, ja_sI h 25 0 1) := by
    simp only [r_Mo_state_20, r_Mo_state_25, jk_25 B, lw_fails1 B, jcI, if_neg ne10]
  have e2 : r_Mo_state_25 h 25 k r w 0 25 = some (0, ja_sI h 25 0 2) := by
    simp only [r_Mo_state_25, jk_25 B, lw_fails0 B, jcI, if_true, jI_25 B1, hv1, r_Mo_state_47, jk_25 B1, lw_fails1 B1, if_neg ne10, ja_sI_sI]
  simp only [r_Mo_state, e1, e2, jle11]
  by_cases h1 : w < 0
  · simp [h1]
  · by_cases h2 : 2 < w
    · simp [h1, h2]
    · by_cases h3 : r < 0
      · simp [h1, h2, h3]
      · by_cases h4 : r < 11
        · simp [h1, h2, h3, h4]
        · simp [h1, h2, h3, h4]
theorem ls_state_nv {n m : Nat} (hW : jv_W n m h) (hv : h.2.1 0 5 = 0) (hp : p + 3 < L) (hL : L ≤ 2048) (he : xs p &&& 15 = 6) : jv_T L xs h p (jv_P n m h) := by
  have hW0 := hW
  obtain ⟨B, hn, hm, w1, w2, w3, w4, w5, w6, w7, w8, w9, w10, w11, w12⟩ := hW
  have Bl : jv_B (ja_lost h 1 6) := B
  have c2 := lm_state_nv (k := xs (p + 1)) (r := xs (p + 2)) (w := xs (p + 3)) Bl (by rw [ja_lI, w8, hv])
  have c1 := lw_state_nv (k := xs (p + 1)) (r := xs (p + 2)) (w := xs (p + 3)) B hv
  by_cases hb : xs (p + 3) < 0 ∨ 2 < xs (p + 3) ∨ xs (p + 2) < 0 ∨ ¬ xs (p + 2) < 11
  · rw [if_pos hb] at c1 c2
    refine ⟨ja_sI (ja_lost h 1 6) 25 0 1, fun C => lq_state (h1 := ja_lost h 1 6) (v := 1) (b := 0) hp hL he B B ?_ c2 (by rw [ja_rI]; rfl) (fun e => absurd e i10), jv_Plost hW0⟩
    simp only [r_La_state, jk_0 B, c1, jt_L, jth, if_true]
  · rw [if_neg hb] at c1 c2
    refine ⟨ja_sI (ja_lost h 1 6) 25 0 2, fun C => lq_state (h1 := ja_lost h 1 6) (v := 2) (b := 0) hp hL he B B ?_ c2 (by rw [ja_rI]; rfl) (fun e => absurd e i20), jv_Plost hW0⟩
    have e36 : ¬ (36 : Nat) = 19 := by decide
    simp only [r_La_state, jk_0 B, c1, jt_L, jth, if_true, if_neg e36]
theorem ls_run_nv {n m : Nat} (hW : jv_W n m h) (hv : h.2.1 0 5 = 0) (hp : p + 3 < L) (hL : L ≤ 2048) (he : xs p &&& 15 = 7) : jv_T L xs h p (jv_P n m h) := by
  have hW0 := hW
  obtain ⟨B, hn, hm, w1, w2, w3, w4, w5, w6, w7, w8, w9, w10, w11, w12⟩ := hW
  have Bl : jv_B (ja_lost h 1 6) := B
  have hv2 : (ja_lost h 1 6).2.1 25 5 = 0 := by rw [ja_lI, w8, hv]
  refine ⟨ja_sI (ja_lost h 1 6) 25 0 1, fun C => lq_run (h1 := ja_lost h 1 6) (v := 1) (b := 0) hp hL he B B ?_ ?_ (by rw [ja_rI]; rfl) (fun e => absurd e i10), jv_Plost hW0⟩
  · simp only [r_La_run, jk_0 B, r_WJ_run, jI_0 B, hv, if_true, jt_L, jth]
  · simp only [r_Mo_run, jI_25 Bl, hv2, if_true, r_Mo_run_13, jk_25 Bl, lw_fails1 Bl, jcI, if_neg ne10]
theorem ls_verify_0 {m : Nat} (hW : jv_W 0 m h) (hp : p + 3 < L) (hL : L ≤ 2048) (he : xs p &&& 15 = 4) : jv_T L xs h p (jv_P 0 m h) := by
  have hW0 := hW
  obtain ⟨B, hn, hm, w1, w2, w3, w4, w5, w6, w7, w8, w9, w10, w11, w12⟩ := hW
  have Bl : jv_B (ja_lost h 1 6) := B
  have e0 : nI 0 = 0 := rfl
  refine ⟨ja_sI (ja_lost h 1 6) 25 0 1, fun C => lq_verify (h1 := ja_lost h 1 6) (v := 1) (b := 0) hp hL he B B ?_ ?_ (by rw [ja_rI]; rfl) (fun e => absurd e i10), jv_Plost hW0⟩
  · simp only [r_La_verify, jk_0 B, r_WJ_verify, jR_0_0 B, jI_1 B, w1, e0, if_true, jt_I, jth]
  · simp only [r_Mo_verify, jI_25 Bl, ja_lI, w2, e0, if_true, r_Mo_verify_13, jk_25 Bl, lw_fails1 Bl, jcI, if_neg ne10]
theorem lm_count_nv {y : Int32} (B : jv_B h) (hv : h.2.1 25 5 = 0) : r_Mo_count_28 ja_fu h 25 y 0 0 = r_Mo_count_61 h 25 y 0 := by
  rw [ja_fu_eq]
  show q_Mo_count_28 (r_Mo_count_28 1999) h 25 y 0 0 = _
  simp only [q_Mo_count_28, jI_25 B, hv, if_true]
  split <;> rfl
theorem lm_count_bad {y : Int32} (B : jv_B h) (hy : y < 0 ∨ ¬ y ≤ 4) : r_Mo_count h 25 y = some (0, ja_sI h 25 0 1) := by
  have e : r_Mo_count_10 h 25 y 25 = some (0, ja_sI h 25 0 1) := by
    simp only [r_Mo_count_10, r_Mo_count_15, jk_25 B, lw_fails1 B, jcI, if_neg ne10]
  simp only [r_Mo_count]
  split
  · exact e
  · split
    · next h1 h2 => exact absurd hy (by simp [h1, h2])
    · exact e
theorem lm_count_ok {y : Int32} (B : jv_B h) (hv : h.2.1 25 5 = 0) (h1 : ¬ y < 0) (h2 : y ≤ 4) : r_Mo_count h 25 y = r_Mo_count_61 (ja_sI h 25 0 0) 25 y 0 := by
  have B1 : jv_B (ja_sI h 25 0 0) := B
  have hv1 : (ja_sI h 25 0 0).2.1 25 5 = 0 := by rw [ja_rI, if_neg (by omega), hv]
  simp only [r_Mo_count, if_neg h1, if_pos h2, r_Mo_count_15, jk_25 B, lw_fails0 B, jcI, if_true, jlE, lm_count_nv B1 hv1]
theorem jv_Pout {n m : Nat} {v : Int64} (hW : jv_W n m h) : jv_P n m h (ja_sI (ja_sL h 40 0 v) 25 0 0) := by
  obtain ⟨B, hn, hm, w1, w2, w3, w4, w5, w6, w7, w8, w9, w10, w11, w12⟩ := hW
  refine ⟨n, m, ⟨B, hn, hm, w1, w2, w3, w4, fun k hk => ?_, w6, w7, w8, w9, w10, w11, w12⟩, ⟨rfl, Nat.le_succ _, Nat.le_add_right _ _, rfl⟩, Or.inr ⟨rfl, rfl, rfl, rfl, fun a b _ _ h3 => ?_, fun a b h4 => ?_⟩⟩
  · rw [ja_rIL, ja_rL, ja_rL, if_neg (by omega), if_neg (by omega)]
    exact w5 k hk
  · rw [ja_rI, if_neg h3, ja_rLI]
  · rw [ja_rIL, ja_rL, if_neg (by omega)]
theorem lw_count_bad {y : Int32} (hy : y < 0 ∨ ¬ y ≤ 4) : r_WJ_count h 0 y = some ([.retAddr 87], h) := by
  have a0 : ¬ y = 0 := by rintro rfl; revert hy; decide
  have a1 : ¬ y = 1 := by rintro rfl; revert hy; decide
  have a2 : ¬ y = 2 := by rintro rfl; revert hy; decide
  have a3 : ¬ y = 3 := by rintro rfl; revert hy; decide
  have a4 : ¬ y = 4 := by rintro rfl; revert hy; decide
  simp only [r_WJ_count, jsw, if_neg a0, if_neg a1, if_neg a2, if_neg a3, if_neg a4]
def jc_m (h : ja_H) (a : Nat) : Int32 := match a with
  | 0 => h.2.1 25 2
  | 1 => h.2.1 25 9
  | 2 => h.2.1 25 14
  | 3 => 0
  | _ => h.2.1 25 15
theorem lw_count_ok {n m a : Nat} (hW : jv_W n m h) (hv : h.2.1 0 5 = 0) (ha : a < 5) : r_WJ_count h 0 (nI a) = some ([.int (jc_m h a)], h) := by
  obtain ⟨B, hn, hm, w1, w2, w3, w4, w5, w6, w7, w8, w9, w10, w11, w12⟩ := hW
  have b0 : nI 0 = 0 := rfl
  have b1 : nI 1 = 1 := rfl
  have b2 : nI 2 = 2 := rfl
  have b3 : nI 3 = 3 := rfl
  have b4 : nI 4 = 4 := rfl
  obtain ⟨c0, c1, c2, c3⟩ := i4
  rcases (show a = 0 ∨ a = 1 ∨ a = 2 ∨ a = 3 ∨ a = 4 by omega) with rfl | rfl | rfl | rfl | rfl
  · simp only [r_WJ_count, jsw, b0, if_true, jR_0_0 B, jI_1 B, jc_m, w1, w2]
  · simp only [r_WJ_count, jsw, b1, if_neg i10, if_true, jR_0_1 B, jI_3 B, jc_m, w3, w4]
  · simp only [r_WJ_count, jsw, b2, if_neg i20, if_neg i21, if_true, jR_0_4 B, jI_19 B, jc_m, w11]
  · simp only [r_WJ_count, jsw, b3, if_neg i30, if_neg i31, if_neg i32, if_true, jI_0 B, hv, r_WJ_count_78, jc_m]
  · simp only [r_WJ_count, jsw, b4, if_neg c0, if_neg c1, if_neg c2, if_neg c3, if_true, jR_0_4 B, jI_19 B, jc_m, w12]
theorem lm_count_61 {a : Nat} (B : jv_B h) (ha : a < 5) : r_Mo_count_61 h 25 (nI a) 0 = some (jc_m h a, h) := by
  have b0 : nI 0 = 0 := rfl
  have b1 : nI 1 = 1 := rfl
  have b2 : nI 2 = 2 := rfl
  have b3 : nI 3 = 3 := rfl
  have b4 : nI 4 = 4 := rfl
  obtain ⟨c0, c1, c2, c3⟩ := i4
  rcases (show a = 0 ∨ a = 1 ∨ a = 2 ∨ a = 3 ∨ a = 4 by omega) with rfl | rfl | rfl | rfl | rfl
  · simp only [r_Mo_count_61, r_Mo_count_109, b0, if_true, jI_25 B, jc_m]
  · simp only [r_Mo_count_61, r_Mo_count_109, b1, if_neg i10, if_true, jI_25 B, jc_m]
  · simp only [r_Mo_count_61, r_Mo_count_109, b2, if_neg i20, if_neg i21, if_true, jI_25 B, jc_m]
  · simp only [r_Mo_count_61, r_Mo_count_109, b3, if_neg i30, if_neg i31, if_neg i32, if_true, jc_m]
  · simp only [r_Mo_count_61, r_Mo_count_109, b4, if_neg c0, if_neg c1, if_neg c2, if_neg c3, jI_25 B, jc_m]
theorem ls_count_nv {n m : Nat} (hW : jv_W n m h) (hv : h.2.1 0 5 = 0) (hp : p + 3 < L) (hL : L ≤ 2048) (he : xs p &&& 15 = 8) : jv_T L xs h p (jv_P n m h) := by
  have hW0 := hW
  obtain ⟨B, hn, hm, w1, w2, w3, w4, w5, w6, w7, w8, w9, w10, w11, w12⟩ := hW
  by_cases hy : xs (p + 1) < 0 ∨ ¬ xs (p + 1) ≤ 4
  · refine ⟨ja_sI (ja_lost h 1 6) 25 0 1, fun C => lq_count (h1 := ja_lost h 1 6) (v := 1) (b := 0) hp hL he B B ?_ (lm_count_bad B hy) (by rw [ja_rI]; rfl) (fun e => absurd e i10), jv_Plost hW0⟩
    simp only [r_La_count, jk_0 B, lw_count_bad hy, jt_I, jth, if_true]
  · have h1 : ¬ xs (p + 1) < 0 := fun q => hy (Or.inl q)
    have h2 : xs (p + 1) ≤ 4 := Classical.byContradiction fun q => hy (Or.inr q)
    obtain ⟨ea, hal⟩ := jn_of (Int32.not_lt.mp h1)
    generalize (xs (p + 1)).toNatClampNeg = a at ea hal
    have ha : a < 5 := by
      rw [ea] at h2
      have := (jn_le (b := 4) hal (by omega)).mp h2
      omega
    have B1 : jv_B (ja_sL h 40 0 (jc_m h a).toInt64) := B
    have B2 : jv_B (ja_sI (ja_sL h 40 0 (jc_m h a).toInt64) 25 0 0) := B
    have hv2 : (ja_sL h 40 0 (jc_m h a).toInt64).2.1 25 5 = 0 := by rw [ja_rLI, w8, hv]
    have em : jc_m (ja_sI (ja_sL h 40 0 (jc_m h a).toInt64) 25 0 0) a = jc_m h a := by
      rcases (show a = 0 ∨ a = 1 ∨ a = 2 ∨ a = 3 ∨ a = 4 by omega) with rfl | rfl | rfl | rfl | rfl <;> rfl
    refine ⟨ja_sI (ja_sL h 40 0 (jc_m h a).toInt64) 25 0 0, fun C => lq_count (h1 := ja_sL h 40 0 (jc_m h a).toInt64) (v := 0) (b := jc_m h a) hp hL he B1 B2 ?_ ?_ (by rw [ja_rI]; rfl) (fun _ => by rw [ja_rIL, ja_rL]; rfl), jv_Pout hW0⟩
    · simp only [r_La_count, jk_0 B, ea, lw_count_ok hW0 hv ha, jt_I, jW_40 B jx0]
      rfl
    · rw [lm_count_ok B1 hv2 h1 h2, ea, lm_count_61 B2 ha, em]
end JNV
