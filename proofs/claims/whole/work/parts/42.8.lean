section JW
variable {h : ja_H} {V W : Nat → pv_T} {B C : Nat → Int32} {l r n : pv_T} {d : Nat}
def pj_nw (g : Nat → Int32) (l r : pv_T) (rel : Int32) : pn_R := if g 0 &&& 7 = 5 then (if rel = 4 then (1, l) else if pn_one r = 0 then (1, l) else pn_nar rel l r.2.1) else (1, l)
theorem ju_nw {rel : Int32} (b : jv_B h) (hd : h.2.1 15 1 = nI d) (h80 : d < 80) : r_Ju_narrowD (jd h V B l r n) 8 rel = some (if (pj_nw (h.2.1 15) l r rel).1 = 0 then 0 else 1, jd h (if (pj_nw (h.2.1 15) l r rel).1 = 0 then V else pu_f V d (pj_nw (h.2.1 15) l r rel).2) B l r (pj_nw (h.2.1 15) l r rel).2) := by
  have b' : ∀ n, jv_B (jd h V B l r n) := fun _ => b
  have e87 : ∀ n, r_Ju_narrowD_87 (jd h V B l r n) 8 = some (1, jd h (pu_f V d n) B l r n) := fun n => by
    simp only [r_Ju_narrowD_87, jR_8_1 (b' _), jR_8_2 (b' _), jR_8_5 (b' _), jI_15 (b' _), jd_15, hd, jk_10 (b' _), (ju_save b h80).2, jcV, jb1]
  have e61 : ∀ n, r_Ju_narrowD_61 (jd h V B l r n) 8 rel = some (1, jd h (pu_f V d n) B l r n) := fun n => by
    simp only [r_Ju_narrowD_61, r_Ju_narrowD_62, jlE, if_true, e87]
  have e62 : r_Ju_narrowD_62 (jd h V B l r l) 8 rel 1 = some (if (pn_nar rel l r.2.1).1 = 0 then 0 else 1, jd h (if (pn_nar rel l r.2.1).1 = 0 then V else pu_f V d (pn_nar rel l r.2.1).2) B l r (pn_nar rel l r.2.1).2) := by
    simp only [r_Ju_narrowD_62, jlE, if_neg i10, jR_8_5 (b' _), jR_8_4 (b' _), jL_17 (b' _), jdJ1, jk_18 (b' _), v_nar (jS_18 (b' _)), jd_n]
    show (if (pn_nar rel l r.2.1).1 = 0 then jb 0 (some (0, jv_p (jd h V B l r l) 18 (pn_nar rel l r.2.1).2)) else r_Ju_narrowD_87 (jv_p (jd h V B l r l) 18 (pn_nar rel l r.2.1).2) 8) = _
    rw [jd_p18, e87, jb0]
    by_cases c : (pn_nar rel l r.2.1).1 = 0
    · simp only [if_pos c]
    · simp only [if_neg c]
  have e0 : some ((1 : Int32), jd h (pu_f V d l) B l r l) = some (if ((1, l) : pn_R).1 = 0 then 0 else 1, jd h (if ((1, l) : pn_R).1 = 0 then V else pu_f V d ((1, l) : pn_R).2) B l r ((1, l) : pn_R).2) := by
    simp only [if_neg i10]
  unfold pj_nw
  simp only [r_Ju_narrowD, jR_8_5 (b' _), jR_8_3 (b' _), jI_16 (b' _), jL_16 (b' _), jk_18 (b' _), v_become (jS_18 (b' _)), jcV, jd_p18, jdI0, jdI1, jdI2, jR_8_2 (b' _), jI_15 (b' _), jd_15, jR_8_4 (b' _), jk_17 (b' _), v_one (jS_17 (b' _)), jd_r, jcI, e61, e62]
  by_cases c1 : h.2.1 15 0 &&& 7 = 5
  · simp only [if_pos c1]
    by_cases c2 : rel = 4
    · simp only [if_pos c2]
      exact e0
    · simp only [if_neg c2]
      by_cases c3 : pn_one r = 0
      · simp only [if_pos c3]
        exact e0
      · simp only [if_neg c3]
  · simp only [if_neg c1]
    exact e0
def pj_ins (g : Nat → Int32) (p : pv_T) (a e : Int64) : Int32 := if p.2.1 + (g 3).toInt64 < a then 11 else if e < p.2.2 + (g 3).toInt64 + (pw_size g).toInt64 then 11 else 0
def pj_reach (g : Nat → Int32) (len : Int32) (p : pv_T) : Int32 := if pn_ptr p = 0 then 9 else if p.1 = 2 then (if pw_stores g = 0 then pj_ins g p 0 len.toInt64 else 10) else pj_ins g p (-512) 0
theorem ju_reach (b : jv_B h) : r_Ju_examineReach (jd h V B l r n) 8 17 = some (pj_reach (h.2.1 15) (h.2.1 8 7) r, jd h V B l r n) ∧ r_Ju_examineReach (jd h V B l r n) 8 16 = some (pj_reach (h.2.1 15) (h.2.1 8 7) l, jd h V B l r n) := by
  have b' : jv_B (jd h V B l r n) := b
  constructor
  · simp only [r_Ju_examineReach, r_Ju_examineReach_23, r_Ju_examineReach_41, r_Ju_examineReach_52, r_Ju_examineReach_66, r_Ju_examineReach_118, r_Ju_examineReach_119, r_Ju_examineReach_132, jlE, jk_17 b', v_ptr (jS_17 b'), jcI, jd_r, jI_17 b', jL_17 b', jdJ0, jdJ1, jdJ2, if_neg i10, if_true, jR_8_2 b', jk_15 b', w_stores (jS_15 b'), w_size (jS_15 b'), jI_15 b', jI_8 b', jd_15, jd_8, pj_reach, pj_ins, pw_ite]
  · simp only [r_Ju_examineReach, r_Ju_examineReach_23, r_Ju_examineReach_41, r_Ju_examineReach_52, r_Ju_examineReach_66, r_Ju_examineReach_118, r_Ju_examineReach_119, r_Ju_examineReach_132, jlE, jk_16 b', v_ptr (jS_16 b'), jcI, jd_l, jI_16 b', jL_16 b', jdI0, jdI1, jdI2, if_neg i10, if_true, jR_8_2 b', jk_15 b', w_stores (jS_15 b'), w_size (jS_15 b'), jI_15 b', jI_8 b', jd_15, jd_8, pj_reach, pj_ins, pw_ite]
def pj_num (g : Nat → Int32) : pv_T := if pw_size g = 8 then pn_any else (1, 0, ((1 : Int64) <<< (Int32.toInt64 (8 * pw_size g) &&& 63)) - 1)
def pj_rd (g : Nat → Int32) (V : Nat → pv_T) (B : Nat → Int32) (a : Nat) (l r : pv_T) : Int32 × pv_T := if r.1 = 3 then (if pw_size g = 8 ∧ a % 8 = 0 ∧ ¬ (V (16 + a / 8)).1 = 0 then (0, V (16 + a / 8)) else if pb_rd V (st_b B) a (pw_size g).toNatClampNeg then (0, pj_num g) else (12, l)) else (0, pj_num g)
theorem pw_size_n (g : Nat → Int32) : ∃ z, pw_size g = nI z ∧ (z = 1 ∨ z = 2 ∨ z = 4 ∨ z = 8) := by
  unfold pw_size
  split
  · exact ⟨4, rfl, by omega⟩
  · split
    · exact ⟨2, rfl, by omega⟩
    · split
      · exact ⟨1, rfl, by omega⟩
      · exact ⟨8, rfl, by omega⟩
theorem ju_rd (b : jv_B h) {a z : Nat} (hz : pw_size (h.2.1 15) = nI z) (hz8 : z ≤ 8) (hr : pj_reach (h.2.1 15) (h.2.1 8 7) r = 0) (ha : r.1 = 3 → Int64.toInt32 (r.2.1 + (h.2.1 15 3).toInt64 + 512) = nI a ∧ a + z ≤ 512 ∧ 0 < z) : r_Ju_examineReading (jd h V B l r n) 8 = pj_ret h V B r n (pj_rd (h.2.1 15) V B a l r) := by
  have b' : ∀ l, jv_B (jd h V B l r n) := fun _ => b
  have e110 : r_Ju_examineReading_110 (jd h V B l r n) 8 (pw_size (h.2.1 15)) = pj_ret h V B r n (0, pj_num (h.2.1 15)) := by
    simp only [r_Ju_examineReading_110, r_Ju_examineReading_143, jR_8_3 (b' _), jk_16 (b' _), v_any (jS_16 (b' _)), v_become (jS_16 (b' _)), jcV, jd_p16, pj_ret, pj_num]
    split <;> rfl
  have hzc : (pw_size (h.2.1 15)).toNatClampNeg = z := by rw [hz, jn_clamp (by omega)]
  simp only [r_Ju_examineReading, jR_8_4 (b' _), jk_8 (b' _), (ju_reach b).1, hr, jcI, jlE, if_true, jR_8_2 (b' _), jk_15 (b' _), w_size (jS_15 (b' _)), jd_15, jI_17 (b' _), jdJ0, e110, r_Ju_octetAt, jL_17 (b' _), jdJ1, jI_15 (b' _), jR_8_1 (b' _), jk_10 (b' _)]
  unfold pj_rd
  by_cases c1 : r.1 = 3
  · obtain ⟨e1, e2, e3⟩ := ha c1
    have i1 : 16 + a / 8 < 80 := by omega
    have e95 : r_Ju_examineReading_95 (jd h V B l r n) 8 (pw_size (h.2.1 15)) (nI a) = pj_ret h V B r n (if pb_rd V (st_b B) a z then (0, pj_num (h.2.1 15)) else (12, l)) := by
      have := st_read (st_10 (b' l)) (a := a) (n := z) e2
      rw [← hz, jd_V, show (jd h V B l r n).2.1 (10 + 4) = B from jd_14] at this
      simp only [r_Ju_examineReading_95, jR_8_1 (b' _), jk_10 (b' _), this, jcI, e110]
      by_cases c : pb_rd V (st_b B) a z = true
      · simp only [if_pos c, if_neg i10]
      · simp only [if_neg c, if_true]
        rfl
    simp only [if_pos c1, e1, hzc]
    by_cases c2 : pw_size (h.2.1 15) = 8
    · simp only [if_pos c2, st_8at (show a < 512 by omega), jcI, r_Ju_examineReading_61, jlE]
      by_cases c3 : a % 8 = 0
      · simp only [if_pos c3, if_neg (jn_neg (show 16 + a / 8 < 2147483648 by omega)), jR_8_1 (b' _), jk_10 (b' _), st_kept (st_10 (b' _)) i1, jd_V, jcI]
        by_cases c4 : (V (16 + a / 8)).1 = 0
        · rw [if_pos c4, if_pos rfl, e95, if_neg (c := _ ∧ _) (fun q => q.2.2 c4)]
        · simp only [if_neg c4, if_neg i10, jR_8_3 (b' _), ju_load b i1 (jS_16 b), jcV, jd_p16]
          rw [if_pos ⟨c2, c3, c4⟩]
          rfl
      · rw [if_neg c3, if_pos (by decide), e95, if_neg (c := _ ∧ _) (fun q => c3 q.2.1)]
    · simp only [if_neg c2, r_Ju_examineReading_61, jlE]
      rw [if_pos (by decide), e95, if_neg (c := _ ∧ _) (fun q => c2 q.1)]
  · simp only [if_neg c1]
def pj_st (g : Nat → Int32) (V : Nat → pv_T) (B : Nat → Int32) (a z : Nat) (r : pv_T) : Int32 × (Nat → pv_T) × (Nat → Int32) := if g 5 = 5 ∧ pw_size g = 8 ∧ a % 8 = 0 then (0, pu_f V (16 + a / 8) r, pu_f B (a / 8) 255) else if pn_ptr r = 0 then (0, pb_st V B a z) else (13, V, B)
theorem ju_st (b : jv_B h) {a z : Nat} (hz : pw_size (h.2.1 15) = nI z) (hr : pj_reach (h.2.1 15) (h.2.1 8 7) l = 0) (ha : Int64.toInt32 (l.2.1 + (h.2.1 15 3).toInt64 + 512) = nI a) (ha2 : a + z ≤ 512) (hz0 : 0 < z) : r_Ju_examineStoring (jd h V B l r n) 8 = some ((pj_st (h.2.1 15) V B a z r).1, jd h (pj_st (h.2.1 15) V B a z r).2.1 (pj_st (h.2.1 15) V B a z r).2.2 l r n) := by
  have b' : jv_B (jd h V B l r n) := b
  have i1 : a / 8 < 64 := by omega
  have e69 : r_Ju_examineStoring_69 (jd h V B l r n) 8 (nI a) (-1) = if pn_ptr r = 0 then some (0, jd h (pb_st V B a z).1 (pb_st V B a z).2 l r n) else some (13, jd h V B l r n) := by
    have := st_store (V := V) (B := B) (st_10 b') (a := a) (n := z) ha2
    rw [jd_w, jd_w, ← hz] at this
    simp only [r_Ju_examineStoring_69, jlE]
    rw [if_pos (by decide)]
    simp only [jR_8_4 b', jk_17 b', v_ptr (jS_17 b'), jcI, jd_r, jR_8_1 b', jR_8_2 b', jk_15 b', w_size (jS_15 b'), jd_15, jk_10 b', this, jcV]
  simp only [r_Ju_examineStoring, jR_8_3 b', jk_8 b', (ju_reach b).2, hr, jcI, jlE, if_true, r_Ju_octetAt, jL_16 b', jdI1, jR_8_2 b', jI_15 b', jd_15, ha, jk_15 b', w_size (jS_15 b'), r_Ju_examineStoring_51, r_Ju_examineStoring_52, e69, if_neg i10, jR_8_1 b', jk_10 b', st_8at (show a < 512 by omega)]
  unfold pj_st
  by_cases c1 : h.2.1 15 5 = 5
  · by_cases c2 : pw_size (h.2.1 15) = 8
    · by_cases c3 : a % 8 = 0
      · have := st_keep (V := V) (B := B) (st_10 b') i1 (jS_17 b') (by omega)
        rw [jd_w, jd_r, jd_w] at this
        simp only [if_pos c1, if_pos c2, if_pos c3, r_Ju_examineStoring_69, jlE, if_neg (jn_neg (show 16 + a / 8 < 2147483648 by omega)), jR_8_1 b', jR_8_4 b', jk_10 b', this, jcV]
        rw [if_pos (c := _ ∧ _) ⟨c1, c2, c3⟩]
      · simp only [if_pos c1, if_pos c2, if_neg c3, e69]
        rw [if_neg (c := _ ∧ _) (fun q => c3 q.2.2)]
        split <;> rfl
    · simp only [if_pos c1, if_neg c2]
      rw [if_neg (c := _ ∧ _) (fun q => c2 q.2.1)]
      split <;> rfl
  · simp only [if_neg c1]
    rw [if_neg (c := _ ∧ _) (fun q => c1 q.1)]
    split <;> rfl
end JW
