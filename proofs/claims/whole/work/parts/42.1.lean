section FO
variable {h : ja_H}
theorem w_at {n k : Nat} (B : jv_B h) (hl : h.2.1 1 1 = nI n) (hn : n ≤ 1024) (hk : k ≤ 1024) : r_Co_at h 1 (nI k) = some (if k < n then h.2.2.1 2 k else 0, h) := by
  have e1 : (nI n ≤ nI k) = (n ≤ k) := propext (jn_le (by omega) (by omega))
  have e2 : ((1024 : Int32) ≤ nI k) = (1024 ≤ k) := propext (jn_le (a := 1024) (by omega) (by omega))
  simp only [r_Co_at, r_Co_at_28, r_Co_at_29, if_neg (jn_neg (a := k) (by omega)), jI_1 B, hl, e1, e2]
  by_cases h1 : k < n
  · rw [if_neg (by omega), if_neg (by omega), if_pos h1, jR_1_0 B, jE_2 B (jn_jx (by omega) (by decide)), jn_clamp (by omega)]
  · rw [if_pos (by omega), if_neg h1]
def pf_u60 (f : Nat → Int32) : Int32 := if f 3 = 0 then 0 else if pw_usesOff f = 0 then 1 else 0
def pf_u40 (f : Nat → Int32) : Int32 := if f 1 = 0 then pf_u60 f else if pw_usesD f = 0 then 1 else pf_u60 f
def pf_u20 (f : Nat → Int32) : Int32 := if f 2 = 0 then pf_u40 f else if pw_usesS f = 0 then 1 else pf_u40 f
def pf_u (f : Nat → Int32) : Int32 := if f 4 = 0 then pf_u20 f else if pw_usesImm f = 0 then 1 else pf_u20 f
theorem fo_u60 (B : jv_B h) : r_Fo_hasUnusedNotZero_60 h 5 = some (pf_u60 (h.2.1 7), h) := by
  simp only [r_Fo_hasUnusedNotZero_60, r_Fo_hasUnusedNotZero_80, r_Fo_hasUnusedNotZero_84, r_Fo_hasUnusedNotZero_85, jR_5_1 B, jI_7 B, jk_7 B, w_usesOff (jS_7 B), jcI, jb0, jb1, pf_u60, pw_ite]
theorem fo_u40 (B : jv_B h) : r_Fo_hasUnusedNotZero_40 h 5 = some (pf_u40 (h.2.1 7), h) := by
  simp only [r_Fo_hasUnusedNotZero_40, fo_u60 B, r_Fo_hasUnusedNotZero_80, r_Fo_hasUnusedNotZero_85, jR_5_1 B, jI_7 B, jk_7 B, w_usesD (jS_7 B), jcI, jb1, pf_u40, pw_ite]
theorem fo_u20 (B : jv_B h) : r_Fo_hasUnusedNotZero_20 h 5 = some (pf_u20 (h.2.1 7), h) := by
  simp only [r_Fo_hasUnusedNotZero_20, fo_u40 B, r_Fo_hasUnusedNotZero_80, r_Fo_hasUnusedNotZero_85, jR_5_1 B, jI_7 B, jk_7 B, w_usesS (jS_7 B), jcI, jb1, pf_u20, pw_ite]
theorem fo_u (B : jv_B h) : r_Fo_hasUnusedNotZero h 5 = some (pf_u (h.2.1 7), h) := by
  simp only [r_Fo_hasUnusedNotZero, fo_u20 B, r_Fo_hasUnusedNotZero_80, r_Fo_hasUnusedNotZero_85, jR_5_1 B, jI_7 B, jk_7 B, w_usesImm (jS_7 B), jcI, jb1, pf_u, pw_ite]
theorem jx_of {g : Int32} {n : Nat} (hn : n < 2147483648) (h1 : ¬ g < 0) (h2 : ¬ nI n ≤ g) : jx g n := by
  obtain ⟨e, hl⟩ := jn_of (Int32.not_lt.mp h1)
  rw [e] at h2 ⊢
  rw [jn_le hn hl] at h2
  exact jn_jx (by omega) hn
def pf_goal (s : Nat → Int32) (n : Nat) (g : Int32) : Int32 := if g < 0 then 0 else if nI n ≤ g then 0 else if 1024 ≤ g then 0 else if s g.toNatClampNeg = 0 then 1 else 0
theorem fo_goal {n : Nat} {g : Int32} (B : jv_B h) (hl : h.2.1 1 1 = nI n) : r_Fo_isGoal h 5 1 g = some (pf_goal (h.2.1 6) n g, h) := by
  simp only [r_Fo_isGoal, r_Fo_isGoal_32, r_Fo_isGoal_33, jI_1 B, hl, jb0, jb1, pf_goal]
  by_cases h1 : g < 0
  · simp only [if_pos h1]
  · by_cases h2 : nI n ≤ g
    · simp only [if_neg h1, if_pos h2]
    · by_cases h3 : (1024 : Int32) ≤ g
      · simp only [if_neg h1, if_neg h2, if_pos h3]
      · simp only [if_neg h1, if_neg h2, if_neg h3, jR_5_0 B, jE_6 B (jx_of (n := 1024) (by decide) h1 h3), pw_ite]
def pf_167 (f : Nat → Int32) (last : Int32) : Int32 := if last = 0 then 0 else if f 5 = 8 then 0 else 4
def pf_140 (f : Nat → Int32) (last goal : Int32) : Int32 := if pw_goes f = 0 then pf_167 f last else if goal = 0 then 4 else pf_167 f last
def pf_97 (f : Nat → Int32) (last goal : Int32) : Int32 := if pw_goes f = 0 then pf_140 f last goal else if 0 ≤ f 3 then pf_140 f last goal else 5
def pf_60 (f : Nat → Int32) (nx : Int64) (last goal : Int32) : Int32 := if pf_u f = 0 then (if f 5 = 7 then (if nx &&& 4294967295 = 0 then pf_97 f last goal else 3) else pf_97 f last goal) else 3
def pf_w (f : Nat → Int32) (nx : Int64) (last goal : Int32) : Int32 := if f 5 = 0 then 1 else if 11 ≤ f 1 then 2 else if 11 ≤ f 2 then 2 else if f 1 = 10 then (if pw_getsD f = 0 then pf_60 f nx last goal else 2) else pf_60 f nx last goal
theorem fo_167 {last : Int32} (B : jv_B h) : r_Fo_examineWord_167 h 5 last = some (pf_167 (h.2.1 7) last, h) := by
  simp only [r_Fo_examineWord_167, r_Fo_examineWord_183, r_Fo_examineWord_185, jR_5_1 B, jI_7 B, pf_167, pw_ite]
theorem fo_140 {n : Nat} {k last : Int32} (B : jv_B h) (hl : h.2.1 1 1 = nI n) : r_Fo_examineWord_140 h 5 1 k last = some (pf_140 (h.2.1 7) last (pf_goal (h.2.1 6) n (k + 1 + h.2.1 7 3)), h) := by
  simp only [r_Fo_examineWord_140, r_Fo_examineWord_183, fo_167 B, jlE, jR_5_1 B, jk_7 B, jk_5 B, w_goes (jS_7 B), w_goalFrom (jS_7 B), fo_goal B hl, jcI, pf_140, pw_ite]
def pf_last (f : Nat → Int32) (n : Nat) (k : Int32) : Int32 := if k + pw_words f < nI n then 0 else 1
theorem fo_119 {n : Nat} {k : Int32} (B : jv_B h) (hl : h.2.1 1 1 = nI n) : r_Fo_examineWord_119 h 5 1 k = some (pf_140 (h.2.1 7) (pf_last (h.2.1 7) n k) (pf_goal (h.2.1 6) n (k + 1 + h.2.1 7 3)), h) := by
  simp only [r_Fo_examineWord_119, fo_140 B hl, jR_5_1 B, jk_7 B, w_words (jS_7 B), jI_1 B, hl, jcI, pf_last]
  split <;> rfl
theorem fo_97 {n : Nat} {k : Int32} (B : jv_B h) (hl : h.2.1 1 1 = nI n) : r_Fo_examineWord_97 h 5 1 k = some (pf_97 (h.2.1 7) (pf_last (h.2.1 7) n k) (pf_goal (h.2.1 6) n (k + 1 + h.2.1 7 3)), h) := by
  simp only [r_Fo_examineWord_97, fo_119 B hl, jR_5_1 B, jk_7 B, jI_7 B, w_goes (jS_7 B), jcI, pf_97, pw_ite]
def pf_nx (W : Nat → Int64) (n k : Nat) : Int64 := if k < n then W k else 0
theorem fo_60 {n k : Nat} (B : jv_B h) (hl : h.2.1 1 1 = nI n) (hn : n ≤ 1024) (hk : k < 1024) : r_Fo_examineWord_60 h 5 1 (nI k) = some (pf_60 (h.2.1 7) (pf_nx (h.2.2.1 2) n (k + 1)) (pf_last (h.2.1 7) n (nI k)) (pf_goal (h.2.1 6) n (nI k + 1 + h.2.1 7 3)), h) := by
  have e : r_Co_at h 1 (nI k + 1) = some (pf_nx (h.2.2.1 2) n (k + 1), h) := by
    rw [lq_add1]
    exact w_at B hl hn (by omega)
  simp only [r_Fo_examineWord_60, r_Fo_examineWord_95, fo_97 B hl, fo_u B, jR_5_1 B, jk_5 B, jk_1 B, jI_7 B, e, jcI, jcL, pf_60, pw_ite]
theorem fo_w {n k : Nat} (B : jv_B h) (hl : h.2.1 1 1 = nI n) (hn : n ≤ 1024) (hk : k < 1024) : r_Fo_examineWord h 5 1 (nI k) = some (pf_w (h.2.1 7) (pf_nx (h.2.2.1 2) n (k + 1)) (pf_last (h.2.1 7) n (nI k)) (pf_goal (h.2.1 6) n (nI k + 1 + h.2.1 7 3)), h) := by
  simp only [r_Fo_examineWord, r_Fo_examineWord_58, fo_60 B hl hn hk, jR_5_1 B, jk_7 B, jI_7 B, w_getsD (jS_7 B), jcI, pf_w, pw_ite]
end FO
