section S6
variable {J : jS} {σ : sg_S} {g : Nat → Int32} {C : Nat → Int32} {k n : Nat} {z : Int64} {len : Int32} {W : Nat → Int64}
def jst (g : Nat → Int32) (z : Int64) (C : Nat → Int32) (k : Nat) (J : jS) : Nat × jS := if g 5 = 1 then (k + 1, jrg J (g 1).toNatClampNeg (jar g (jl_v g J) (jr_v g J))) else if g 5 = 2 then ((if ah (g 6) (a32 (g 0) (jl_v g J).2) (a32 (g 0) (jr_v g J).2) = 0 then k + 1 else k + 1 + (g 3).toNatClampNeg), J) else if g 5 = 3 then (k + 1, jrg J (g 1).toNatClampNeg (jrd g C J (jr_v g J))) else if g 5 = 4 ∨ g 5 = 5 then (k + 1, jso J (jat g (jl_v g J)) (pw_size g).toNatClampNeg (jr_v g J)) else if g 5 = 6 then (k + 1 + (g 3).toNatClampNeg, J) else (k + 2, jrg J (g 1).toNatClampNeg (1, pw_wide g z))
def jok (J : jS) : Prop := ∀ j, (J.2.2.1 j).toNatClampNeg < 256
theorem jok_o {a m : Nat} {R : Int32 × Int64} (h : jok J) (m8 : m ≤ 8) : jok (jso J a m R) := by
  intro j
  rw [jso_m]
  split
  · rw [jo_m_n (by omega), jn_clamp (by omega)]
    omega
  · exact h j
theorem jok_st (w : gw g) (h : jok J) : jok (jst g z C k J).2 := by
  obtain ⟨s, hs, hs2⟩ := pw_size_n g
  have sc : (pw_size g).toNatClampNeg = s := by rw [hs, jn_clamp (by omega)]
  unfold jst
  split
  · exact h
  · split
    · exact h
    · split
      · exact h
      · split
        · exact jok_o h (by omega)
        · split
          · exact h
          · exact h
theorem step_s (w : gw g) (g6 : g 6 = g 0 >>> (4 &&& 31)) (g47 : g 5 = 1 → g 0 &&& 7 = 4 ∨ g 0 &&& 7 = 7) (z13 : g 5 = 1 → g 6 = 13 → pw_usesS g = 0) (kd : g 5 = 2 → g 6 = 1 ∨ g 6 = 2 ∨ g 6 = 3 ∨ g 6 = 4 ∨ g 6 = 5 ∨ g 6 = 6 ∨ g 6 = 7 ∨ g 6 = 10 ∨ g 6 = 11 ∨ g 6 = 12 ∨ g 6 = 13) (ok : sg_ok σ) (jo : jok J) (hC : ∀ j, (C j).toNatClampNeg < 256) (l0 : 0 ≤ len.toInt) (hJ : sJ J σ) (c0 : (sg_one g z len k σ).1 = 0) (n8' : g 5 ≠ 8) : ∃ p ∈ (sg_one g z len k σ).2, p.1 = (jst g z C k J).1 ∧ sJ (jst g z C k J).2 p.2 := by
  have hd := (gw_d w).1
  rw [sg_one_e] at c0 ⊢
  by_cases n1 : ¬ pw_usesOldD g = 0 ∧ (sg_l g σ).1 = 0
  · rw [if_pos n1] at c0
    exact absurd c0 (show ¬ (6 : Int32) = 0 by decide)
  rw [if_neg n1] at c0 ⊢
  by_cases n2 : ¬ pw_usesS g = 0 ∧ (sg_r g σ).1 = 0
  · rw [if_pos n2] at c0
    exact absurd c0 (show ¬ (6 : Int32) = 0 by decide)
  rw [if_neg n2] at c0 ⊢
  have r0 : (sg_r g σ).1 ≠ 0 := by
    by_cases q : pw_usesS g = 0
    · unfold sg_r
      rw [if_pos q]
      exact i10
    · exact fun y => n2 ⟨q, y⟩
  have one : ∀ {q : Int32 × sg_S} {j : Nat} {K : jS}, (sg_to j q).1 = 0 → (q.1 = 0 → sJ K q.2) → ∃ p ∈ (sg_to j q).2, p.1 = j ∧ sJ K p.2 := fun {q j K} h1 h2 => by
    unfold sg_to at h1 ⊢
    by_cases y : q.1 = 0
    · rw [if_pos y]
      exact ⟨_, List.mem_singleton.mpr rfl, rfl, h2 y⟩
    · rw [if_neg y] at h1
      exact absurd h1 y
  unfold sg_65 at c0 ⊢
  unfold jst
  by_cases s1 : g 5 = 1
  · rw [if_pos s1] at c0 ⊢
    rw [if_pos s1]
    refine one c0 (fun q => ?_)
    rw [sg_gd_1] at q
    rw [sg_gd_2]
    refine sJ_set hJ hd (ar_s (w.2.2.2.1 s1) g6 (g47 s1) (fun e => ?_) (sg_l_ok w ok) (sg_r_ok w ok) (fun e y => n1 ⟨by rw [pw_u1 s1 e]; exact i10, y⟩) r0 (sv_l w hJ) (sv_r w hJ) q)
    unfold sg_r
    rw [if_pos (z13 s1 e)]
  rw [if_neg s1] at c0 ⊢
  rw [if_neg s1]
  by_cases s2 : g 5 = 2
  · rw [if_pos s2] at c0 ⊢
    rw [if_pos s2]
    exact cnd_s w ok hJ (kd s2) (fun y => n1 ⟨by rw [pw_u2 s2]; exact i10, y⟩) r0 c0
  rw [if_neg s2] at c0 ⊢
  rw [if_neg s2]
  by_cases s3 : g 5 = 3
  · rw [if_pos s3] at c0 ⊢
    rw [if_pos s3]
    refine one c0 (fun q => ?_)
    rw [sg_gd_1] at q
    rw [sg_gd_2]
    exact sJ_set hJ hd (rd_s w ok hJ jo hC (by simp (decide := true) only [pw_stores, s3, reduceIte]) l0 r0 q).1
  rw [if_neg s3] at c0 ⊢
  rw [if_neg s3]
  have stt : g 5 = 4 ∨ g 5 = 5 → (sg_to (k + 1) (sg_stv g len σ)).1 = 0 → ∃ p ∈ (sg_to (k + 1) (sg_stv g len σ)).2, p.1 = k + 1 ∧ sJ (jso J (jat g (jl_v g J)) (pw_size g).toNatClampNeg (jr_v g J)) p.2 := fun s45 h1 => by
    have st : pw_stores g = 1 := by
      rcases s45 with q | q <;> simp (decide := true) only [pw_stores, q, reduceIte]
    have uo : pw_usesOldD g = 1 := by
      unfold pw_usesOldD
      rw [st, if_neg i10]
    exact one h1 (fun q => (stv_s w ok hJ (by rw [st]; exact i10) (fun y => n1 ⟨by rw [uo]; exact i10, y⟩) r0 q).1)
  by_cases s4 : g 5 = 4
  · rw [if_pos s4] at c0 ⊢
    rw [if_pos (Or.inl s4)]
    exact stt (Or.inl s4) c0
  rw [if_neg s4] at c0 ⊢
  by_cases s5 : g 5 = 5
  · rw [if_pos s5] at c0 ⊢
    rw [if_pos (Or.inr s5)]
    exact stt (Or.inr s5) c0
  rw [if_neg s5] at c0 ⊢
  rw [if_neg (c := g 5 = 4 ∨ g 5 = 5) (fun q => q.elim s4 s5)]
  by_cases s6 : g 5 = 6
  · rw [if_pos s6] at c0 ⊢
    rw [if_pos s6]
    exact ⟨_, List.mem_singleton.mpr rfl, rfl, hJ⟩
  rw [if_neg s6] at c0 ⊢
  rw [if_neg s6]
  by_cases s7 : g 5 = 7
  · rw [if_pos s7]
    exact ⟨_, List.mem_singleton.mpr rfl, rfl, sJ_set hJ hd (Or.inr ⟨rfl, Int.le_refl _, Int.le_refl _⟩)⟩
  rcases w.2.2.2.2.1 with q | q | q | q | q | q | q | q
  · exact absurd q s1
  · exact absurd q s2
  · exact absurd q s3
  · exact absurd q s4
  · exact absurd q s5
  · exact absurd q s6
  · exact absurd q s7
  · exact absurd q n8'
theorem gw_k (w : gw (jw_f (W k))) : (jw_f (W k) 5 = 1 → jw_f (W k) 0 &&& 7 = 4 ∨ jw_f (W k) 0 &&& 7 = 7) ∧ (jw_f (W k) 5 = 1 → jw_f (W k) 6 = 13 → pw_usesS (jw_f (W k)) = 0) ∧ (jw_f (W k) 5 = 2 → jw_f (W k) 6 = 1 ∨ jw_f (W k) 6 = 2 ∨ jw_f (W k) 6 = 3 ∨ jw_f (W k) 6 = 4 ∨ jw_f (W k) 6 = 5 ∨ jw_f (W k) 6 = 6 ∨ jw_f (W k) 6 = 7 ∨ jw_f (W k) 6 = 10 ∨ jw_f (W k) 6 = 11 ∨ jw_f (W k) 6 = 12 ∨ jw_f (W k) 6 = 13) := by
  have n0 : jw_f (W k) 5 ≠ 0 := by
    rcases w.2.2.2.2.1 with q | q | q | q | q | q | q | q <;> rw [q] <;> decide
  obtain ⟨t1, t2, t3, t4⟩ := (mt_w (W k)).2 n0
  obtain ⟨i, hi⟩ := jw_op_n (W k)
  have f0 : jw_f (W k) 0 = jw_op (W k) := rfl
  have f6 : jw_f (W k) 6 = jw_op (W k) >>> (4 &&& 31) := rfl
  refine ⟨fun q => ?_, fun q e => ?_, fun q => ?_⟩
  · have G := mt_1k i (by rw [← hi, ← t1, q])
    rw [f0, hi]
    exact G.1
  · have G := mt_1k i (by rw [← hi, ← t1, q])
    rw [f6, hi] at e
    rw [← t2, hi]
    exact G.2.1 (Or.inr e)
  · have G := mt_2k i (by rw [← hi, ← t1, q])
    rw [f6, hi]
    exact G
def jS_0' : jS := (fun c => if c = 1 then (2, 0) else if c = 10 then (3, 0) else (0, 0), fun _ => (0, 0), fun _ => 0, fun _ => false)
theorem sJ_0 : sJ jS_0' sg_b := by
  refine ⟨fun c hc => ?_, fun e he => Or.inl ?_, fun j hj hb => ?_⟩
  · show sv (pb_0 c) (if c = 1 then (2, 0) else if c = 10 then (3, 0) else (0, 0))
    unfold pb_0
    by_cases c1 : c = 1
    · rw [if_pos c1, if_pos c1]
      exact Or.inr ⟨rfl, Int.le_refl _, Int.le_refl _⟩
    · rw [if_neg c1, if_neg c1]
      by_cases c2 : c = 10
      · rw [if_pos c2, if_pos c2]
        exact Or.inr ⟨rfl, Int.le_refl _, Int.le_refl _⟩
      · rw [if_neg c2, if_neg c2]
        exact Or.inl rfl
  · show (pb_0 (11 + e)).1 = 0
    unfold pb_0
    rw [if_neg (by omega), if_neg (by omega)]
  · cases hb
end S6
