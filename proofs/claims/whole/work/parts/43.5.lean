section FM
variable {h : ja_H} {g : Nat → Int32} {u v l r : pv_T} {s t : sg_S} {len : Int32}
def sg_at (g : Nat → Int32) (p : pv_T) : Nat := (p.2.1.toInt + (g 3).toInt + 512).toNat
theorem ai_of32 (x : Int32) : x.toInt64.toInt = x.toInt := Int32.toInt_toInt64 x
theorem sg_at_ok {p : pv_T} {z : Nat} (hp : pv_ok p) (k3 : p.1 = 3) (hz : pw_size g = nI z) (z8 : z ≤ 8) (ho : -32768 ≤ (g 3).toInt ∧ (g 3).toInt ≤ 32767) (hr : pj_reach g len p = 0) : Int64.toInt32 (p.2.1 + (g 3).toInt64 + 512) = nI (sg_at g p) ∧ sg_at g p + z ≤ 512 ∧ (sg_at g p : Int) = p.2.1.toInt + (g 3).toInt + 512 := by
  have q := pv_k3 hp k3
  unfold pj_reach at hr
  rw [if_neg (pn_p3 k3), if_neg (by rw [k3]; decide)] at hr
  unfold pj_ins at hr
  have e1 := ai_of32 (g 3)
  have e2 := ai_add (x := p.2.1) (y := (g 3).toInt64) (by omega) (by omega)
  have e3 := ai_add (x := p.2.2) (y := (g 3).toInt64) (by rw [← q.1]; omega) (by rw [← q.1]; omega)
  have e4 : (pw_size g).toInt64.toInt = z := by rw [ai_of32, hz, jn_int (by omega)]
  have e5 := ai_add (x := p.2.2 + (g 3).toInt64) (y := (pw_size g).toInt64) (by rw [e3, ← q.1]; omega) (by rw [e3, ← q.1]; omega)
  have e6 : (512 : Int64).toInt = 512 := rfl
  have e7 := ai_add (x := p.2.1 + (g 3).toInt64) (y := 512) (by omega) (by omega)
  by_cases c1 : p.2.1 + (g 3).toInt64 < -512
  · rw [if_pos c1] at hr
    exact absurd hr (by decide)
  · rw [if_neg c1] at hr
    by_cases c2 : 0 < p.2.2 + (g 3).toInt64 + (pw_size g).toInt64
    · rw [if_pos c2] at hr
      exact absurd hr (by decide)
    · rw [ai_lt] at c1 c2
      rw [show (-512 : Int64).toInt = -512 from rfl] at c1
      rw [ai_nz, e5, e3, e4, ← q.1] at c2
      have e8 : (sg_at g p : Int) = p.2.1.toInt + (g 3).toInt + 512 := by
        unfold sg_at
        omega
      refine ⟨?_, by omega, e8⟩
      rw [← Int32.toInt_inj, Int64.toInt_toInt32, jn_int (by omega), e7, e6, e2, e1, e8]
      apply Int.bmod_eq_of_le_mul_two
      · show -(4294967296 : Int) ≤ _
        omega
      · show _ < (4294967296 : Int)
        omega
abbrev sg_F := Int32 × List (Nat × sg_S)
def sg_l (g : Nat → Int32) (s : sg_S) : pv_T := s.1 (g 1).toNatClampNeg
def sg_r (g : Nat → Int32) (s : sg_S) : pv_T := if pw_usesS g = 0 then (1, (g 4).toInt64, (g 4).toInt64) else s.1 (g 2).toNatClampNeg
def sg_nar (g : Nat → Int32) (k : Nat) (s : sg_S) (rel : Int32) : List (Nat × sg_S) := if (pj_nw g (sg_l g s) (sg_r g s) rel).1 = 0 then [] else [(k, sg_set s (g 1).toNatClampNeg (pj_nw g (sg_l g s) (sg_r g s) rel).2)]
def sg_cnd (g : Nat → Int32) (k : Nat) (s : sg_S) : sg_F := if pn_ptr (sg_l g s) = 0 then (if pn_ptr (sg_r g s) = 0 then (0, sg_nar g (k + 1 + (g 3).toNatClampNeg) s (g 6) ++ sg_nar g (k + 1) s (pw_opp g)) else (8, [])) else (8, [])
def sg_rdv (g : Nat → Int32) (len : Int32) (s : sg_S) : Int32 × pv_T := if pj_reach g len (sg_r g s) = 0 then (if (sg_r g s).1 = 3 then (if pw_size g = 8 ∧ sg_at g (sg_r g s) % 8 = 0 ∧ ¬ (s.1 (11 + sg_at g (sg_r g s) / 8)).1 = 0 then (0, s.1 (11 + sg_at g (sg_r g s) / 8)) else if sg_rd s (sg_at g (sg_r g s)) (pw_size g).toNatClampNeg then (0, pj_num g) else (12, sg_l g s)) else (0, pj_num g)) else (pj_reach g len (sg_r g s), sg_l g s)
def sg_stv (g : Nat → Int32) (len : Int32) (s : sg_S) : Int32 × sg_S := if pj_reach g len (sg_l g s) = 0 then (if g 5 = 5 ∧ pw_size g = 8 ∧ sg_at g (sg_l g s) % 8 = 0 then (0, sg_kp s (sg_at g (sg_l g s)) (sg_r g s)) else if pn_ptr (sg_r g s) = 0 then (0, sg_st s (sg_at g (sg_l g s)) (pw_size g).toNatClampNeg) else (13, s)) else (pj_reach g len (sg_l g s), s)
def sg_to (k : Nat) (q : Int32 × sg_S) : sg_F := if q.1 = 0 then (0, [(k, q.2)]) else (q.1, [])
def sg_gd (g : Nat → Int32) (s : sg_S) (q : Int32 × pv_T) : Int32 × sg_S := (q.1, sg_set s (g 1).toNatClampNeg q.2)
def pw_wide (g : Nat → Int32) (z : Int64) : Int64 := ((UInt64.toInt64 (Int64.toUInt64 z >>> (Int64.toUInt64 (Int32.toInt64 32) &&& Int64.toUInt64 63))) <<< (Int32.toInt64 32 &&& 63)) ||| ((Int32.toInt64 (g 4)) &&& 4294967295)
def sg_one (g : Nat → Int32) (z : Int64) (len : Int32) (k : Nat) (s : sg_S) : sg_F := if ¬ pw_usesOldD g = 0 ∧ (sg_l g s).1 = 0 then (6, []) else if ¬ pw_usesS g = 0 ∧ (sg_r g s).1 = 0 then (6, []) else if g 5 = 1 then sg_to (k + 1) (sg_gd g s (pj_ar g (sg_l g s) (sg_r g s))) else if g 5 = 2 then sg_cnd g k s else if g 5 = 3 then sg_to (k + 1) (sg_gd g s (sg_rdv g len s)) else if g 5 = 4 then sg_to (k + 1) (sg_stv g len s) else if g 5 = 5 then sg_to (k + 1) (sg_stv g len s) else if g 5 = 6 then (0, [(k + 1 + (g 3).toNatClampNeg, s)]) else if g 5 = 7 then (0, [(k + 2, sg_set s (g 1).toNatClampNeg (1, pw_wide g z, pw_wide g z))]) else (if (s.1 0).1 = 1 then 0 else 14, [])
def gw (g : Nat → Int32) : Prop := (∃ d, g 1 = nI d ∧ d < 11) ∧ (∃ e, g 2 = nI e ∧ e < 11) ∧ (-32768 ≤ (g 3).toInt ∧ (g 3).toInt ≤ 32767) ∧ (g 5 = 1 → g 6 = 11 ∨ ga_ok g) ∧ (g 5 = 1 ∨ g 5 = 2 ∨ g 5 = 3 ∨ g 5 = 4 ∨ g 5 = 5 ∨ g 5 = 6 ∨ g 5 = 7 ∨ g 5 = 8) ∧ (g 5 = 2 ∨ g 5 = 6 → 0 ≤ (g 3).toInt)
theorem gw_d (w : gw g) : (g 1).toNatClampNeg < 11 ∧ g 1 = nI (g 1).toNatClampNeg := by
  obtain ⟨d, e, hd⟩ := w.1
  rw [e, jn_clamp (by omega)]
  exact ⟨hd, rfl⟩
theorem gw_s (w : gw g) : (g 2).toNatClampNeg < 11 ∧ g 2 = nI (g 2).toNatClampNeg := by
  obtain ⟨d, e, hd⟩ := w.2.1
  rw [e, jn_clamp (by omega)]
  exact ⟨hd, rfl⟩
theorem sg_l_ok (w : gw g) (hs : sg_ok s) : pv_ok (sg_l g s) := hs _ (by have := (gw_d w).1; omega)
theorem sg_r_ok (w : gw g) (hs : sg_ok s) : pv_ok (sg_r g s) := by
  unfold sg_r
  split
  · exact pv_1 (Int.le_refl _)
  · exact hs _ (by have := (gw_s w).1; omega)
theorem sg_rdv_ok (w : gw g) (hs : sg_ok s) (h : (sg_rdv g len s).1 = 0) : pv_ok (sg_rdv g len s).2 := by
  revert h
  unfold sg_rdv
  by_cases c1 : pj_reach g len (sg_r g s) = 0
  · rw [if_pos c1]
    by_cases c2 : (sg_r g s).1 = 3
    · rw [if_pos c2]
      by_cases c3 : pw_size g = 8 ∧ sg_at g (sg_r g s) % 8 = 0 ∧ ¬ (s.1 (11 + sg_at g (sg_r g s) / 8)).1 = 0
      · rw [if_pos c3]
        have := (sg_at_ok (z := 8) (sg_r_ok w hs) c2 c3.1 (by omega) w.2.2.1 c1).2.1
        exact fun _ => hs _ (by omega)
      · rw [if_neg c3]
        split
        · exact fun _ => pj_num_ok
        · intro h
          exact absurd h (show ¬ (12 : Int32) = 0 by decide)
    · rw [if_neg c2]
      exact fun _ => pj_num_ok
  · rw [if_neg c1]
    intro h
    exact absurd h c1
theorem sg_stv_ok (w : gw g) (hs : sg_ok s) : sg_ok (sg_stv g len s).2 := by
  unfold sg_stv
  split
  · split
    · exact sg_kp_ok hs (sg_r_ok w hs)
    · split
      · exact sg_st_ok hs
      · exact hs
  · exact hs
theorem sg_to_ok {k : Nat} {q : Int32 × sg_S} (h : q.1 = 0 → sg_ok q.2) : ∀ p ∈ (sg_to k q).2, sg_ok p.2 := by
  unfold sg_to
  by_cases c : q.1 = 0
  · rw [if_pos c]
    intro p hp
    rw [List.mem_singleton.mp hp]
    exact h c
  · rw [if_neg c]
    intro p hp
    exact absurd hp List.not_mem_nil
theorem sg_gd_1 {q : Int32 × pv_T} : (sg_gd g s q).1 = q.1 := rfl
theorem sg_gd_2 {q : Int32 × pv_T} : (sg_gd g s q).2 = sg_set s (g 1).toNatClampNeg q.2 := rfl
theorem sg_nar_ok {k : Nat} {rel : Int32} (w : gw g) (hs : sg_ok s) (h1 : (sg_l g s).1 = 1) : ∀ p ∈ sg_nar g k s rel, sg_ok p.2 := by
  unfold sg_nar
  split
  · intro p hp
    exact absurd hp List.not_mem_nil
  · next c =>
    intro p hp
    rw [List.mem_singleton.mp hp]
    exact sg_set_ok hs (pj_nw_ok (sg_l_ok w hs) h1 c)
theorem pw_u1 (e : g 5 = 1) (n : g 6 ≠ 11) : pw_usesOldD g = 1 := by
  simp (decide := true) only [pw_usesOldD, pw_stores, e, if_neg n, reduceIte]
theorem pw_u2 (e : g 5 = 2) : pw_usesOldD g = 1 := by
  simp (decide := true) only [pw_usesOldD, pw_stores, e, reduceIte]
theorem sg_one_ok {z : Int64} {k : Nat} (w : gw g) (hs : sg_ok s) : ∀ p ∈ (sg_one g z len k s).2, sg_ok p.2 := by
  have nil : ∀ p ∈ ([] : List (Nat × sg_S)), sg_ok p.2 := fun p hp => absurd hp List.not_mem_nil
  unfold sg_one
  by_cases c1 : ¬ pw_usesOldD g = 0 ∧ (sg_l g s).1 = 0
  · rw [if_pos c1]
    exact nil
  rw [if_neg c1]
  by_cases c2 : ¬ pw_usesS g = 0 ∧ (sg_r g s).1 = 0
  · rw [if_pos c2]
    exact nil
  rw [if_neg c2]
  have r0 : (sg_r g s).1 ≠ 0 := by
    by_cases q : pw_usesS g = 0
    · unfold sg_r
      rw [if_pos q]
      exact (show ¬ (1 : Int32) = 0 by decide)
    · exact fun z => c2 ⟨q, z⟩
  by_cases s1 : g 5 = 1
  · rw [if_pos s1]
    refine sg_to_ok (fun q => ?_)
    rw [sg_gd_1] at q
    rw [sg_gd_2]
    refine sg_set_ok hs (pj_ar_ok (w.2.2.2.1 s1) (fun e13 => ?_) (sg_l_ok w hs) (sg_r_ok w hs) (fun n => ?_) r0 q)
    · unfold sg_r
      rw [if_pos]
      unfold pw_usesS pw_hasReg
      rw [s1, e13]
      split
      · next q => exact absurd q (by decide)
      · split
        · next q => exact absurd q (by decide)
        · rw [if_pos]
          split
          · rfl
          · rfl
    · intro z
      refine c1 ⟨?_, z⟩
      rw [pw_u1 s1 n]
      decide
  rw [if_neg s1]
  by_cases s2 : g 5 = 2
  · rw [if_pos s2]
    unfold sg_cnd
    by_cases p1 : pn_ptr (sg_l g s) = 0
    · rw [if_pos p1]
      by_cases p2 : pn_ptr (sg_r g s) = 0
      · rw [if_pos p2]
        have l1 : (sg_l g s).1 = 1 := pp_n (sg_l_ok w hs) (fun z => c1 ⟨by rw [pw_u2 s2]; decide, z⟩) p1
        intro p hp
        rcases List.mem_append.mp hp with q | q
        · exact sg_nar_ok w hs l1 p q
        · exact sg_nar_ok w hs l1 p q
      · rw [if_neg p2]
        exact nil
    · rw [if_neg p1]
      exact nil
  rw [if_neg s2]
  by_cases s3 : g 5 = 3
  · rw [if_pos s3]
    refine sg_to_ok (fun q => ?_)
    rw [sg_gd_1] at q
    rw [sg_gd_2]
    exact sg_set_ok hs (sg_rdv_ok (len := len) w hs q)
  rw [if_neg s3]
  by_cases s4 : g 5 = 4
  · rw [if_pos s4]
    exact sg_to_ok (fun q => sg_stv_ok w hs)
  rw [if_neg s4]
  by_cases s5 : g 5 = 5
  · rw [if_pos s5]
    exact sg_to_ok (fun q => sg_stv_ok w hs)
  rw [if_neg s5]
  by_cases s6 : g 5 = 6
  · rw [if_pos s6]
    intro p hp
    rw [List.mem_singleton.mp hp]
    exact hs
  rw [if_neg s6]
  by_cases s7 : g 5 = 7
  · rw [if_pos s7]
    intro p hp
    rw [List.mem_singleton.mp hp]
    exact sg_set_ok hs (pv_1 (Int.le_refl _))
  rw [if_neg s7]
  exact nil
end FM
