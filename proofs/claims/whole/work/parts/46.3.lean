section S5
variable {J K : jS} {σ : sg_S} {g : Nat → Int32} {v r : pv_T} {a b n k e : Nat} {R L : Int32 × Int64} {len : Int32}
def jso (J : jS) (a n : Nat) (R : Int32 × Int64) : jS := (J.1, fun e => if a / 8 ≤ e ∧ e ≤ (a + n - 1) / 8 then (if R.1 < 2 then (0, (J.2.1 e).2) else R) else J.2.1 e, fun j => if a ≤ j ∧ j < a + n then jo_m R.2 (j - a) else J.2.2.1 j, fun j => if a ≤ j ∧ j < a + n then true else if (a / 8 ≤ j / 8 ∧ j / 8 ≤ (a + n - 1) / 8) ∧ ¬ (J.2.1 (j / 8)).1 = 0 then false else J.2.2.2 j)
theorem jso_s : (jso J a n R).2.1 e = if a / 8 ≤ e ∧ e ≤ (a + n - 1) / 8 then (if R.1 < 2 then (0, (J.2.1 e).2) else R) else J.2.1 e := rfl
theorem jso_m {j : Nat} : (jso J a n R).2.2.1 j = if a ≤ j ∧ j < a + n then jo_m R.2 (j - a) else J.2.2.1 j := rfl
theorem jso_h {j : Nat} : (jso J a n R).2.2.2 j = if a ≤ j ∧ j < a + n then true else if (a / 8 ≤ j / 8 ∧ j / 8 ≤ (a + n - 1) / 8) ∧ ¬ (J.2.1 (j / 8)).1 = 0 then false else J.2.2.2 j := rfl
theorem sc_c (h : sc v J e) (s : K.2.1 e = J.2.1 e) (m : ∀ i, i < 8 → K.2.2.1 (8 * e + i) = J.2.2.1 (8 * e + i)) (hd : ∀ i, i < 8 → K.2.2.2 (8 * e + i) = J.2.2.2 (8 * e + i)) : sc v K e := by
  rcases h with h | ⟨h1, h2, h3, h4⟩ | ⟨h1, h2, h3⟩
  · exact Or.inl h
  · refine Or.inr (Or.inl ⟨h1, by rw [s]; exact h2, fun i hi => by rw [hd i hi]; exact h3 i hi, ?_⟩)
    rw [n8_c (f := J.2.2.1) 8 (8 * e) (8 * e) m]
    exact h4
  · exact Or.inr (Or.inr ⟨h1, by rw [s]; exact h2, by rw [s]; exact h3⟩)
theorem jso_o (n0 : 0 < n) (h : sc v J e) (o : ¬ (a / 8 ≤ e ∧ e ≤ (a + n - 1) / 8)) : sc v (jso J a n R) e := by
  refine sc_c h ?_ (fun i hi => ?_) (fun i hi => ?_)
  · rw [jso_s, if_neg o]
  · rw [jso_m, if_neg (by omega)]
  · rw [jso_h, if_neg (by omega), if_neg (fun q => o (by omega))]
theorem i12 : (1 : Int32) < 2 := by decide
theorem n2p {x : Int32} (h : x = 2 ∨ x = 3) : ¬ x < 2 := by
  rcases h with q | q <;> rw [q] <;> decide
theorem kp_s (hJ : sJ J σ) (a5 : a + 8 ≤ 512) (a8 : a % 8 = 0) (ro : pv_ok r) (r0 : r.1 ≠ 0) (hr : sv r R) : sJ (jso J a 8 R) (sg_kp σ a r) := by
  have hr' := hr.resolve_left r0
  have vc : ∀ c, (sg_kp σ a r).1 c = if c = 11 + a / 8 then r else σ.1 c := fun c => rfl
  have vb : ∀ j, (sg_kp σ a r).2 j = if j / 8 = a / 8 then true else σ.2 j := fun j => rfl
  have te : ∀ e, (a / 8 ≤ e ∧ e ≤ (a + 8 - 1) / 8) ↔ e = a / 8 := fun e => by omega
  refine ⟨fun c hc => ?_, fun e he => ?_, fun j hj hb => ?_⟩
  · rw [vc, if_neg (by omega)]
    exact hJ.1 c hc
  · rw [vc]
    by_cases y : e = a / 8
    · subst y
      rw [if_pos rfl]
      by_cases pr : pn_ptr r = 0
      · have r1 := pp_n ro r0 pr
        have R1 : R.1 = 1 := hr'.1.symm.trans r1
        refine Or.inr (Or.inl ⟨r1, ?_, fun i hi => ?_, ?_⟩)
        · rw [jso_s, if_pos (by omega), if_pos (by rw [R1]; exact i12)]
        · rw [jso_h, if_pos (by omega)]
        · have e8 : 8 * (a / 8) = a := by omega
          rw [e8, n8_num (Y := R.2) (fun j hj => by rw [jso_m, if_pos (by omega), show a + j - a = j by omega])]
          exact hr'.2
      · have R2 : R.1 = 2 ∨ R.1 = 3 := by
          rw [← hr'.1]
          exact pp_1 pr
        refine Or.inr (Or.inr ⟨pr, ?_, ?_⟩)
        · rw [jso_s, if_pos (by omega), if_neg (n2p R2)]
          exact hr'.1.symm
        · rw [jso_s, if_pos (by omega), if_neg (n2p R2)]
          exact hr'.2
    · rw [if_neg (by omega)]
      exact jso_o (by decide) (hJ.2.1 e he) (fun q => y ((te e).mp q))
  · rw [vb] at hb
    rw [vc, jso_h, jso_s]
    by_cases y : j / 8 = a / 8
    · rw [if_pos (by omega), if_pos (by omega), if_pos (by omega)]
      refine ⟨rfl, fun p => ?_⟩
      have R1 : R.1 = 1 := hr'.1.symm.trans (pp_n ro r0 p)
      rw [if_pos (by rw [R1]; exact i12)]
    · rw [if_neg y] at hb
      rw [if_neg (by omega), if_neg (by omega), if_neg (by omega), if_neg (by omega)]
      exact hJ.2.2 j hj hb
theorem sto_s (hJ : sJ J σ) (n0 : 0 < n) (an : a + n ≤ 512) (R1 : R.1 = 1) : sJ (jso J a n R) (sg_st σ a n) := by
  have vc : ∀ c, (sg_st σ a n).1 c = if 11 + a / 8 ≤ c ∧ c ≤ 11 + (a + n - 1) / 8 then (0, 0, 0) else σ.1 c := fun c => rfl
  have vb : ∀ j, (sg_st σ a n).2 j = if a ≤ j ∧ j < a + n then true else if a / 8 ≤ j / 8 ∧ j / 8 ≤ (a + n - 1) / 8 ∧ ¬ pn_ptr (σ.1 (11 + j / 8)) = 0 then false else σ.2 j := fun j => rfl
  have lt2 : R.1 < 2 := by rw [R1]; exact i12
  refine ⟨fun c hc => ?_, fun e he => ?_, fun j hj hb => ?_⟩
  · rw [vc, if_neg (by omega)]
    exact hJ.1 c hc
  · rw [vc]
    by_cases y : a / 8 ≤ e ∧ e ≤ (a + n - 1) / 8
    · rw [if_pos (by omega)]
      exact Or.inl rfl
    · rw [if_neg (by omega)]
      exact jso_o n0 (hJ.2.1 e he) y
  · rw [vb] at hb
    rw [vc, jso_h, jso_s]
    by_cases y : a ≤ j ∧ j < a + n
    · rw [if_pos y, if_pos (show a / 8 ≤ j / 8 ∧ j / 8 ≤ (a + n - 1) / 8 by omega), if_pos lt2]
      exact ⟨rfl, fun _ => rfl⟩
    · rw [if_neg y] at hb
      rw [if_neg y]
      by_cases y2 : a / 8 ≤ j / 8 ∧ j / 8 ≤ (a + n - 1) / 8
      · by_cases p : pn_ptr (σ.1 (11 + j / 8)) = 0
        · rw [if_neg (fun q => q.2.2 p)] at hb
          obtain ⟨d1, d2⟩ := hJ.2.2 j hj hb
          rw [if_pos y2, if_pos lt2, if_neg (fun q => q.2 (d2 p))]
          exact ⟨d1, fun _ => rfl⟩
        · rw [if_pos ⟨y2.1, y2.2, p⟩] at hb
          cases hb
      · rw [if_neg (fun q => y2 ⟨q.1, q.2.1⟩)] at hb
        rw [if_neg (c := 11 + a / 8 ≤ _ ∧ _) (by omega), if_neg y2, if_neg (fun q => y2 q.1)]
        exact hJ.2.2 j hj hb
theorem stv_s (w : gw g) (ok : sg_ok σ) (hJ : sJ J σ) (st : ¬ pw_stores g = 0) (l0 : (sg_l g σ).1 ≠ 0) (r0 : (sg_r g σ).1 ≠ 0) (c0 : (sg_stv g len σ).1 = 0) : sJ (jso J (jat g (jl_v g J)) (pw_size g).toNatClampNeg (jr_v g J)) (sg_stv g len σ).2 ∧ (jl_v g J).1 = 3 ∧ 0 ≤ (jl_v g J).2.toInt + (g 3).toInt + 512 ∧ jat g (jl_v g J) + (pw_size g).toNatClampNeg ≤ 512 ∧ ((jr_v g J).1 = 1 ∨ (g 5 = 5 ∧ pw_size g = 8 ∧ jat g (jl_v g J) % 8 = 0 ∧ ((jr_v g J).1 = 2 ∨ (jr_v g J).1 = 3))) := by
  have hl := (sv_l w hJ).resolve_left l0
  have hr := sv_r w hJ
  have hr' := hr.resolve_left r0
  have lo := sg_l_ok w ok
  have ro := sg_r_ok w ok
  obtain ⟨z, hz, hz2⟩ := pw_size_n g
  have zc : (pw_size g).toNatClampNeg = z := by rw [hz, jn_clamp (by omega)]
  have z8 : z ≤ 8 ∧ 0 < z := by omega
  unfold sg_stv at c0 ⊢
  by_cases c1 : pj_reach g len (sg_l g σ) = 0
  · rw [if_pos c1] at c0 ⊢
    have k3 : (sg_l g σ).1 = 3 := pj_r3 st c1
    have L3 : (jl_v g J).1 = 3 := hl.1.symm.trans k3
    obtain ⟨a1, a2, a3⟩ := sg_at_ok lo k3 hz z8.1 w.2.2.1 c1
    have q3 := pv_k3 lo k3
    have ex : (jl_v g J).2.toInt = (sg_l g σ).2.1.toInt := by
      have h1 := hl.2.1
      have h2 := hl.2.2
      rw [← q3.1] at h2
      omega
    have ea : jat g (jl_v g J) = sg_at g (sg_l g σ) := by
      unfold jat sg_at
      rw [ex]
    rw [ea, zc]
    rw [zc] at c0
    have b0 : 0 ≤ (jl_v g J).2.toInt + (g 3).toInt + 512 := by
      rw [ex]
      omega
    generalize sg_at g (sg_l g σ) = a at *
    by_cases c2 : g 5 = 5 ∧ pw_size g = 8 ∧ a % 8 = 0
    · rw [if_pos c2]
      have z88 : z = 8 := (jn_inj (a := z) (b := 8) (by omega) (by decide)).mp (hz.symm.trans c2.2.1)
      subst z88
      refine ⟨kp_s hJ a2 c2.2.2 ro r0 hr, L3, b0, a2, ?_⟩
      by_cases pr : pn_ptr (sg_r g σ) = 0
      · exact Or.inl (hr'.1.symm.trans (pp_n ro r0 pr))
      · exact Or.inr ⟨c2.1, c2.2.1, c2.2.2, by rw [← hr'.1]; exact pp_1 pr⟩
    · rw [if_neg c2] at c0 ⊢
      by_cases pr : pn_ptr (sg_r g σ) = 0
      · rw [if_pos pr]
        have R1 : (jr_v g J).1 = 1 := hr'.1.symm.trans (pp_n ro r0 pr)
        exact ⟨sto_s hJ z8.2 a2 R1, L3, b0, a2, Or.inl R1⟩
      · rw [if_neg pr] at c0
        exact absurd c0 (show ¬ (13 : Int32) = 0 by decide)
  · rw [if_neg c1] at c0
    exact absurd c0 c1
end S5
