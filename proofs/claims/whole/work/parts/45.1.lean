section M5
variable {h h1 : ja_H} {k d e n r goal : Nat} {σ τ : sg_S} {g : Nat → Int32} {T : Nat → Option sg_S} {x y4 : Int32}
theorem jcIs {x : Option (Int32 × ja_H)} : jc_I x (fun v h1 => some (v, h1)) = x := by
  cases x <;> rfl
theorem bm32 (z : Int) : ∃ m : Int, z.bmod (2 ^ 32) = z + m * 4294967296 := by
  refine ⟨-Int.bdiv z (2 ^ 32), ?_⟩
  rw [Int.bmod_eq_self_sub_mul_bdiv]
  have : ((2 ^ 32 : Nat) : Int) = 4294967296 := by decide
  rw [this]
  generalize Int.bdiv z (2 ^ 32) = q
  omega
theorem wd_shl {y : Int64} : Int32.toInt64 (Int64.toInt32 y) <<< (Int32.toInt64 (32 : Int32) &&& 63) = y <<< (Int32.toInt64 (32 : Int32) &&& 63) := by
  apply uN_inj.mp
  have q : ∀ v : Int64, uN (v <<< (Int32.toInt64 (32 : Int32) &&& 63)) = uN v * 4294967296 % 18446744073709551616 := fun v => uN_shl (x := v) (j := 32) (by decide)
  rw [q, q]
  have a := uN_int (Int32.toInt64 (Int64.toInt32 y))
  have b := uN_int y
  rw [ai_of32, Int64.toInt_toInt32] at a
  obtain ⟨m, hm⟩ := bm32 y.toInt
  rw [hm] at a
  have l1 := uN_lt y
  have l2 := uN_lt (Int32.toInt64 (Int64.toInt32 y))
  split at a <;> split at b <;> omega
theorem wide_eq {z : Int64} {i : Int32} (e : g 4 = i) : ((Int32.toInt64 i &&& 4294967295) ||| (Int32.toInt64 (jw_imm z) <<< (Int32.toInt64 (32 : Int32) &&& 63))) = pw_wide g z := by
  unfold pw_wide jw_imm jw_sh
  rw [wd_shl, Int64.or_comm, e]
theorem so_g (hg : jw_f (h.2.2.1 26 k) = g) (n0 : g 5 ≠ 0) : so (g 0) = g 5 ∧ ∃ i : Fin 256, g 0 = nI i.val := by
  have q := (mt_w (h.2.2.1 26 k)).2 (by rw [hg]; exact n0)
  obtain ⟨i, hi⟩ := jw_op_n (h.2.2.1 26 k)
  have g0 := (gq hg).1
  refine ⟨?_, i, by rw [← g0, hi]⟩
  rw [← g0, ← q.1, hg]
theorem mo_196n (q : ¬ x = 0) : r_Mo_one_196 h 25 x y4 = some (x, h) := by
  rw [r_Mo_one_196, if_neg q, r_Mo_one_209]
theorem mo_fin1 (b : jv_B h1) (hn : n ≤ 1024) (t : mT h1 n T) (hk : k < n) (m : mS h1 1024 τ) (ok : sg_ok τ) (okT : ∀ j τ, T j = some τ → sg_ok τ) (x0 : x = 0) (f : mo_f h h1) : mres h n T (r_Mo_one_196 h1 25 x (nI k)) (0, [(k, τ)]) := by
  obtain ⟨h', u1, u2, u3, u4⟩ := mo_comes (r := 1024) b hn t hk (by decide) (by omega) m ok (okT k)
  refine ⟨h', ?_, mo_ft f u2, fun _ => u3⟩
  have u1' : r_Mo_comes h1 25 1024 (nI k) = some h' := u1
  rw [r_Mo_one_196, if_pos x0, jk_25 b, u1', jcV, r_Mo_one_209, x0]
theorem mo_45 (b : jv_B h) (hn : n ≤ 1024) (hk : k < n) (hg : jw_f (h.2.2.1 26 k) = g) (w : gw g) (t : mT h n T) (m : mS h k σ) (ok : sg_ok σ) (okT : ∀ j τ, T j = some τ → sg_ok τ) (n1 : ¬ (¬ pw_usesOldD g = 0 ∧ (sg_l g σ).1 = 0)) (n2 : ¬ (¬ pw_usesS g = 0 ∧ (sg_r g σ).1 = 0)) (goals : ∀ p ∈ (sg_65 g (pf_nx (h.2.2.1 26) n (k + 1)) (h.2.1 25 9) k σ).2, p.1 < n) : mres h n T (r_Mo_one_45 h 25 (nI k)) (sg_65 g (pf_nx (h.2.2.1 26) n (k + 1)) (h.2.1 25 9) k σ) := by
  obtain ⟨g0, g1, g2, g3, g4, g6⟩ := gq hg
  have k1 : k < 1024 := by omega
  have k26 : k < 1026 := by omega
  obtain ⟨d, hd, d11⟩ := w.1
  have d75 : d < 75 := by omega
  have dd : (g 1).toNatClampNeg = d := by rw [hd, jn_clamp (by omega)]
  have hd' : jw_d (h.2.2.1 26 k) = nI d := by rw [g1, hd]
  have n0 : g 5 ≠ 0 := by
    rcases w.2.2.2.2.1 with q | q | q | q | q | q | q | q <;> rw [q] <;> decide
  obtain ⟨sg, i, hi⟩ := so_g hg n0
  have tw := (mt_w (h.2.2.1 26 k)).2 (by rw [hg]; exact n0)
  have t2 : mp_usesS (g 0) = pw_usesS g := by rw [← g0, tw.2.1, hg]
  obtain ⟨h1, u1, u2, u3⟩ := mo_copy (s := 1024) b k26 (by decide) (by omega) m ok
  have u1' : r_Mo_copy h 25 (nI k) 1024 = some h1 := u1
  have b1 := mF_B b u2
  have w1 : ∀ j, h1.2.2.1 26 j = h.2.2.1 26 j := fun j => u2.2.2.2 26 j (by omega)
  have hg1 : jw_f (h1.2.2.1 26 k) = g := by rw [w1]; exact hg
  have m1 : mS h1 k σ := mF_S u2 (by omega) m
  have t1 : mT h1 n T := mT_F hn (by decide) u2 t
  have f1 := mo_fF u2
  have l9 : h1.2.1 25 9 = h.2.1 25 9 := u2.2.2.1 25 9 (by omega) (by omega)
  have bad : ∀ (c : Int32) (h' : ja_H), mo_f h h' → ¬ c = 0 → mres h n T (some (c, h')) (c, []) := fun c h' f q => ⟨h', rfl, f, fun z => absurd z q⟩
  rw [r_Mo_one_45, jk_25 b, mo_op b k1, jcI, jlE, jlE, jlE, mo_test, jcI, g0, lq_ad1]
  unfold sg_65 at goals ⊢
  by_cases s1 : g 5 = 1
  · rw [if_pos s1] at goals ⊢
    have F := mt_1 i (by rw [← hi, sg, s1])
    have G := mt_1k i (by rw [← hi, sg, s1])
    rw [← hi] at F G
    rw [← g6] at G
    rw [F.2.2.2.2.1, if_pos rfl, jk_25 b, u1', jcV, if_neg F.2.2.2.2.2.2.2, if_neg F.2.2.2.2.2.2.1, mo_sum, jcI, F.2.2.2.1, if_neg i10, jk_25 b1]
    have im : g 6 = 13 → g 4 = 16 ∨ g 4 = 32 ∨ g 4 = 64 := fun q => by
      have p0 := G.2.2 q
      rw [g6] at p0
      have e5 : jw_f (h.2.2.1 26 k) 5 = pw_s3 (jw_op (h.2.2.1 26 k)) (jw_imm (h.2.2.1 26 k)) (jw_op (h.2.2.1 26 k) >>> (4 &&& 31)) := jw_f5 _
      rw [hg, g0, g4] at e5
      by_cases y1 : g 4 = 16
      · exact Or.inl y1
      · by_cases y2 : g 4 = 32
        · exact Or.inr (Or.inl y2)
        · by_cases y3 : g 4 = 64
          · exact Or.inr (Or.inr y3)
          · rw [s3_y y1 y2 y3, p0] at e5
            exact absurd e5 n0
    obtain ⟨x, hx⟩ := mo_summed b1 k1 hg1 w m1 ok s1 im (fun q => by rw [← t2]; exact G.2.1 q) n1 n2 G.1
    rw [hx, jcI, jlE, dd]
    unfold sg_to at goals ⊢
    rw [sg_gd_1, sg_gd_2, dd] at goals ⊢
    have okq := fun q : (pj_ar g (sg_l g σ) (sg_r g σ)).1 = 0 => sg_one_ok (z := 0) (len := 0) (k := k) w ok (k + 1, sg_set σ d (pj_ar g (sg_l g σ) (sg_r g σ)).2) (by
      rw [sg_one_e, if_neg n1, if_neg n2]
      unfold sg_65 sg_to
      rw [if_pos s1, sg_gd_1, sg_gd_2, dd, if_pos q]
      exact List.mem_singleton.mpr rfl)
    generalize pj_ar g (sg_l g σ) (sg_r g σ) = A at *
    by_cases z : A.1 = 0
    · rw [if_pos z] at goals
      rw [if_pos z, if_pos z]
      exact mo_fin1 (b1 : jv_B (mgv (ja_sI h1 25 16 x) 1024 d A.2)) hn (mT_F hn (Nat.le_refl _) (mF_g d75) (mT_w t1)) (goals _ (List.mem_singleton.mpr rfl)) (mS_g (mS_I (by decide) (by decide) u3) d75) (okq z) okT z (mo_ft f1 (mo_ft mo_fw (mo_fF (mF_g d75))))
    · rw [if_neg z, if_neg z, mo_196n z]
      exact bad _ _ f1 z
  rw [if_neg s1] at goals ⊢
  by_cases s2 : g 5 = 2
  · rw [if_pos s2] at goals ⊢
    have F := mt_2 i (by rw [← hi, sg, s2])
    have G := mt_2k i (by rw [← hi, sg, s2])
    rw [← hi] at F G
    rw [← g6] at G
    rw [F.2.2.2.2.1, if_neg i10, jk_25 b, jcIs]
    refine mo_tested b hn hk hg w t m ok okT s2 G F.2.2.2.2.2.1 ?_ n1 goals
    rw [← t2]
    unfold mp_usesS
    rw [F.2.2.2.1, if_pos rfl, F.2.2.2.2.1, if_neg i10, F.2.2.2.2.2.1, if_pos rfl]
  rw [if_neg s2] at goals ⊢
  by_cases s3 : g 5 = 3
  · rw [if_pos s3] at goals ⊢
    have F := mt_3 i (by rw [← hi, sg, s3])
    rw [← hi] at F
    rw [F.2.2.2.2.1, if_pos rfl, jk_25 b, u1', jcV, if_neg F.2.2.2.2.2.2.2, if_neg F.2.2.2.2.2.2.1, mo_sum, jcI, F.2.2.2.1, if_pos rfl, mo_reads, jcI, F.1, if_neg i10, jk_25 b1, mo_read b1 k1 hg1 w m1 ok s3 n2, l9]
    unfold rs
    rw [jcI, jlE, dd]
    unfold sg_to at goals ⊢
    rw [sg_gd_1, sg_gd_2, dd] at goals ⊢
    have okq := fun q : (sg_rdv g (h.2.1 25 9) σ).1 = 0 => sg_set_ok (d := d) ok (sg_rdv_ok (len := h.2.1 25 9) w ok q)
    generalize sg_rdv g (h.2.1 25 9) σ = A at *
    by_cases z : A.1 = 0
    · rw [if_pos z] at goals
      rw [if_pos z, if_pos z]
      exact mo_fin1 (b1 : jv_B (mgv h1 1024 d A.2)) hn (mT_F hn (Nat.le_refl _) (mF_g d75) t1) (goals _ (List.mem_singleton.mpr rfl)) (mS_g u3 d75) (okq z) okT z (mo_ft f1 (mo_fF (mF_g d75)))
    · rw [if_neg z, if_neg z, mo_196n z]
      exact bad _ _ f1 z
  rw [if_neg s3] at goals ⊢
  have sto : g 5 = 4 ∨ g 5 = 5 → mp_test (g 0) = 0 → ¬ g 0 = 149 → ¬ g 0 = 24 → mp_sum (g 0) = 0 → mp_reads (g 0) = 0 → mp_stores (g 0) = (if g 5 = 5 then 1 else 0) → (∀ p ∈ (sg_to (k + 1) (sg_stv g (h.2.1 25 9) σ)).2, p.1 < n) → mres h n T (if mp_test (g 0) = 0 then jk h 25 9 (jc_V (r_Mo_copy h 25 (nI k) 1024) (fun h8 => if g 0 = 149 then jk h8 25 9 (jc_I (r_Mo_is h8 25 (nI k) 0) (fun v32 h31 => if v32 = 1 then r_Mo_one_102 h31 0 else r_Mo_one_102 h31 14)) else if g 0 = 24 then jk h8 25 9 (jc_I (r_Mo_imm h8 25 (nI k)) (fun v23 h22 => jk h22 25 9 (jc_I (r_Mo_imm h22 25 (nI (k + 1))) (fun v25 h24 => jl ((Int32.toInt64 v23 &&& 4294967295) ||| (Int32.toInt64 v25 <<< (Int32.toInt64 32 &&& 63))) (fun x26 => jk h24 25 9 (jc_I (r_Mo_d h24 25 (nI k)) (fun v28 h27 => jk h27 25 9 (jc_V (r_Mo_give h27 25 1024 v28 1 x26 x26) (fun h29 => jl (nI k + 2) (fun x30 => r_Mo_one_196 h29 25 0 x30)))))))))) else jc_I (r_Mo_sum h8 (g 0)) (fun v10 h9 => if v10 = 0 then jc_I (r_Mo_reads h9 (g 0)) (fun v12 h11 => if v12 = 0 then jk h11 25 9 (jc_I (r_Mo_stored h11 25 (nI k)) (fun v14 h13 => jl v14 (fun x15 => r_Mo_one_196 h13 25 x15 (nI (k + 1))))) else jk h11 25 9 (jc_I (r_Mo_read h11 25 (nI k)) (fun v17 h16 => jl v17 (fun x18 => r_Mo_one_196 h16 25 x18 (nI (k + 1)))))) else jk h9 25 9 (jc_I (r_Mo_summed h9 25 (nI k)) (fun v20 h19 => jl v20 (fun x21 => r_Mo_one_196 h19 25 x21 (nI (k + 1)))))))) else jk h 25 9 (jc_I (r_Mo_tested h 25 (nI k)) (fun v34 h33 => some (v34, h33)))) (sg_to (k + 1) (sg_stv g (h.2.1 25 9) σ)) := by
    intro s45 F1 F2 F3 F4 F5 F6 gl
    obtain ⟨h2, v1, v2, v3⟩ := mo_stored b1 k1 hg1 w m1 u3 ok s45 F6 n1
    rw [l9] at v1 v3
    rw [F1, if_pos rfl, jk_25 b, u1', jcV, if_neg F2, if_neg F3, mo_sum, jcI, F4, if_pos rfl, mo_reads, jcI, F5, if_pos rfl, jk_25 b1, v1, jcI, jlE]
    have okq := sg_stv_ok (len := h.2.1 25 9) w ok
    unfold sg_to at gl ⊢
    generalize sg_stv g (h.2.1 25 9) σ = A at *
    by_cases z : A.1 = 0
    · rw [if_pos z] at gl ⊢
      exact mo_fin1 (mF_B b1 v2) hn (mT_F hn (Nat.le_refl _) v2 t1) (gl _ (List.mem_singleton.mpr rfl)) (v3 z) okq okT z (mo_ft f1 (mo_fF v2))
    · rw [if_neg z, mo_196n z]
      exact bad _ _ (mo_ft f1 (mo_fF v2)) z
  by_cases s4 : g 5 = 4
  · rw [if_pos s4] at goals ⊢
    have F := mt_4 i (by rw [← hi, sg, s4])
    rw [← hi] at F
    exact sto (Or.inl s4) F.2.2.2.2.1 F.2.2.2.2.2.2.2 F.2.2.2.2.2.2.1 F.2.2.2.1 F.1 (by rw [F.2.1, if_neg (by rw [s4]; decide)]) goals
  rw [if_neg s4] at goals ⊢
  by_cases s5 : g 5 = 5
  · rw [if_pos s5] at goals ⊢
    have F := mt_5 i (by rw [← hi, sg, s5])
    rw [← hi] at F
    exact sto (Or.inr s5) F.2.2.2.2.1 F.2.2.2.2.2.2.2 F.2.2.2.2.2.2.1 F.2.2.2.1 F.1 (by rw [F.2.1, if_pos s5]) goals
  rw [if_neg s5] at goals ⊢
  by_cases s6 : g 5 = 6
  · rw [if_pos s6] at goals ⊢
    have F := mt_6 i (by rw [← hi, sg, s6])
    rw [← hi] at F
    have o0 := w.2.2.2.2.2 (Or.inr s6)
    have o1 : (0 : Int32) ≤ g 3 := Int32.le_iff_toInt_le.mpr o0
    have gl : nI k + 1 + g 3 = nI (k + 1 + (g 3).toNatClampNeg) := by
      obtain ⟨q1, _⟩ := jn_of o1
      rw [lq_ad1]
      conv => lhs; rw [q1]
      rw [jn_add]
    obtain ⟨h', v1, v2, v3, v4⟩ := mo_comes b hn t (goals _ (List.mem_singleton.mpr rfl)) k26 (by omega) m ok (okT _)
    rw [F.2.2.2.2.1, if_neg i10, jk_25 b, jcIs, r_Mo_tested, jk_25 b, mo_op b k1, jcI, jlE, jlE, jk_25 b, mo_off b k1, jcI, jlE, mo_go, jcI, g0, g3, gl, F.2.2.2.2.2.1, if_neg i10, jk_25 b, v1, jcV]
    exact ⟨h', rfl, v2, fun _ => v3⟩
  rw [if_neg s6] at goals ⊢
  by_cases s7 : g 5 = 7
  · rw [if_pos s7] at goals ⊢
    have F := mt_7 i (by rw [← hi, sg, s7])
    rw [← hi] at F
    have kn : k + 2 < n := goals _ (List.mem_singleton.mpr rfl)
    have n149 : ¬ g 0 = 149 := F.2.2.2.2.2.2.2
    have hd1 : jw_d (h1.2.2.1 26 k) = nI d := by rw [w1]; exact hd'
    have wd : ((Int32.toInt64 (jw_imm (h1.2.2.1 26 k)) &&& 4294967295) ||| (Int32.toInt64 (jw_imm (h1.2.2.1 26 (k + 1))) <<< (Int32.toInt64 (32 : Int32) &&& 63))) = pw_wide g (pf_nx (h.2.2.1 26) n (k + 1)) := by
      unfold pf_nx
      rw [if_pos (show k + 1 < n by omega), w1, w1]
      exact wide_eq (by rw [g4])
    have gv : r_Mo_give h1 25 1024 (nI d) 1 (pw_wide g (pf_nx (h.2.2.1 26) n (k + 1))) (pw_wide g (pf_nx (h.2.2.1 26) n (k + 1))) = some (mgv h1 1024 d (1, pw_wide g (pf_nx (h.2.2.1 26) n (k + 1)), pw_wide g (pf_nx (h.2.2.1 26) n (k + 1)))) := mo_give (r := 1024) b1 (by decide) d75 (Or.inr (Or.inl rfl))
    rw [F.2.2.2.2.1, if_pos rfl, jk_25 b, u1', jcV, if_neg n149, if_pos F.2.2.2.2.2.2.1, jk_25 b1, mo_imm b1 k1, jcI, jk_25 b1, mo_imm b1 (show k + 1 < 1024 by omega), jcI, jlE, wd, jk_25 b1, mo_d b1 k1, jcI, hd1, jk_25 b1, gv, jcV, jlE, show nI k + 2 = nI (k + 2) from jn_add k 2, dd]
    exact mo_fin1 (b1 : jv_B (mgv h1 1024 d _)) hn (mT_F hn (Nat.le_refl _) (mF_g d75) t1) kn (mS_g u3 d75) (sg_set_ok ok (pv_1 (Int.le_refl _))) okT rfl (mo_ft f1 (mo_fF (mF_g d75)))
  rw [if_neg s7] at goals ⊢
  have s8 : g 5 = 8 := by
    rcases w.2.2.2.2.1 with q | q | q | q | q | q | q | q
    · exact absurd q s1
    · exact absurd q s2
    · exact absurd q s3
    · exact absurd q s4
    · exact absurd q s5
    · exact absurd q s6
    · exact absurd q s7
    · exact q
  have F := mt_8 i (by rw [← hi, sg, s8])
  rw [← hi] at F
  have is0 : r_Mo_is h1 25 (nI k) 0 = some ((σ.1 0).1, h1) := by
    have := mo_is (c := 0) b1 k26 (by decide)
    rw [m1.1 0 (by decide)] at this
    exact this
  rw [F.2.2.2.2.1, if_pos rfl, jk_25 b, u1', jcV, if_pos F.2.2.2.2.2.2.2, jk_25 b1, is0, jcI, r_Mo_one_102, r_Mo_one_102]
  by_cases z : (σ.1 0).1 = 1
  · rw [if_pos z, if_pos z]
    exact ⟨h1, rfl, f1, fun _ => t1⟩
  · rw [if_neg z, if_neg z]
    exact bad 14 _ f1 (by decide)
theorem mo_one (b : jv_B h) (hn : n ≤ 1024) (hk : k < n) (hg : jw_f (h.2.2.1 26 k) = g) (w : gw g) (t : mT h n T) (m : mS h k σ) (ok : sg_ok σ) (okT : ∀ j τ, T j = some τ → sg_ok τ) (goals : ∀ p ∈ (sg_one g (pf_nx (h.2.2.1 26) n (k + 1)) (h.2.1 25 9) k σ).2, p.1 < n) : mres h n T (r_Mo_one h 25 (nI k)) (sg_one g (pf_nx (h.2.2.1 26) n (k + 1)) (h.2.1 25 9) k σ) := by
  obtain ⟨g0, g1, g2, g3, g4, g6⟩ := gq hg
  have k1 : k < 1024 := by omega
  have k26 : k < 1026 := by omega
  obtain ⟨d, hd, d11⟩ := w.1
  obtain ⟨e, he, e11⟩ := w.2.1
  have d75 : d < 75 := by omega
  have e75 : e < 75 := by omega
  have dd : (g 1).toNatClampNeg = d := by rw [hd, jn_clamp (by omega)]
  have ee : (g 2).toNatClampNeg = e := by rw [he, jn_clamp (by omega)]
  have hd' : jw_d (h.2.2.1 26 k) = nI d := by rw [g1, hd]
  have he' : jw_s (h.2.2.1 26 k) = nI e := by rw [g2, he]
  have n0 : g 5 ≠ 0 := by
    rcases w.2.2.2.2.1 with q | q | q | q | q | q | q | q <;> rw [q] <;> decide
  have tw := (mt_w (h.2.2.1 26 k)).2 (by rw [hg]; exact n0)
  rw [hg] at tw
  have el : (mv h k d).1 = (sg_l g σ).1 := by
    unfold sg_l
    rw [dd, m.1 d d75]
  have bad : mres h n T (some (6, h)) (6, []) := ⟨h, rfl, mo_f0, fun z => absurd z (show ¬ (6 : Int32) = 0 by decide)⟩
  rw [sg_one_e] at goals ⊢
  have X : ¬ (¬ pw_usesOldD g = 0 ∧ (sg_l g σ).1 = 0) → mres h n T (r_Mo_one_21 h 25 (nI k)) (if ¬ pw_usesS g = 0 ∧ (sg_r g σ).1 = 0 then (6, []) else sg_65 g (pf_nx (h.2.2.1 26) n (k + 1)) (h.2.1 25 9) k σ) := fun n1 => by
    rw [if_neg n1] at goals
    rw [r_Mo_one_21, jk_25 b, mo_usesS b k1, jcI, tw.2.1]
    by_cases us : pw_usesS g = 0
    · have n2 : ¬ (¬ pw_usesS g = 0 ∧ (sg_r g σ).1 = 0) := fun q => q.1 us
      rw [if_neg n2] at goals
      rw [if_pos us, if_neg n2]
      exact mo_45 b hn hk hg w t m ok okT n1 n2 goals
    · have er : (mv h k e).1 = (sg_r g σ).1 := by
        unfold sg_r
        rw [if_neg us, ee, m.1 e e75]
      rw [if_neg us, jk_25 b, mo_s b k1, jcI, he', jk_25 b, mo_is b k26 e75, jcI, er]
      by_cases z : (sg_r g σ).1 = 0
      · rw [if_pos z, if_pos ⟨us, z⟩, r_Mo_one_42]
        exact bad
      · have n2 : ¬ (¬ pw_usesS g = 0 ∧ (sg_r g σ).1 = 0) := fun q => z q.2
        rw [if_neg n2] at goals
        rw [if_neg z, if_neg n2]
        exact mo_45 b hn hk hg w t m ok okT n1 n2 goals
  rw [r_Mo_one, jk_25 b, mo_usesD b k1, jcI, tw.2.2.1]
  by_cases ud : pw_usesOldD g = 0
  · have n1 : ¬ (¬ pw_usesOldD g = 0 ∧ (sg_l g σ).1 = 0) := fun q => q.1 ud
    rw [if_pos ud, if_neg n1]
    exact X n1
  · rw [if_neg ud, jk_25 b, mo_d b k1, jcI, hd', jk_25 b, mo_is b k26 d75, jcI, el]
    by_cases z : (sg_l g σ).1 = 0
    · rw [if_pos z, if_pos ⟨ud, z⟩, r_Mo_one_42]
      exact bad
    · have n1 : ¬ (¬ pw_usesOldD g = 0 ∧ (sg_l g σ).1 = 0) := fun q => z q.2
      rw [if_neg z, if_neg n1]
      exact X n1
end M5
