section M3
variable {h : ja_H} {k d e c a z : Nat} {σ : sg_S} {g : Nat → Int32} {lo hi : Int64} {r : pv_T}
theorem at32 {x : Int64} {y : Int32} : Int64.toInt32 x + y + 512 = Int64.toInt32 (x + y.toInt64 + 512) := by
  rw [Int64.toInt32_add, Int64.toInt32_add, Int32.toInt32_toInt64]
  rfl
theorem jn_118 {i : Nat} (hi : i < 2147483648) : (11 : Int32) + nI i / 8 = nI (11 + i / 8) := by
  rw [jn_div8 hi]
  exact jn_add 11 (i / 8)
theorem mo_r192 (b : jv_B h) (hk : k < 1024) (hd : jw_d (h.2.2.1 26 k) = nI d) (d75 : d < 75) (m : mS h k σ) (ok : sg_ok σ) (az : a + z ≤ 512) : ∀ (t n i : Nat), a ≤ i → i + n = a + z → n < t → r_Mo_read_192 t h 25 (nI k) (nI z) hi lo (nI a) (nI i) = if sg_rd σ i n = true then some (0, mgv h 1024 d (1, lo, hi)) else some (12, h) := by
  have k26 : k < 1026 := by omega
  intro t
  induction t with
  | zero => intro n i _ _ ht; omega
  | succ t ih =>
    intro n i ai ni ht
    show q_Mo_read_192 (r_Mo_read_192 t) h 25 (nI k) (nI z) hi lo (nI a) (nI i) = _
    rw [q_Mo_read_192, jn_add]
    cases n with
    | zero =>
      have e1 : nI (a + z) ≤ nI i := (jn_le (by omega) (by omega)).mpr (by omega)
      have gv : r_Mo_give h 25 1024 (nI d) 1 lo hi = some (mgv h 1024 d (1, lo, hi)) := mo_give (r := 1024) b (by decide) d75 (Or.inr (Or.inl rfl))
      rw [if_pos e1, jk_25 b, mo_d b hk, jcI, hd, jk_25 b, gv, jcV, if_pos (show sg_rd σ i 0 = true from rfl)]
    | succ n =>
      have e1 : ¬ nI (a + z) ≤ nI i := fun q => by
        rw [jn_le (by omega) (by omega)] at q
        omega
      have i5 : i < 512 := by omega
      have c75 : 11 + i / 8 < 75 := by omega
      have ec : mv h k (11 + i / 8) = σ.1 (11 + i / 8) := m.1 _ c75
      rw [if_neg e1, jz8, jk_25 b, jn_118 (by omega), mo_ptr b k26 c75 (by rw [ec]; exact pv_c (ok _ c75)), jcI, ec]
      have es : sg_rd σ i (n + 1) = (σ.2 i && decide (pn_ptr (σ.1 (11 + i / 8)) = 0) && sg_rd σ (i + 1) n) := rfl
      rw [es]
      by_cases p : pn_ptr (σ.1 (11 + i / 8)) = 0
      · rw [if_pos p, jR_25_13 b, mo_512, mo_E33 b k26 i5, m.2 i i5, decide_eq_true p, Bool.and_true]
        cases σ.2 i
        · rw [if_pos bo_f, Bool.false_and, if_neg Bool.false_ne_true, r_Mo_read_234]
        · rw [if_neg (by decide), jlE, lq_ad1, ih n (i + 1) (by omega) (by omega) (by omega), Bool.true_and]
      · rw [if_neg p, decide_eq_false p, Bool.and_false, Bool.false_and, if_neg Bool.false_ne_true, r_Mo_read_234]
theorem v_eta {v : pv_T} (v1 : v.1 = 1) : ((1, v.2.1, v.2.2) : pv_T) = v := by rw [← v1]
def rd_x (g : Nat → Int32) (σ : sg_S) (N l r : pv_T) : Int32 × pv_T := if r.1 = 3 then (if pw_size g = 8 ∧ sg_at g r % 8 = 0 ∧ ¬ (σ.1 (11 + sg_at g r / 8)).1 = 0 then (0, σ.1 (11 + sg_at g r / 8)) else if sg_rd σ (sg_at g r) (pw_size g).toNatClampNeg then (0, N) else (12, l)) else (0, N)
theorem rd_xe {len : Int32} : sg_rdv g len σ = if pj_reach g len (sg_r g σ) = 0 then rd_x g σ (pj_num g) (sg_l g σ) (sg_r g σ) else (pj_reach g len (sg_r g σ), sg_l g σ) := rfl
def rs (h : ja_H) (d : Nat) (q : Int32 × pv_T) : Option (Int32 × ja_H) := some (q.1, if q.1 = 0 then mgv h 1024 d q.2 else h)
theorem rs_0 {v : pv_T} : rs h d (0, v) = some (0, mgv h 1024 d v) := by
  unfold rs
  rw [if_pos rfl]
theorem rs_n {v : pv_T} {x : Int32} (q : ¬ x = 0) : rs h d (x, v) = some (x, h) := by
  unfold rs
  rw [if_neg q]
theorem mo_r68 {N l : pv_T} {len : Int32} (N1 : N.1 = 1) (b : jv_B h) (hk : k < 1024) (hg : jw_f (h.2.2.1 26 k) = g) (hd' : jw_d (h.2.2.1 26 k) = nI d) (d75 : d < 75) (e75 : e < 75) (w : gw g) (m : mS h k σ) (ok : sg_ok σ) (rr : r = mv h k e) (ro : pv_ok r) (c1 : pj_reach g len r = 0) : r_Mo_read_68 h 25 (nI k) (nI e) (pw_size g) N.2.2 N.2.1 = rs h d (rd_x g σ N l r) := by
  obtain ⟨g0, g1, g2, g3, g4, g6⟩ := gq hg
  have k26 : k < 1026 := by omega
  obtain ⟨z, hz, hz2⟩ := pw_size_n g
  have z8 : z ≤ 8 ∧ 0 < z := by omega
  have hzc : (pw_size g).toNatClampNeg = z := by rw [hz, jn_clamp (by omega)]
  have gvn : ∀ v : pv_T, mk4 v → r_Mo_give h 25 1024 (nI d) v.1 v.2.1 v.2.2 = some (mgv h 1024 d v) := fun v q => mo_give (r := 1024) b (by decide) d75 q
  have gn : r_Mo_give h 25 1024 (nI d) 1 N.2.1 N.2.2 = some (mgv h 1024 d N) := by
    have := gvn N (Or.inr (Or.inl N1))
    rw [N1] at this
    exact this
  rw [r_Mo_read_68, jlE, jk_25 b, mo_is b k26 e75, jcI, ← rr]
  unfold rd_x
  by_cases c2 : r.1 = 2
  · rw [if_pos c2, if_neg (c := r.1 = 3) (by rw [c2]; decide), jk_25 b, mo_d b hk, jcI, hd', jk_25 b, gn, jcV, rs_0]
  · have c3 : r.1 = 3 := by
      have q : pn_ptr r ≠ 0 := fun q => by
        unfold pj_reach at c1
        rw [if_pos q] at c1
        exact absurd c1 (by decide)
      exact (pp_1 q).resolve_left c2
    obtain ⟨a1, a2, a3⟩ := sg_at_ok ro c3 hz z8.1 w.2.2.1 c1
    have a5 : sg_at g r < 512 := by omega
    have c75 : 11 + sg_at g r / 8 < 75 := by omega
    have ec : mv h k (11 + sg_at g r / 8) = σ.1 (11 + sg_at g r / 8) := m.1 _ c75
    rw [if_neg c2, if_pos c3, jk_25 b, mo_least b k26 e75, jcL, ← rr, jk_25 b, mo_off b hk, jcI, g3, jlE, at32, a1, jz8, jlE, jn_118 (by omega), jn_mod8 (by omega)]
    have e188 : r_Mo_read_188 h 25 (nI k) (pw_size g) N.2.2 N.2.1 (nI (sg_at g r)) = rs h d (if sg_rd σ (sg_at g r) z = true then (0, N) else (12, l)) := by
      rw [r_Mo_read_188, jlE, hz, mo_r192 b hk hd' d75 m ok a2 ja_fu z _ (Nat.le_refl _) rfl (by rw [ja_fu_eq]; omega), v_eta N1]
      by_cases q : sg_rd σ (sg_at g r) z = true
      · rw [if_pos q, if_pos q, rs_0]
      · rw [if_neg q, if_neg q, rs_n (by decide)]
    rw [hzc]
    by_cases c4 : pw_size g = 8
    · rw [if_pos c4, jz8]
      by_cases c5 : sg_at g r % 8 = 0
      · rw [if_pos (show nI (sg_at g r % 8) = 0 by rw [c5]; rfl), jk_25 b, mo_is b k26 c75, jcI, ec]
        by_cases c6 : (σ.1 (11 + sg_at g r / 8)).1 = 0
        · rw [if_pos c6, if_neg (c := pw_size g = 8 ∧ _) (fun q => q.2.2 c6), e188]
        · rw [if_neg c6, if_pos (c := pw_size g = 8 ∧ _) ⟨c4, c5, c6⟩, jk_25 b, mo_d b hk, jcI, hd', jk_25 b, mo_is b k26 c75, jcI, jk_25 b, mo_least b k26 c75, jcL, jk_25 b, mo_most b k26 c75, jcL, jk_25 b, ec, gvn _ (pv_c (ok _ c75)), jcV, rs_0]
      · rw [if_neg (show ¬ nI (sg_at g r % 8) = 0 from fun q => c5 ((jn_inj (a := sg_at g r % 8) (b := 0) (by omega) (by decide)).mp q)), if_neg (c := pw_size g = 8 ∧ _) (fun q => c5 q.2.1), e188]
    · rw [if_neg c4, if_neg (c := pw_size g = 8 ∧ _) (fun q => c4 q.1), e188]
theorem pj_num_1 : (pj_num g).1 = 1 := by
  unfold pj_num
  split <;> rfl
theorem mo_r52 {y1 y2 : Int32} : (if pw_size g = 8 then r_Mo_read_52 h 25 y1 y2 (pw_size g) 9223372036854775807 else r_Mo_read_52 h 25 y1 y2 (pw_size g) (((1 : Int64) <<< (Int32.toInt64 (8 * pw_size g) &&& 63)) - 1)) = r_Mo_read_68 h 25 y1 y2 (pw_size g) (pj_num g).2.2 (pj_num g).2.1 := by
  by_cases c4 : pw_size g = 8
  · have : pj_num g = pn_any := if_pos c4
    rw [if_pos c4, r_Mo_read_52, jlE, if_pos c4, this, show pn_any.2.2 = 9223372036854775807 from rfl, show pn_any.2.1 = -9223372036854775808 from rfl]
  · have : pj_num g = (1, 0, ((1 : Int64) <<< (Int32.toInt64 (8 * pw_size g) &&& 63)) - 1) := if_neg c4
    rw [if_neg c4, r_Mo_read_52, jlE, if_neg c4, this]
theorem mo_read (b : jv_B h) (hk : k < 1024) (hg : jw_f (h.2.2.1 26 k) = g) (w : gw g) (m : mS h k σ) (ok : sg_ok σ) (s3 : g 5 = 3) (n2 : ¬ (¬ pw_usesS g = 0 ∧ (sg_r g σ).1 = 0)) : r_Mo_read h 25 (nI k) = rs h (g 1).toNatClampNeg (sg_rdv g (h.2.1 25 9) σ) := by
  obtain ⟨g0, g1, g2, g3, g4, g6⟩ := gq hg
  have k26 : k < 1026 := by omega
  obtain ⟨d, hd, d11⟩ := w.1
  obtain ⟨e, he, e11⟩ := w.2.1
  have d75 : d < 75 := by omega
  have e75 : e < 75 := by omega
  have dd : (g 1).toNatClampNeg = d := by rw [hd, jn_clamp (by omega)]
  have ee : (g 2).toNatClampNeg = e := by rw [he, jn_clamp (by omega)]
  have hd' : jw_d (h.2.2.1 26 k) = nI d := by rw [g1, hd]
  have us : pw_usesS g = 1 := by
    simp (decide := true) only [pw_usesS, s3, reduceIte]
  have rr : sg_r g σ = mv h k e := by
    unfold sg_r
    rw [if_neg (by rw [us]; exact i10), ee]
    exact (m.1 e e75).symm
  have r0 : (sg_r g σ).1 ≠ 0 := fun q => n2 ⟨by rw [us]; exact i10, q⟩
  have ro := sg_r_ok w ok
  have s0 : pw_stores g = 0 := by
    simp (decide := true) only [pw_stores, s3, reduceIte]
  have acc : r_Mo_access h 25 (nI k) (nI e) 0 = some (pj_reach g (h.2.1 25 9) (sg_r g σ), h) := by
    rw [rr]
    exact mo_access b hk hg e75 (by rw [← rr]; exact r0) (by rw [← rr]; exact ro) ⟨fun _ => s0, fun _ => rfl⟩
  rw [r_Mo_read, jk_25 b, mo_s b hk, jcI, g2, he, jlE, jk_25 b, acc, jcI, jlE, jk_25 b, mo_op b hk, jcI, mo_size, jcI, jlE, g0, mp_size_e, dd, rd_xe]
  by_cases c1 : pj_reach g (h.2.1 25 9) (sg_r g σ) = 0
  · rw [if_pos c1, if_pos c1, mo_r52]
    exact mo_r68 pj_num_1 b hk hg hd' d75 e75 w m ok rr ro c1
  · rw [if_neg c1, if_neg c1, rs_n c1]
theorem mo_524 {j : Nat} : (524288 : Int32) + nI j = nI (512 * 1024 + j) := jn_add 524288 j
theorem mo_s150 {C : ja_H → Nat → Int32 → Int32 → Int32 → Int32 → Int32 → Option (Int32 × ja_H)} {y1 y5 y6 y7 y8 : Int32} {j : Nat} (j1 : 11 ≤ j) (j2 : j < 75) : ∀ (t : Nat) (h : ja_H) (y : Nat), jv_B h → y ≤ 8 → 8 - y < t → ∃ h', r_Mo_stored_150 C t h 25 y1 y5 y6 y7 y8 (nI j) (nI y) = r_Mo_stored_184 C h' 25 y1 y5 y6 y7 y8 (nI j) ∧ mF 1024 h h' ∧ (∀ c, c < 75 → mv h' 1024 c = mv h 1024 c) ∧ (∀ i, i < 512 → h'.2.1 33 (512 * 1024 + i) = if i / 8 = j - 11 ∧ y ≤ i % 8 then 0 else h.2.1 33 (512 * 1024 + i)) := by
  intro t
  induction t with
  | zero => intro h y _ _ ht; omega
  | succ t ih =>
    intro h y b hy ht
    show ∃ h', q_Mo_stored_150 C (r_Mo_stored_150 C t) h 25 y1 y5 y6 y7 y8 (nI j) (nI y) = _ ∧ _
    have e1 : ((8 : Int32) ≤ nI y) = (8 ≤ y) := propext (jn_le (a := 8) (by omega) (by omega))
    rw [q_Mo_stored_150]
    simp only [e1]
    by_cases q : 8 ≤ y
    · rw [if_pos q]
      refine ⟨h, rfl, mF0, fun c hc => rfl, fun i hi => ?_⟩
      rw [if_neg (by omega)]
    · have e2 : (524288 : Int32) + (8 : Int32) * (nI j - 11) + nI y = nI (512 * 1024 + (8 * (j - 11) + y)) := by
        rw [show (11 : Int32) = nI 11 from rfl, jn_sub (by omega), show (8 : Int32) = nI 8 from rfl, jn_mul, mo_524, jn_add, Nat.add_assoc]
      have j5 : 8 * (j - 11) + y < 512 := by omega
      rw [if_neg q, jR_25_13 b, e2, mo_W33 b (by decide) j5 (Or.inl rfl), jlE, lq_ad1]
      have p : mF 1024 h (ja_sI h 33 (512 * 1024 + (8 * (j - 11) + y)) 0) := mF_z j5
      have b1 := mF_B b p
      obtain ⟨h', u1, u2, u3, u4⟩ := ih (ja_sI h 33 (512 * 1024 + (8 * (j - 11) + y)) 0) (y + 1) b1 (by omega) (by omega)
      refine ⟨h', u1, mFt p u2, fun c hc => (u3 c hc).trans mz_v, fun i hi => ?_⟩
      rw [u4 i hi, mz_j j5 hi]
      by_cases z : i = 8 * (j - 11) + y
      · rw [if_neg (by omega), if_pos ⟨rfl, z⟩, if_pos (by omega)]
      · rw [if_neg (c := 1024 = 1024 ∧ _) (fun w => z w.2)]
        by_cases y2 : i / 8 = j - 11 ∧ y + 1 ≤ i % 8
        · rw [if_pos y2, if_pos (by omega)]
        · rw [if_neg y2, if_neg (by omega)]
theorem mo_s115 {y7 : Int32} (az : a + z ≤ 512) (z0 : 0 < z) : ∀ (t : Nat) (h : ja_H) (i : Nat), jv_B h → (∀ c, c < 75 → mk4 (mv h 1024 c)) → a ≤ i → i ≤ a + z → a + z - i < t → ∃ h', r_Mo_stored_115 t h 25 (nI k) (nI z) (nI a) y7 (nI i) = r_Mo_stored_206 ja_fu h' 25 (nI k) (nI z) (nI a) y7 (nI a) ∧ mF 1024 h h' ∧ (∀ c, c < 75 → mv h' 1024 c = if i < a + z ∧ 11 + i / 8 ≤ c ∧ c ≤ 11 + (a + z - 1) / 8 then (0, 0, 0) else mv h 1024 c) ∧ (∀ j, j < 512 → h'.2.1 33 (512 * 1024 + j) = if (i < a + z ∧ i / 8 ≤ j / 8 ∧ j / 8 ≤ (a + z - 1) / 8) ∧ ¬ pn_ptr (mv h 1024 (11 + j / 8)) = 0 then 0 else h.2.1 33 (512 * 1024 + j)) := by
  intro t
  induction t with
  | zero => intro h i _ _ _ _ ht; omega
  | succ t ih =>
    intro h i b ok ai iz ht
    show ∃ h', q_Mo_stored_115 (r_Mo_stored_115 t) h 25 (nI k) (nI z) (nI a) y7 (nI i) = _ ∧ _
    have e1 : (nI a + nI z ≤ nI i) = (a + z ≤ i) := by
      rw [jn_add]
      exact propext (jn_le (by omega) (by omega))
    rw [q_Mo_stored_115]
    simp only [e1]
    by_cases q : a + z ≤ i
    · rw [if_pos q, jlE]
      refine ⟨h, rfl, mF0, fun c hc => ?_, fun j hj => ?_⟩
      · rw [if_neg (by omega)]
      · rw [if_neg (by omega)]
    · have c75 : 11 + i / 8 < 75 := by omega
      have p0 : pn_ptr ((0, 0, 0) : pv_T) = 0 := by decide
      have step : ∃ h1, (jk h 25 9 (jc_I (r_Mo_pointer h 25 1024 (nI (11 + i / 8))) (fun v4 h3 => if v4 = 0 then r_Mo_stored_184 (r_Mo_stored_115 t) h3 25 (nI k) (nI z) (nI a) y7 (nI i) (nI (11 + i / 8)) else jl 0 (fun x5 => r_Mo_stored_150 (r_Mo_stored_115 t) ja_fu h3 25 (nI k) (nI z) (nI a) y7 (nI i) (nI (11 + i / 8)) x5)))) = r_Mo_stored_115 t h1 25 (nI k) (nI z) (nI a) y7 (nI (i + 1)) ∧ mF 1024 h h1 ∧ (∀ c, c < 75 → mv h1 1024 c = if c = 11 + i / 8 then (0, 0, 0) else mv h 1024 c) ∧ (∀ j, j < 512 → h1.2.1 33 (512 * 1024 + j) = if j / 8 = i / 8 ∧ ¬ pn_ptr (mv h 1024 (11 + i / 8)) = 0 then 0 else h.2.1 33 (512 * 1024 + j)) := by
        have e184 : ∀ g : ja_H, jv_B g → r_Mo_stored_184 (r_Mo_stored_115 t) g 25 (nI k) (nI z) (nI a) y7 (nI i) (nI (11 + i / 8)) = r_Mo_stored_115 t (mgv g 1024 (11 + i / 8) (0, 0, 0)) 25 (nI k) (nI z) (nI a) y7 (nI (i + 1)) := fun g bg => by
          have gv : r_Mo_give g 25 1024 (nI (11 + i / 8)) 0 0 0 = some (mgv g 1024 (11 + i / 8) (0, 0, 0)) := mo_give (r := 1024) bg (by decide) c75 (Or.inl rfl)
          rw [r_Mo_stored_184, jk_25 bg, gv, jcV, jlE, lq_ad1]
        have vv : ∀ (g : ja_H) (c : Nat), c < 75 → mv (mgv g 1024 (11 + i / 8) (0, 0, 0)) 1024 c = if c = 11 + i / 8 then (0, 0, 0) else mv g 1024 c := fun g c hc => by
          rw [mgv_v c75 hc]
          by_cases y : c = 11 + i / 8
          · rw [if_pos ⟨rfl, y⟩, if_pos y]
          · rw [if_neg (fun w => y w.2), if_neg y]
        have pt : r_Mo_pointer h 25 1024 (nI (11 + i / 8)) = some (pn_ptr (mv h 1024 (11 + i / 8)), h) := mo_ptr (r := 1024) b (by decide) c75 (ok _ c75)
        rw [jk_25 b, pt, jcI]
        by_cases p : pn_ptr (mv h 1024 (11 + i / 8)) = 0
        · rw [if_pos p, e184 h b]
          refine ⟨_, rfl, mF_g c75, vv h, fun j hj => ?_⟩
          rw [mgv_j, if_neg (fun w => w.2 p)]
        · rw [if_neg p, jlE]
          obtain ⟨h', u1, u2, u3, u4⟩ := mo_s150 (C := r_Mo_stored_115 t) (y1 := nI k) (y5 := nI z) (y6 := nI a) (y7 := y7) (y8 := nI i) (show 11 ≤ 11 + i / 8 by omega) c75 ja_fu h 0 b (by omega) (by rw [ja_fu_eq]; decide)
          have u1' : r_Mo_stored_150 (r_Mo_stored_115 t) ja_fu h 25 (nI k) (nI z) (nI a) y7 (nI i) (nI (11 + i / 8)) 0 = _ := u1
          rw [u1', e184 h' (mF_B b u2)]
          refine ⟨_, rfl, mFt u2 (mF_g c75), fun c hc => ?_, fun j hj => ?_⟩
          · rw [vv h' c hc, u3 c hc]
          · rw [mgv_j, u4 j hj]
            by_cases y : j / 8 = i / 8
            · rw [if_pos (by omega), if_pos ⟨y, p⟩]
            · rw [if_neg (by omega), if_neg (fun w => y w.1)]
      obtain ⟨h1, s1, s2, s3, s4⟩ := step
      obtain ⟨h', u1, u2, u3, u4⟩ := ih h1 (i + 1) (mF_B b s2) (fun c hc => by
        rw [s3 c hc]
        split
        · exact Or.inl rfl
        · exact ok c hc) (by omega) (by omega) (by omega)
      refine ⟨h', ?_, mFt s2 u2, fun c hc => ?_, fun j hj => ?_⟩
      · rw [if_neg q, jz8, jlE, jn_118 (by omega), ← u1]
        exact s1
      · rw [u3 c hc, s3 c hc]
        by_cases y : c = 11 + i / 8
        · rw [if_pos y, ite_self, if_pos (by omega)]
        · rw [if_neg y]
          by_cases y2 : i + 1 < a + z ∧ 11 + (i + 1) / 8 ≤ c ∧ c ≤ 11 + (a + z - 1) / 8
          · rw [if_pos y2, if_pos (by omega)]
          · rw [if_neg y2, if_neg (by omega)]
      · have j75 : 11 + j / 8 < 75 := by omega
        rw [u4 j hj, s3 _ j75, s4 j hj]
        by_cases y : j / 8 = i / 8
        · have y1 : 11 + j / 8 = 11 + i / 8 := by omega
          rw [if_pos (c := 11 + j / 8 = 11 + i / 8) y1, p0, if_neg (c := _ ∧ ¬ (0 : Int32) = 0) (fun w => w.2 rfl), y]
          by_cases p : pn_ptr (mv h 1024 (11 + i / 8)) = 0
          · rw [if_neg (fun w => w.2 p), if_neg (fun w => w.2 p)]
          · rw [if_pos ⟨rfl, p⟩, if_pos ⟨by omega, p⟩]
        · rw [if_neg (c := 11 + j / 8 = 11 + i / 8) (by omega), if_neg (c := j / 8 = i / 8 ∧ _) (fun w => y w.1)]
          by_cases p : pn_ptr (mv h 1024 (11 + j / 8)) = 0
          · rw [if_neg (fun w => w.2 p), if_neg (fun w => w.2 p)]
          · by_cases y2 : i + 1 < a + z ∧ (i + 1) / 8 ≤ j / 8 ∧ j / 8 ≤ (a + z - 1) / 8
            · rw [if_pos ⟨y2, p⟩, if_pos ⟨by omega, p⟩]
            · rw [if_neg (fun w => y2 w.1), if_neg (fun w => y2 (by omega))]
theorem mo_s206 {y7 : Int32} {E : ja_H → Option (Int32 × ja_H)} (az : a + z ≤ 512) (hE : ∀ C g, q_Mo_stored_206 C g 25 (nI k) (nI z) (nI a) y7 (nI (a + z)) = E g) : ∀ (t : Nat) (h : ja_H) (i : Nat), jv_B h → a ≤ i → i ≤ a + z → a + z - i < t → ∃ h', r_Mo_stored_206 t h 25 (nI k) (nI z) (nI a) y7 (nI i) = E h' ∧ mF 1024 h h' ∧ (∀ c, c < 75 → mv h' 1024 c = mv h 1024 c) ∧ (∀ j, j < 512 → h'.2.1 33 (512 * 1024 + j) = if i ≤ j ∧ j < a + z then 1 else h.2.1 33 (512 * 1024 + j)) := by
  intro t
  induction t with
  | zero => intro h i _ _ _ ht; omega
  | succ t ih =>
    intro h i b ai iz ht
    show ∃ h', q_Mo_stored_206 (r_Mo_stored_206 t) h 25 (nI k) (nI z) (nI a) y7 (nI i) = _ ∧ _
    by_cases q : a + z ≤ i
    · have : i = a + z := by omega
      subst this
      refine ⟨h, hE _ _, mF0, fun c hc => rfl, fun j hj => ?_⟩
      rw [if_neg (by omega)]
    · have e1 : ¬ nI a + nI z ≤ nI i := by
        rw [jn_add, jn_le (by omega) (by omega)]
        exact q
      have i5 : i < 512 := by omega
      have p : mF 1024 h (ja_sI h 33 (512 * 1024 + i) 1) := mF_z i5
      obtain ⟨h', u1, u2, u3, u4⟩ := ih (ja_sI h 33 (512 * 1024 + i) 1) (i + 1) (mF_B b p) (by omega) (by omega) (by omega)
      refine ⟨h', ?_, mFt p u2, fun c hc => (u3 c hc).trans mz_v, fun j hj => ?_⟩
      · rw [q_Mo_stored_206, if_neg e1, jR_25_13 b, mo_524, mo_W33 b (by decide) i5 (Or.inr rfl), jlE, lq_ad1]
        exact u1
      · rw [u4 j hj, mz_j i5 hj]
        by_cases y : j = i
        · subst y
          rw [if_neg (by omega), if_pos ⟨rfl, rfl⟩, if_pos (by omega)]
        · rw [if_neg (c := 1024 = 1024 ∧ _) (fun w => y w.2)]
          by_cases y2 : i + 1 ≤ j ∧ j < a + z
          · rw [if_pos y2, if_pos (by omega)]
          · rw [if_neg y2, if_neg (by omega)]
theorem mo_st111 (b : jv_B h) (hk : k < 1024) (az : a + z ≤ 512) (z0 : 0 < z) (z8 : z ≤ 8) (he : jw_s (h.2.2.1 26 k) = nI e) (e75 : e < 75) (m : mS h 1024 σ) (ok : sg_ok σ) (hr : mv h k e = r) (r4 : mk4 r) : (∃ h', r_Mo_stored_111 h 25 (nI k) (nI z) (nI a) 0 = some (0, h') ∧ mF 1024 h h' ∧ mS h' 1024 (sg_st σ a z)) ∧ (z = 8 → a % 8 = 0 → ∃ h', r_Mo_stored_111 h 25 (nI k) (nI z) (nI a) 1 = some (0, h') ∧ mF 1024 h h' ∧ mS h' 1024 (sg_kp σ a r)) := by
  have k26 : k < 1026 := by omega
  have ok4 : ∀ c, c < 75 → mk4 (mv h 1024 c) := fun c hc => by
    rw [m.1 c hc]
    exact pv_c (ok c hc)
  have zz : ∀ y7 : Int32, ∀ E : ja_H → Option (Int32 × ja_H), (∀ C g, q_Mo_stored_206 C g 25 (nI k) (nI z) (nI a) y7 (nI (a + z)) = E g) → ∃ h', r_Mo_stored_111 h 25 (nI k) (nI z) (nI a) y7 = E h' ∧ mF 1024 h h' ∧ mS h' 1024 (sg_st σ a z) := fun y7 E hE => by
    obtain ⟨h1, u1, u2, u3, u4⟩ := mo_s115 (k := k) (y7 := y7) az z0 ja_fu h a b ok4 (by omega) (by omega) (by rw [ja_fu_eq]; omega)
    obtain ⟨h2, v1, v2, v3, v4⟩ := mo_s206 (k := k) (y7 := y7) az hE ja_fu h1 a (mF_B b u2) (by omega) (by omega) (by rw [ja_fu_eq]; omega)
    refine ⟨h2, ?_, mFt u2 v2, fun c hc => ?_, fun j hj => ?_⟩
    · rw [r_Mo_stored_111, jlE]
      exact u1.trans v1
    · rw [v3 c hc, u3 c hc, m.1 c hc]
      show _ = if 11 + a / 8 ≤ c ∧ c ≤ 11 + (a + z - 1) / 8 then (0, 0, 0) else σ.1 c
      by_cases y : 11 + a / 8 ≤ c ∧ c ≤ 11 + (a + z - 1) / 8
      · rw [if_pos ⟨by omega, y⟩, if_pos y]
      · rw [if_neg (fun w => y w.2), if_neg y]
    · have j75 : 11 + j / 8 < 75 := by omega
      rw [v4 j hj, u4 j hj, m.1 _ j75, m.2 j hj]
      show _ = bo (if a ≤ j ∧ j < a + z then true else if a / 8 ≤ j / 8 ∧ j / 8 ≤ (a + z - 1) / 8 ∧ ¬ pn_ptr (σ.1 (11 + j / 8)) = 0 then false else σ.2 j)
      by_cases y : a ≤ j ∧ j < a + z
      · rw [if_pos y, if_pos y]
        rfl
      · rw [if_neg y, if_neg y]
        by_cases y2 : a / 8 ≤ j / 8 ∧ j / 8 ≤ (a + z - 1) / 8 ∧ ¬ pn_ptr (σ.1 (11 + j / 8)) = 0
        · rw [if_pos ⟨⟨by omega, y2.1, y2.2.1⟩, y2.2.2⟩, if_pos y2]
          rfl
        · rw [if_neg (fun w => y2 ⟨w.1.2.1, w.1.2.2, w.2⟩), if_neg y2]
  have e1 : nI a + nI z ≤ nI (a + z) := by
    rw [jn_add]
    exact (jn_le (by omega) (by omega)).mpr (Nat.le_refl _)
  refine ⟨?_, fun zz8 a8 => ?_⟩
  · exact zz 0 (fun g => some (0, g)) (fun C g => by rw [q_Mo_stored_206, if_pos e1, if_pos rfl, r_Mo_stored_284])
  · have c75 : 11 + a / 8 < 75 := by omega
    obtain ⟨h', u1, u2, u3⟩ := zz 1 (fun g => q_Mo_stored_206 (fun _ _ _ _ _ _ _ => none) g 25 (nI k) (nI z) (nI a) 1 (nI (a + z))) (fun C g => by rw [q_Mo_stored_206, q_Mo_stored_206, if_pos e1, if_pos e1])
    have b' := mF_B b u2
    have w' : h'.2.2.1 26 k = h.2.2.1 26 k := u2.2.2.2 26 k (by omega)
    have he' : jw_s (h'.2.2.1 26 k) = nI e := by rw [w']; exact he
    have hr' : mv h' k e = r := (mF_v u2 (by omega) e75).trans hr
    have gv : r_Mo_give h' 25 1024 (nI (11 + a / 8)) r.1 r.2.1 r.2.2 = some (mgv h' 1024 (11 + a / 8) r) := mo_give (r := 1024) b' (by decide) c75 r4
    refine ⟨mgv h' 1024 (11 + a / 8) r, ?_, mFt u2 (mF_g c75), fun c hc => ?_, fun j hj => ?_⟩
    · rw [u1, q_Mo_stored_206, if_pos e1, if_neg i10, jz8, jk_25 b', mo_s b' hk, jcI, he', jk_25 b', mo_is b' k26 e75, jcI, jk_25 b', mo_s b' hk, jcI, he', jk_25 b', mo_least b' k26 e75, jcL, jk_25 b', mo_s b' hk, jcI, he', jk_25 b', mo_most b' k26 e75, jcL, jk_25 b', jn_118 (by omega), hr', gv, jcV, r_Mo_stored_284]
    · rw [mgv_v c75 hc, u3.1 c hc]
      show _ = if c = 11 + a / 8 then r else σ.1 c
      by_cases y : c = 11 + a / 8
      · rw [if_pos ⟨rfl, y⟩, if_pos y]
      · rw [if_neg (fun w => y w.2), if_neg y]
        show (if 11 + a / 8 ≤ c ∧ c ≤ 11 + (a + z - 1) / 8 then (0, 0, 0) else σ.1 c) = σ.1 c
        rw [if_neg (by omega)]
    · rw [mgv_j, u3.2 j hj]
      show bo (if a ≤ j ∧ j < a + z then true else if a / 8 ≤ j / 8 ∧ j / 8 ≤ (a + z - 1) / 8 ∧ ¬ pn_ptr (σ.1 (11 + j / 8)) = 0 then false else σ.2 j) = bo (if j / 8 = a / 8 then true else σ.2 j)
      by_cases y : j / 8 = a / 8
      · rw [if_pos (by omega), if_pos y]
      · rw [if_neg (by omega), if_neg (by omega), if_neg y]
theorem mo_stored (b : jv_B h) (hk : k < 1024) (hg : jw_f (h.2.2.1 26 k) = g) (w : gw g) (m : mS h k σ) (m4 : mS h 1024 σ) (ok : sg_ok σ) (s45 : g 5 = 4 ∨ g 5 = 5) (hst : mp_stores (g 0) = if g 5 = 5 then 1 else 0) (n1 : ¬ (¬ pw_usesOldD g = 0 ∧ (sg_l g σ).1 = 0)) : ∃ h', r_Mo_stored h 25 (nI k) = some ((sg_stv g (h.2.1 25 9) σ).1, h') ∧ mF 1024 h h' ∧ ((sg_stv g (h.2.1 25 9) σ).1 = 0 → mS h' 1024 (sg_stv g (h.2.1 25 9) σ).2) := by
  obtain ⟨g0, g1, g2, g3, g4, g6⟩ := gq hg
  have k26 : k < 1026 := by omega
  obtain ⟨d, hd, d11⟩ := w.1
  obtain ⟨e, he, e11⟩ := w.2.1
  have d75 : d < 75 := by omega
  have e75 : e < 75 := by omega
  have dd : (g 1).toNatClampNeg = d := by rw [hd, jn_clamp (by omega)]
  have ee : (g 2).toNatClampNeg = e := by rw [he, jn_clamp (by omega)]
  have he' : jw_s (h.2.2.1 26 k) = nI e := by rw [g2, he]
  have st : pw_stores g = 1 := by
    rcases s45 with q | q <;> simp (decide := true) only [pw_stores, q, reduceIte]
  have uo : pw_usesOldD g = 1 := by
    unfold pw_usesOldD
    rw [st, if_neg i10]
  have lo := sg_l_ok w ok
  have ll : sg_l g σ = mv h k d := by
    unfold sg_l
    rw [dd]
    exact (m.1 d d75).symm
  have l0 : (sg_l g σ).1 ≠ 0 := fun q => n1 ⟨by rw [uo]; exact i10, q⟩
  have st1 : (1 : Int32) = 0 ↔ pw_stores g = 0 := by rw [st]
  have acc : r_Mo_access h 25 (nI k) (nI d) 1 = some (pj_reach g (h.2.1 25 9) (sg_l g σ), h) := by
    rw [ll]
    exact mo_access b hk hg d75 (by rw [← ll]; exact l0) (by rw [← ll]; exact lo) st1
  rw [r_Mo_stored, jk_25 b, mo_op b hk, jcI, jlE, jk_25 b, mo_d b hk, jcI, jlE, g0, g1, hd, jk_25 b, acc, jcI, jlE, mo_size, jcI, jlE, mp_size_e]
  unfold sg_stv
  by_cases c1 : pj_reach g (h.2.1 25 9) (sg_l g σ) = 0
  · rw [if_pos c1, if_pos c1]
    have l3 : (sg_l g σ).1 = 3 := pj_r3 (by rw [st]; exact i10) c1
    obtain ⟨z, hz, hz2⟩ := pw_size_n g
    have z8 : z ≤ 8 ∧ 0 < z := by omega
    have hzc : (pw_size g).toNatClampNeg = z := by rw [hz, jn_clamp (by omega)]
    obtain ⟨a1, a2, a3⟩ := sg_at_ok lo l3 hz z8.1 w.2.2.1 c1
    have me := m.1 e e75
    have ro : mk4 (mv h k e) := by
      rw [me]
      exact pv_c (ok e e75)
    obtain ⟨s0, s1⟩ := mo_st111 (r := mv h k e) b hk a2 z8.2 z8.1 he' e75 m4 ok rfl ro
    rw [jk_25 b, mo_least b k26 d75, jcL, ← ll, jk_25 b, mo_off b hk, jcI, g3, jlE, at32, a1, mo_stores, jcI, hst, jn_mod8 (by omega)]
    have e81 : ∀ y7 : Int32, r_Mo_stored_81 h 25 (nI k) (g 0) (pw_size g) (nI (sg_at g (sg_l g σ))) y7 = if g 5 = 5 then (if pn_ptr (mv h k e) = 0 then r_Mo_stored_111 h 25 (nI k) (nI z) (nI (sg_at g (sg_l g σ))) y7 else if y7 = 0 then some (13, h) else r_Mo_stored_111 h 25 (nI k) (nI z) (nI (sg_at g (sg_l g σ))) y7) else r_Mo_stored_111 h 25 (nI k) (nI z) (nI (sg_at g (sg_l g σ))) y7 := fun y7 => by
      rw [r_Mo_stored_81, jlE, mo_stores, jcI, hst, hz]
      by_cases q : g 5 = 5
      · rw [if_pos q, if_pos q, if_neg i10, jk_25 b, mo_s b hk, jcI, he', jk_25 b, mo_ptr b k26 e75 ro, jcI]
      · rw [if_neg q, if_neg q, if_pos rfl]
    rw [hzc]
    by_cases q5 : g 5 = 5
    · have us : pw_usesS g = 1 := by
        simp (decide := true) only [pw_usesS, q5, reduceIte]
      have rr : sg_r g σ = mv h k e := by
        unfold sg_r
        rw [if_neg (by rw [us]; exact i10), ee]
        exact me.symm
      rw [rr, if_pos q5, if_neg i10, r_Mo_stored_80, e81, e81, if_pos q5, if_pos q5]
      by_cases c2 : pw_size g = 8 ∧ sg_at g (sg_l g σ) % 8 = 0
      · have hz8 : z = 8 := by
          have := hz.symm.trans c2.1
          exact (jn_inj (a := z) (b := 8) (by omega) (by decide)).mp this
        rw [if_pos c2.1, jz8, if_pos (show nI (sg_at g (sg_l g σ) % 8) = 0 by rw [c2.2]; rfl), if_pos (c := g 5 = 5 ∧ _) ⟨q5, c2.1, c2.2⟩, if_neg i10, ite_self]
        obtain ⟨h', u1, u2, u3⟩ := s1 hz8 c2.2
        exact ⟨h', u1, u2, fun _ => u3⟩
      · have nc : ¬ (g 5 = 5 ∧ pw_size g = 8 ∧ sg_at g (sg_l g σ) % 8 = 0) := fun q => c2 q.2
        have tail : ∃ h', (if pn_ptr (mv h k e) = 0 then r_Mo_stored_111 h 25 (nI k) (nI z) (nI (sg_at g (sg_l g σ))) 0 else if (0 : Int32) = 0 then some (13, h) else r_Mo_stored_111 h 25 (nI k) (nI z) (nI (sg_at g (sg_l g σ))) 0) = some ((if pn_ptr (mv h k e) = 0 then ((0, sg_st σ (sg_at g (sg_l g σ)) z) : Int32 × sg_S) else (13, σ)).1, h') ∧ mF 1024 h h' ∧ ((if pn_ptr (mv h k e) = 0 then ((0, sg_st σ (sg_at g (sg_l g σ)) z) : Int32 × sg_S) else (13, σ)).1 = 0 → mS h' 1024 (if pn_ptr (mv h k e) = 0 then ((0, sg_st σ (sg_at g (sg_l g σ)) z) : Int32 × sg_S) else (13, σ)).2) := by
          by_cases p : pn_ptr (mv h k e) = 0
          · rw [if_pos p, if_pos p]
            obtain ⟨h', u1, u2, u3⟩ := s0
            exact ⟨h', u1, u2, fun _ => u3⟩
          · rw [if_neg p, if_neg p, if_pos rfl]
            exact ⟨h, rfl, mF0, fun q => absurd q (show ¬ (13 : Int32) = 0 by decide)⟩
        rw [if_neg nc]
        by_cases c3 : pw_size g = 8
        · have c4 : ¬ sg_at g (sg_l g σ) % 8 = 0 := fun q => c2 ⟨c3, q⟩
          rw [if_pos c3, jz8, if_neg (show ¬ nI (sg_at g (sg_l g σ) % 8) = 0 from fun q => c4 ((jn_inj (a := sg_at g (sg_l g σ) % 8) (b := 0) (by omega) (by decide)).mp q))]
          exact tail
        · rw [if_neg c3]
          exact tail
    · have q4 : g 5 = 4 := s45.resolve_right q5
      have us : pw_usesS g = 0 := by
        simp (decide := true) only [pw_usesS, pw_hasReg, q4, reduceIte, ite_self]
      have rr : sg_r g σ = (1, (g 4).toInt64, (g 4).toInt64) := if_pos us
      have pr : pn_ptr (sg_r g σ) = 0 := by
        rw [rr]
        unfold pn_ptr
        rw [if_neg (show ¬ (1 : Int32) = 2 by decide), if_neg (show ¬ (1 : Int32) = 3 by decide)]
      rw [if_neg q5, if_pos rfl, r_Mo_stored_80, e81, if_neg q5, if_neg (c := g 5 = 5 ∧ _) (fun q => q5 q.1), if_pos pr]
      obtain ⟨h', u1, u2, u3⟩ := s0
      exact ⟨h', u1, u2, fun _ => u3⟩
  · rw [if_neg c1, if_neg c1]
    exact ⟨h, rfl, mF0, fun q => absurd q c1⟩
end M3
