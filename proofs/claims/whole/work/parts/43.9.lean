section FT
variable {h g : ja_H} {c k n m : Nat} {W : Nat → Int64}
def bo (b : Bool) : Int32 := if b = true then 1 else 0
theorem bo_t : bo true = 1 := rfl
theorem bo_f : bo false = 0 := rfl
theorem bo_0 {b : Bool} : bo b = 0 ↔ b = false := by
  cases b <;> decide
def sec (W : Nat → Int64) : Nat → Bool
  | 0 => false
  | k + 1 => !sec W k && decide (jw_sort (W k) = 7)
theorem sec_s : sec W (k + 1) = (!sec W k && decide (jw_sort (W k) = 7)) := rfl
theorem nar_z (b : Bool) : vp_nar .boolean (bo b) = bo b := by
  cases b <;> decide
theorem jw_t7 {w : Int64} {b : Nat} (hb : b < 7) : (jw_t h 7 w).2.1 7 b = jw_f w b := by
  unfold jw_t
  rw [ja_oI_at, if_pos hb]
theorem jw_to {a o : Nat} {w : Int64} (ha : a ≠ o) : (jw_t h o w).2.1 a = h.2.1 a := by
  funext j
  unfold jw_t
  rw [ja_oIr, if_neg ha]
theorem jw_tL {o : Nat} {w : Int64} : (jw_t h o w).2.2 = h.2.2 := rfl
theorem fo_mark (hn : n ≤ 1024) : ∀ (t : Nat) (h : ja_H) (j : Nat), jv_B h → h.2.1 1 1 = nI n → (∀ k, k < n → h.2.2.1 2 k = W k) → (∀ k, k < j → h.2.1 6 k = bo (sec W k)) → j ≤ n → n - j < t → ∃ h', r_Fo_markSeconds_4 t h 5 1 (bo (sec W j)) (nI j) = some h' ∧ h'.1 = h.1 ∧ h'.2.2 = h.2.2 ∧ (∀ a, a ≠ 6 → a ≠ 7 → h'.2.1 a = h.2.1 a) ∧ (∀ k, k < n → h'.2.1 6 k = bo (sec W k)) := by
  intro t
  induction t with
  | zero => intro h j _ _ _ _ _ ht; omega
  | succ t ih =>
    intro h j b h11 hW hs hj ht
    have e1 : (nI n ≤ nI j) = (n ≤ j) := propext (jn_le (by omega) (by omega))
    have e2 : ((1024 : Int32) ≤ nI j) = (1024 ≤ j) := propext (jn_le (a := 1024) (by omega) (by omega))
    show ∃ h', q_Fo_markSeconds_4 (r_Fo_markSeconds_4 t) h 5 1 (bo (sec W j)) (nI j) = some h' ∧ _
    simp only [q_Fo_markSeconds_4, r_Fo_markSeconds_58, r_Fo_markSeconds_59, r_Fo_markSeconds_66, jlE, jI_1 b, h11, e1, e2, lq_ad1]
    by_cases q : n ≤ j
    · rw [if_pos q]
      have : j = n := by omega
      subst this
      exact ⟨h, rfl, rfl, rfl, fun _ _ _ => rfl, hs⟩
    · have jn : j < n := by omega
      rw [if_neg q, if_neg (by omega), jR_5_0 b, jW_6 b (jn_jx (by omega) (by decide)), jn_clamp (by omega), nar_z]
      have b1 : jv_B (ja_sI h 6 j (bo (sec W j))) := b
      have h1 : (ja_sI h 6 j (bo (sec W j))).2.1 1 1 = nI n := by
        rw [ja_rI, if_neg (by omega)]
        exact h11
      rw [jR_5_1 b1, jk_1 b1, w_at b1 h1 hn (by omega), if_pos jn, jcL, jk_7 b1, w_take (jS_7 b1), jcV]
      rw [show (ja_sI h 6 j (bo (sec W j))).2.2.1 2 j = W j from hW j jn]
      have b2 : jv_B (jw_t (ja_sI h 6 j (bo (sec W j))) 7 (W j)) := b
      have i6 : (jw_t (ja_sI h 6 j (bo (sec W j))) 7 (W j)).2.1 6 = (ja_sI h 6 j (bo (sec W j))).2.1 6 := jw_to (by decide)
      obtain ⟨h', u1, u2, u3, u4, u5⟩ := ih (jw_t (ja_sI h 6 j (bo (sec W j))) 7 (W j)) (j + 1) b2 (by rw [jw_to (by decide)]; exact h1) hW (fun k hk => by
        rw [i6, ja_rI]
        by_cases z : k = j
        · rw [if_pos ⟨rfl, z⟩, z]
        · rw [if_neg (fun w => z w.2)]
          exact hs k (by omega)) (by omega) (by omega)
      refine ⟨h', ?_, u2, u3, fun a a6 a7 => ?_, u5⟩
      · rw [← u1, jR_5_1 b2, jI_7 b2, jw_t7 (by decide)]
        show (if bo (sec W j) = 0 then (if jw_sort (W j) = 7 then _ else _) else _) = _
        rw [sec_s]
        cases z : sec W j
        · rw [if_pos bo_f]
          by_cases y : jw_sort (W j) = 7
          · rw [if_pos y, decide_eq_true y]
            rfl
          · rw [if_neg y, decide_eq_false y]
            rfl
        · rw [if_neg (by decide)]
          rfl
      · rw [u4 a a6 a7, jw_to a7]
        funext i
        rw [ja_rI, if_neg (fun w => a6 w.1)]
def pc (W : Nat → Int64) (n k : Nat) : Int32 := pf_w (jw_f (W k)) (pf_nx W n (k + 1)) (pf_last (jw_f (W k)) n (nI k)) (pf_goal (fun j => bo (sec W j)) n (nI k + 1 + jw_f (W k) 3))
def px (W : Nat → Int64) (n : Nat) : Nat → Nat → Int32 × Int32
  | 0, _ => (0, -1)
  | f + 1, k => if sec W k = true then px W n f (k + 1) else if pc W n k = 0 then px W n f (k + 1) else (pc W n k, nI k)
theorem px_s {f : Nat} : px W n (f + 1) k = if sec W k = true then px W n f (k + 1) else if pc W n k = 0 then px W n f (k + 1) else (pc W n k, nI k) := rfl
theorem pf_wc {f f' : Nat → Int32} {x : Int64} {y z : Int32} (e : ∀ b, b < 7 → f b = f' b) : pf_w f x y z = pf_w f' x y z ∧ pf_last f n (nI k) = pf_last f' n (nI k) := by
  have a : ∃ F : Int32 → Int32 → Int32 → Int32 → Int32 → Int32 → Int32 → Int32 × Int32, ∀ f : Nat → Int32, (pf_w f x y z, pf_last f n (nI k)) = F (f 0) (f 1) (f 2) (f 3) (f 4) (f 5) (f 6) := ⟨fun a0 a1 a2 a3 a4 a5 a6 => (pf_w (fun b => match b with | 0 => a0 | 1 => a1 | 2 => a2 | 3 => a3 | 4 => a4 | 5 => a5 | _ => a6) x y z, pf_last (fun b => match b with | 0 => a0 | 1 => a1 | 2 => a2 | 3 => a3 | 4 => a4 | 5 => a5 | _ => a6) n (nI k)), fun f => rfl⟩
  obtain ⟨F, hF⟩ := a
  have : (pf_w f x y z, pf_last f n (nI k)) = (pf_w f' x y z, pf_last f' n (nI k)) := by
    rw [hF f, hF f', e 0 (by decide), e 1 (by decide), e 2 (by decide), e 3 (by decide), e 4 (by decide), e 5 (by decide), e 6 (by decide)]
  exact ⟨congrArg Prod.fst this, congrArg Prod.snd this⟩
theorem pf_goal_c {s s' : Nat → Int32} {x : Int32} (hn : n ≤ 1024) (e : ∀ k, k < n → s k = s' k) : pf_goal s n x = pf_goal s' n x := by
  unfold pf_goal
  by_cases c1 : x < 0
  · rw [if_pos c1, if_pos c1]
  · rw [if_neg c1, if_neg c1]
    by_cases c2 : nI n ≤ x
    · rw [if_pos c2, if_pos c2]
    · obtain ⟨e1, e2⟩ := jn_of (Int32.not_lt.mp c1)
      have : x.toNatClampNeg < n := by
        rw [e1, jn_le (by omega) e2] at c2
        omega
      rw [e _ this]
theorem fo_12 (hn : n ≤ 1024) : ∀ (t : Nat) (h : ja_H) (j : Nat), jv_B h → h.2.1 1 1 = nI n → (∀ k, k < n → h.2.2.1 2 k = W k) → (∀ k, k < n → h.2.1 6 k = bo (sec W k)) → h.2.1 5 2 = -1 → j ≤ n → n - j < t → ∃ h', r_Fo_examine_12 t h 5 1 (nI j) = some ((px W n (n - j) j).1, h') ∧ h'.1 = h.1 ∧ h'.2.2 = h.2.2 ∧ (∀ a, a ≠ 5 → a ≠ 7 → h'.2.1 a = h.2.1 a) ∧ h'.2.1 5 2 = (px W n (n - j) j).2 := by
  intro t
  induction t with
  | zero => intro h j _ _ _ _ _ _ ht; omega
  | succ t ih =>
    intro h j b h11 hW hs h52 hj ht
    have e1 : (nI n ≤ nI j) = (n ≤ j) := propext (jn_le (by omega) (by omega))
    have e2 : ((1024 : Int32) ≤ nI j) = (1024 ≤ j) := propext (jn_le (a := 1024) (by omega) (by omega))
    show ∃ h', q_Fo_examine_12 (r_Fo_examine_12 t) h 5 1 (nI j) = _ ∧ _
    simp only [q_Fo_examine_12, r_Fo_examine_66, r_Fo_examine_72, jlE, jI_1 b, h11, e1, e2, lq_ad1]
    by_cases q : n ≤ j
    · rw [if_pos q, show n - j = 0 by omega]
      exact ⟨h, rfl, rfl, rfl, fun _ _ _ => rfl, h52⟩
    · have jn : j < n := by omega
      rw [if_neg q, if_neg (by omega), jR_5_0 b, jE_6 b (jn_jx (by omega) (by decide)), jn_clamp (by omega), hs j jn, show n - j = n - (j + 1) + 1 by omega]
      rw [px_s]
      cases z : sec W j
      · rw [if_pos bo_f, if_neg Bool.false_ne_true]
        rw [jR_5_1 b, jk_1 b, w_at b h11 hn (by omega), if_pos jn, jcL, jk_7 b, w_take (jS_7 b), jcV, hW j jn]
        have b2 : jv_B (jw_t h 7 (W j)) := b
        have h2 : (jw_t h 7 (W j)).2.1 1 1 = nI n := by
          rw [jw_to (by decide)]
          exact h11
        have ec : pf_w ((jw_t h 7 (W j)).2.1 7) (pf_nx ((jw_t h 7 (W j)).2.2.1 2) n (j + 1)) (pf_last ((jw_t h 7 (W j)).2.1 7) n (nI j)) (pf_goal ((jw_t h 7 (W j)).2.1 6) n (nI j + 1 + (jw_t h 7 (W j)).2.1 7 3)) = pc W n j := by
          unfold pc
          have e7 : ∀ b, b < 7 → (jw_t h 7 (W j)).2.1 7 b = jw_f (W j) b := fun b hb => jw_t7 hb
          have nx : pf_nx ((jw_t h 7 (W j)).2.2.1 2) n (j + 1) = pf_nx W n (j + 1) := by
            unfold pf_nx
            by_cases y : j + 1 < n
            · rw [if_pos y, if_pos y]
              exact hW _ y
            · rw [if_neg y, if_neg y]
          rw [(pf_wc (k := j) (n := n) e7).1, (pf_wc (k := j) (n := n) (x := 0) (y := 0) (z := 0) e7).2, nx, e7 3 (by decide), jw_to (show 6 ≠ 7 by decide), pf_goal_c (s' := fun j => bo (sec W j)) hn hs]
        rw [jk_5 b2, fo_w b2 h2 hn (by omega), jcI, ec]
        by_cases y : pc W n j = 0
        · rw [if_pos y, if_pos y]
          obtain ⟨h', u1, u2, u3, u4, u5⟩ := ih (jw_t h 7 (W j)) (j + 1) b2 h2 hW (by rw [jw_to (show 6 ≠ 7 by decide)]; exact hs) (by rw [jw_to (show 5 ≠ 7 by decide)]; exact h52) (by omega) (by omega)
          exact ⟨h', u1, u2, u3, fun a a5 a7 => (u4 a a5 a7).trans (jw_to a7), u5⟩
        · rw [if_neg y, if_neg y, jpI_5 b2]
          refine ⟨_, rfl, rfl, rfl, fun a a5 a7 => ?_, ?_⟩
          · refine Eq.trans ?_ (jw_to (w := W j) a7)
            funext i
            rw [ja_rI, if_neg (fun w => a5 w.1)]
          · rw [ja_rI, if_pos ⟨rfl, rfl⟩]
      · rw [if_neg (show ¬ bo true = 0 by decide), if_pos rfl]
        exact ih h (j + 1) b h11 hW hs h52 (by omega) (by omega)
theorem fo_examine (b : jv_B h) (hn : n ≤ 1024) (h11 : h.2.1 1 1 = nI n) (hW : ∀ k, k < n → h.2.2.1 2 k = W k) : ∃ h', r_Fo_examine h 5 1 = some ((px W n n 0).1, h') ∧ h'.1 = h.1 ∧ h'.2.2 = h.2.2 ∧ (∀ a, a ≠ 5 → a ≠ 6 → a ≠ 7 → h'.2.1 a = h.2.1 a) ∧ h'.2.1 5 2 = (px W n n 0).2 := by
  have b1 : jv_B (ja_sI h 5 2 (-1)) := b
  have i1 : ∀ a, a ≠ 5 → (ja_sI h 5 2 (-1)).2.1 a = h.2.1 a := fun a ha => by
    funext j
    rw [ja_rI, if_neg (fun w => ha w.1)]
  obtain ⟨h1, u1, u2, u3, u4, u5⟩ := fo_mark hn ja_fu (ja_sI h 5 2 (-1)) 0 b1 (by rw [i1 1 (by decide)]; exact h11) hW (fun k hk => by omega) (by omega) (by rw [ja_fu_eq]; omega)
  simp only [r_Fo_examine, jpI_5 b, jk_5 b1, r_Fo_markSeconds, jlE]
  rw [show r_Fo_markSeconds_4 ja_fu (ja_sI h 5 2 (-1)) 5 1 0 0 = some h1 from u1, jcV]
  have b2 : jv_B h1 := by
    refine ⟨fun i hi => ?_, fun q hq => ?_⟩
    · rw [u2]
      exact b.1 i hi
    · rw [u3]
      exact b.2 q hq
  obtain ⟨h2, v1, v2, v3, v4, v5⟩ := fo_12 hn ja_fu h1 0 b2 (by rw [u4 1 (by decide) (by decide), i1 1 (by decide)]; exact h11) (fun k hk => by rw [u3]; exact hW k hk) u5 (by rw [u4 5 (by decide) (by decide), ja_rI, if_pos ⟨rfl, rfl⟩]) (by omega) (by rw [ja_fu_eq]; omega)
  refine ⟨h2, v1, v2.trans u2, v3.trans u3, fun a a5 a6 a7 => ?_, v5⟩
  rw [v4 a a5 a7, u4 a a6 a7, i1 a a5]
theorem px_0 : ∀ f k, (px W n f k).1 = 0 → ∀ j, k ≤ j → j < k + f → sec W j = false → pc W n j = 0 := by
  intro f
  induction f with
  | zero => intro k _ j h1 h2; omega
  | succ f ih =>
    intro k h j h1 h2 hs
    have e : px W n (f + 1) k = if sec W k = true then px W n f (k + 1) else if pc W n k = 0 then px W n f (k + 1) else (pc W n k, nI k) := rfl
    rw [e] at h
    by_cases jk : j = k
    · subst jk
      rw [hs, if_neg Bool.false_ne_true] at h
      by_cases z : pc W n j = 0
      · exact z
      · rw [if_neg z] at h
        exact absurd h z
    · by_cases z : sec W k = true
      · rw [if_pos z] at h
        exact ih (k + 1) h j (by omega) (by omega) hs
      · rw [if_neg z] at h
        by_cases y : pc W n k = 0
        · rw [if_pos y] at h
          exact ih (k + 1) h j (by omega) (by omega) hs
        · rw [if_neg y] at h
          exact absurd h y
theorem s3_y {x y z : Int32} (n1 : ¬ y = 16) (n2 : ¬ y = 32) (n3 : ¬ y = 64) : pw_s3 x y z = pw_s3 x 0 z := by
  have m1 : ¬ (0 : Int32) = 16 := by decide
  have m2 : ¬ (0 : Int32) = 32 := by decide
  have m3 : ¬ (0 : Int32) = 64 := by decide
  have q40 : ¬ (4 : Nat) = 0 := by decide
  have q60 : ¬ (6 : Nat) = 0 := by decide
  have q64 : ¬ (6 : Nat) = 4 := by decide
  simp only [pw_s3, pw_sort, pw_reck, pw_moves, pw_going, if_true, if_neg q40, if_neg q60, if_neg q64, if_neg n1, if_neg n2, if_neg n3, if_neg m1, if_neg m2, if_neg m3]
theorem and_n (m : Nat) (x : Int32) (M : Int32) (hm : M.toBitVec.toNat = m) (h : m < 2147483648) : ∃ j, j ≤ m ∧ x &&& M = nI j := by
  refine ⟨(x &&& M).toBitVec.toNat, ?_, ?_⟩
  · rw [Int32.toBitVec_and, BitVec.toNat_and, hm]
    exact Nat.and_le_right
  · apply Int32.toBitVec_inj.mp
    show _ = BitVec.ofNat 32 _
    simp
theorem jw_op_n (w : Int64) : ∃ i : Fin 256, jw_op w = nI i.val := by
  obtain ⟨j, h1, h2⟩ := and_n 255 (Int64.toInt32 w) 255 rfl (by decide)
  exact ⟨⟨j, by omega⟩, h2⟩
theorem jw_d_n (w : Int64) : ∃ j, j ≤ 15 ∧ jw_d w = nI j := and_n 15 _ 15 rfl (by decide)
theorem jw_s_n (w : Int64) : ∃ j, j ≤ 15 ∧ jw_s w = nI j := and_n 15 _ 15 rfl (by decide)
theorem jw_off_n (w : Int64) : -32768 ≤ (jw_off w).toInt ∧ (jw_off w).toInt ≤ 32767 := by
  unfold jw_off
  rw [Int16.toInt_toInt32]
  have h1 := Int16.le_toInt (Int32.toInt16 (jw_sh w 16))
  have h2 := Int16.toInt_lt (Int32.toInt16 (jw_sh w 16))
  omega
def so_ok (x y : Int32) : Bool := decide ((pw_s3 x y (x >>> (4 &&& 31)) = 1 → x >>> (4 &&& 31) = 11 ∨ ((x >>> (4 &&& 31) = 0 ∨ x >>> (4 &&& 31) = 1 ∨ x >>> (4 &&& 31) = 2 ∨ x >>> (4 &&& 31) = 3 ∨ x >>> (4 &&& 31) = 4 ∨ x >>> (4 &&& 31) = 5 ∨ x >>> (4 &&& 31) = 6 ∨ x >>> (4 &&& 31) = 7 ∨ x >>> (4 &&& 31) = 8 ∨ x >>> (4 &&& 31) = 9 ∨ x >>> (4 &&& 31) = 10 ∨ x >>> (4 &&& 31) = 12 ∨ x >>> (4 &&& 31) = 13) ∧ (x >>> (4 &&& 31) = 13 → x &&& 7 = 4) ∧ (x &&& 7 = 4 ∨ x &&& 7 = 7))) ∧ (pw_s3 x y (x >>> (4 &&& 31)) = 0 ∨ pw_s3 x y (x >>> (4 &&& 31)) = 1 ∨ pw_s3 x y (x >>> (4 &&& 31)) = 2 ∨ pw_s3 x y (x >>> (4 &&& 31)) = 3 ∨ pw_s3 x y (x >>> (4 &&& 31)) = 4 ∨ pw_s3 x y (x >>> (4 &&& 31)) = 5 ∨ pw_s3 x y (x >>> (4 &&& 31)) = 6 ∨ pw_s3 x y (x >>> (4 &&& 31)) = 7 ∨ pw_s3 x y (x >>> (4 &&& 31)) = 8))
theorem so_all : ∀ i : Fin 256, so_ok (nI i.val) 0 = true ∧ so_ok (nI i.val) 16 = true ∧ so_ok (nI i.val) 32 = true ∧ so_ok (nI i.val) 64 = true := by decide +kernel
theorem so_w (w : Int64) : so_ok (jw_op w) (jw_imm w) = true := by
  obtain ⟨i, hi⟩ := jw_op_n w
  rw [hi]
  obtain ⟨a0, a1, a2, a3⟩ := so_all i
  by_cases y1 : jw_imm w = 16
  · rw [y1]
    exact a1
  · by_cases y2 : jw_imm w = 32
    · rw [y2]
      exact a2
    · by_cases y3 : jw_imm w = 64
      · rw [y3]
        exact a3
      · unfold so_ok at a0 ⊢
        rw [s3_y y1 y2 y3]
        exact a0
theorem jw_f5 (w : Int64) : jw_f w 5 = pw_s3 (jw_op w) (jw_imm w) (jw_op w >>> (4 &&& 31)) := rfl
theorem ja_10 {j : Nat} (h : j ≤ 15) (e : ¬ (11 : Int32) ≤ nI j) : j < 11 := by
  rw [show (11 : Int32) = nI 11 from rfl, jn_le (by omega) (by omega)] at e
  omega
theorem pf_w_0 {f : Nat → Int32} {x : Int64} {y z : Int32} (h : pf_w f x y z = 0) : ¬ f 5 = 0 ∧ ¬ 11 ≤ f 1 ∧ ¬ 11 ≤ f 2 ∧ (f 1 = 10 → pw_getsD f = 0) ∧ (pw_goes f ≠ 0 → 0 ≤ f 3 ∧ z ≠ 0) ∧ (y = 0 ∨ f 5 = 8) ∧ pf_u f = 0 ∧ (f 5 = 7 → x &&& 4294967295 = 0) := by
  unfold pf_w at h
  by_cases c1 : f 5 = 0
  · rw [if_pos c1] at h
    exact absurd h (by decide)
  rw [if_neg c1] at h
  by_cases c2 : 11 ≤ f 1
  · rw [if_pos c2] at h
    exact absurd h (by decide)
  rw [if_neg c2] at h
  by_cases c3 : 11 ≤ f 2
  · rw [if_pos c3] at h
    exact absurd h (by decide)
  rw [if_neg c3] at h
  have h10 : (f 1 = 10 → pw_getsD f = 0) ∧ pf_60 f x y z = 0 := by
    by_cases c4 : f 1 = 10
    · rw [if_pos c4] at h
      by_cases c5 : pw_getsD f = 0
      · rw [if_pos c5] at h
        exact ⟨fun _ => c5, h⟩
      · rw [if_neg c5] at h
        exact absurd h (by decide)
    · rw [if_neg c4] at h
      exact ⟨fun q => absurd q c4, h⟩
  have h6 := h10.2
  unfold pf_60 at h6
  by_cases c6 : pf_u f = 0
  · rw [if_pos c6] at h6
    have h97 : pf_97 f y z = 0 ∧ (f 5 = 7 → x &&& 4294967295 = 0) := by
      by_cases c7 : f 5 = 7
      · rw [if_pos c7] at h6
        by_cases c8 : x &&& 4294967295 = 0
        · rw [if_pos c8] at h6
          exact ⟨h6, fun _ => c8⟩
        · rw [if_neg c8] at h6
          exact absurd h6 (by decide)
      · rw [if_neg c7] at h6
        exact ⟨h6, fun q => absurd q c7⟩
    have h67 : ∀ u, pf_167 f u = 0 → u = 0 ∨ f 5 = 8 := fun u q => by
      unfold pf_167 at q
      by_cases c8 : u = 0
      · exact Or.inl c8
      · rw [if_neg c8] at q
        by_cases c9 : f 5 = 8
        · exact Or.inr c9
        · rw [if_neg c9] at q
          exact absurd q (by decide)
    have h9 := h97.1
    unfold pf_97 pf_140 at h9
    by_cases c8 : pw_goes f = 0
    · rw [if_pos c8, if_pos c8] at h9
      exact ⟨c1, c2, c3, h10.1, fun q => absurd c8 q, h67 _ h9, c6, h97.2⟩
    · rw [if_neg c8] at h9
      by_cases c9 : 0 ≤ f 3
      · rw [if_pos c9, if_neg c8] at h9
        by_cases c10 : z = 0
        · rw [if_pos c10] at h9
          exact absurd h9 (by decide)
        · rw [if_neg c10] at h9
          exact ⟨c1, c2, c3, h10.1, fun _ => ⟨c9, c10⟩, h67 _ h9, c6, h97.2⟩
      · rw [if_neg c9] at h9
        exact absurd h9 (by decide)
  · rw [if_neg c6] at h6
    exact absurd h6 (by decide)
theorem gw_of {w : Int64} {x : Int64} {y z : Int32} (h : pf_w (jw_f w) x y z = 0) : gw (jw_f w) := by
  obtain ⟨a1, a2, a3, a4, a5, a6, a7, a8⟩ := pf_w_0 h
  have so := so_w w
  unfold so_ok at so
  obtain ⟨s1, s2⟩ := of_decide_eq_true so
  obtain ⟨d, d1, d2⟩ := jw_d_n w
  obtain ⟨e, e1, e2⟩ := jw_s_n w
  have f1 : jw_f w 1 = jw_d w := rfl
  have f2 : jw_f w 2 = jw_s w := rfl
  have f3 : jw_f w 3 = jw_off w := rfl
  have f6 : jw_f w 6 = jw_op w >>> (4 &&& 31) := rfl
  have f0 : jw_f w 0 = jw_op w := rfl
  refine ⟨⟨d, f1.trans d2, ?_⟩, ⟨e, f2.trans e2, ?_⟩, ?_, fun q => ?_, ?_, fun q => ?_⟩
  · rw [f1, d2] at a2
    exact ja_10 d1 a2
  · rw [f2, e2] at a3
    exact ja_10 e1 a3
  · rw [f3]
    exact jw_off_n w
  · rw [jw_f5] at q
    rcases s1 q with r | ⟨r1, r2, r3⟩
    · exact Or.inl r
    · exact Or.inr ⟨rfl, r1, r2, r3⟩
  · rw [jw_f5] at a1 ⊢
    rcases s2 with r | r
    · exact absurd r a1
    · exact r
  · refine Int32.le_iff_toInt_le.mp (a5 ?_).1
    unfold pw_goes
    rcases q with q | q
    · rw [q]
      decide
    · rw [q]
      decide
theorem pf_goal_1 {s : Nat → Int32} {x : Int32} (hn : n ≤ 1024) (h : pf_goal s n x ≠ 0) : x.toNatClampNeg < n ∧ s x.toNatClampNeg = 0 := by
  unfold pf_goal at h
  by_cases c1 : x < 0
  · rw [if_pos c1] at h
    exact absurd rfl h
  · rw [if_neg c1] at h
    by_cases c2 : nI n ≤ x
    · rw [if_pos c2] at h
      exact absurd rfl h
    · rw [if_neg c2] at h
      by_cases c3 : 1024 ≤ x
      · rw [if_pos c3] at h
        exact absurd rfl h
      · rw [if_neg c3] at h
        by_cases c4 : s x.toNatClampNeg = 0
        · obtain ⟨e1, e2⟩ := jn_of (Int32.not_lt.mp c1)
          rw [e1, jn_le (by omega) e2] at c2
          exact ⟨by omega, c4⟩
        · rw [if_neg c4] at h
          exact absurd rfl h
theorem sg_nar_m {g : Nat → Int32} {j : Nat} {σ : sg_S} {rel : Int32} {p : Nat × sg_S} (h : p ∈ sg_nar g j σ rel) : p.1 = j := by
  unfold sg_nar at h
  split at h
  · exact absurd h List.not_mem_nil
  · rw [List.mem_singleton.mp h]
theorem sg_to_p {j : Nat} {q : Int32 × sg_S} {p : Nat × sg_S} (h : p ∈ (sg_to j q).2) : p.1 = j := by
  unfold sg_to at h
  split at h
  · rw [List.mem_singleton.mp h]
  · exact absurd h List.not_mem_nil
theorem sg_one_p {g : Nat → Int32} {z : Int64} {len : Int32} {σ : sg_S} {p : Nat × sg_S} (h : p ∈ (sg_one g z len k σ).2) : ((g 5 = 2 ∨ g 5 = 6) ∧ p.1 = k + 1 + (g 3).toNatClampNeg) ∨ (g 5 = 7 ∧ p.1 = k + 2) ∨ (g 5 ≠ 7 ∧ g 5 ≠ 8 ∧ g 5 ≠ 6 ∧ p.1 = k + 1) ∨ ¬ (g 5 = 1 ∨ g 5 = 2 ∨ g 5 = 3 ∨ g 5 = 4 ∨ g 5 = 5 ∨ g 5 = 6 ∨ g 5 = 7 ∨ g 5 = 8) := by
  have nil : ¬ p ∈ ([] : List (Nat × sg_S)) := List.not_mem_nil
  rw [sg_one_e] at h
  split at h
  · exact absurd h nil
  split at h
  · exact absurd h nil
  unfold sg_65 at h
  by_cases s1 : g 5 = 1
  · rw [if_pos s1] at h
    exact Or.inr (Or.inr (Or.inl ⟨by rw [s1]; decide, by rw [s1]; decide, by rw [s1]; decide, sg_to_p h⟩))
  rw [if_neg s1] at h
  by_cases s2 : g 5 = 2
  · rw [if_pos s2] at h
    unfold sg_cnd at h
    split at h
    · split at h
      · rcases List.mem_append.mp h with q | q
        · exact Or.inl ⟨Or.inl s2, sg_nar_m q⟩
        · exact Or.inr (Or.inr (Or.inl ⟨by rw [s2]; decide, by rw [s2]; decide, by rw [s2]; decide, sg_nar_m q⟩))
      · exact absurd h nil
    · exact absurd h nil
  rw [if_neg s2] at h
  by_cases s3 : g 5 = 3
  · rw [if_pos s3] at h
    exact Or.inr (Or.inr (Or.inl ⟨by rw [s3]; decide, by rw [s3]; decide, by rw [s3]; decide, sg_to_p h⟩))
  rw [if_neg s3] at h
  by_cases s4 : g 5 = 4
  · rw [if_pos s4] at h
    exact Or.inr (Or.inr (Or.inl ⟨by rw [s4]; decide, by rw [s4]; decide, by rw [s4]; decide, sg_to_p h⟩))
  rw [if_neg s4] at h
  by_cases s5 : g 5 = 5
  · rw [if_pos s5] at h
    exact Or.inr (Or.inr (Or.inl ⟨by rw [s5]; decide, by rw [s5]; decide, by rw [s5]; decide, sg_to_p h⟩))
  rw [if_neg s5] at h
  by_cases s6 : g 5 = 6
  · rw [if_pos s6] at h
    rw [List.mem_singleton.mp h]
    exact Or.inl ⟨Or.inr s6, rfl⟩
  rw [if_neg s6] at h
  by_cases s7 : g 5 = 7
  · rw [if_pos s7] at h
    rw [List.mem_singleton.mp h]
    exact Or.inr (Or.inl ⟨s7, rfl⟩)
  rw [if_neg s7] at h
  exact absurd h nil
theorem jq_of (hn : n ≤ 1024) (h : (px W n n 0).1 = 0) : jq_F W n (sec W) := by
  intro k hk hs
  have p0 : pc W n k = 0 := px_0 n 0 h k (by omega) (by omega) hs
  have w := gw_of p0
  refine ⟨w, fun z len σ p hp => ?_⟩
  obtain ⟨a1, a2, a3, a4, a5, a6, a7, a8⟩ := pf_w_0 p0
  have last : jw_f (W k) 5 ≠ 8 → nI k + pw_words (jw_f (W k)) < nI n := fun n8 => by
    rcases a6 with q | q
    · unfold pf_last at q
      by_cases y : nI k + pw_words (jw_f (W k)) < nI n
      · exact y
      · rw [if_neg y] at q
        exact absurd q (by decide)
    · exact absurd q n8
  have f5 : jw_sort (W k) = jw_f (W k) 5 := rfl
  rcases sg_one_p hp with ⟨q1, q2⟩ | ⟨q1, q2⟩ | ⟨q1, q2, q3, q4⟩ | q
  · have go : pw_goes (jw_f (W k)) ≠ 0 := by
      unfold pw_goes
      rcases q1 with q | q
      · rw [q]
        decide
      · rw [q]
        decide
    obtain ⟨b1, b2⟩ := a5 go
    obtain ⟨e1, e2⟩ := jn_of b1
    have e3 : nI k + 1 + jw_f (W k) 3 = nI (k + 1 + (jw_f (W k) 3).toNatClampNeg) := by
      rw [lq_ad1]
      conv => lhs; rw [e1]
      rw [jn_add]
    have b3 := pf_goal_1 hn b2
    have o := w.2.2.1
    have o2 : ((jw_f (W k) 3).toNatClampNeg : Int) = (jw_f (W k) 3).toInt := by
      rw [← jn_int e2, ← e1]
    rw [e3, jn_clamp (by omega)] at b3
    rw [q2]
    exact ⟨b3.1, bo_0.mp b3.2⟩
  · have l := last (by rw [q1]; decide)
    rw [show pw_words (jw_f (W k)) = nI 2 from if_pos q1, jn_add, jn_lt (by omega) (by omega)] at l
    rw [q2]
    refine ⟨l, ?_⟩
    show (!sec W (k + 1) && _) = false
    rw [sec_s, hs, f5, decide_eq_true q1]
    rfl
  · have l := last q2
    rw [show pw_words (jw_f (W k)) = nI 1 from if_neg q1, jn_add, jn_lt (by omega) (by omega)] at l
    rw [q4]
    refine ⟨l, ?_⟩
    rw [sec_s, f5, decide_eq_false q1, Bool.and_false]
  · exact absurd w.2.2.2.2.1 q
end FT
