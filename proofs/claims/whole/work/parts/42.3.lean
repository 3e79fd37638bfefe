section VB
variable {h : ja_H} {o p w : Nat}
def pn_t32 (b : Int32) (v : pv_T) : pv_T := if b = 0 then v else pn_low v
def pn_r53 (g : Nat → Int32) (u v : pv_T) : pv_T := if pw_isOf32 g = 0 then pn_spans g u.2.1 u.2.2 v.2.1 v.2.2 else if pn_in (pn_spans g u.2.1 u.2.2 v.2.1 v.2.2) 0 4294967295 = 0 then (1, 0, 4294967295) else pn_spans g u.2.1 u.2.2 v.2.1 v.2.2
def pn_r15 (g : Nat → Int32) (u v : pv_T) : pv_T := if pn_one u = 0 then pn_r53 g u v else if pn_one v = 0 then pn_r53 g u v else (1, ar_reck (g 0) u.2.1 v.2.1, ar_reck (g 0) u.2.1 v.2.1)
def pn_reck (g : Nat → Int32) (u v : pv_T) : pv_T := pn_r15 g (pn_t32 (pw_isOf32 g) u) (pn_t32 (pw_isOf32 g) v)
theorem n_r53 (hw : h.1[w]? = some (.inl 4)) (ho : h.1[o]? = some (.inl 7)) (hp : h.1[p]? = some (.inl 7)) (hwo : w ≠ o) : r_Nu_reckon_53 h w o p = some (jv_p h o (pn_r53 (h.2.1 w) (jv_v h o) (jv_v h p))) := by
  have s1 : ∀ v, (jv_p h o v).1[w]? = some (.inl 4) := fun v => hw
  have s2 : ∀ v, (jv_p h o v).1[o]? = some (.inl 7) := fun v => ho
  have e1 : ∀ v, r_Wo_isOf32 (jv_p h o v) w = some (pw_isOf32 (h.2.1 w), jv_p h o v) := fun v => by
    rw [w_isOf32 (s1 v), jv_pIo hwo]
  have e2 : ∀ v a b, r_Va_isWithin (jv_p h o v) o a b = some (pn_in v a b, jv_p h o v) := fun v a b => by
    rw [v_in (s2 v), jv_pv]
  have e3 : ∀ v k l u, r_Va_become (jv_p h o v) o k l u = some (jv_p h o (k, l, u)) := fun v k l u => by
    rw [v_become (s2 v), jv_pp]
  simp only [r_Nu_reckon_53, r_Nu_reckon_86, n_spans hw ho hp, jkE (s1 _), jkE (s2 _), e1, e2, e3, jcI, jcV, pn_r53, pv_ite]
  rfl
theorem n_r15 (hw : h.1[w]? = some (.inl 4)) (ho : h.1[o]? = some (.inl 7)) (hp : h.1[p]? = some (.inl 7)) (hwo : w ≠ o) : r_Nu_reckon_15 h w o p = some (jv_p h o (pn_r15 (h.2.1 w) (jv_v h o) (jv_v h p))) := by
  simp only [r_Nu_reckon_15, jkE ho, jkE hp, v_one ho, v_one hp, n_r53 hw ho hp hwo, jfI hw, jfL ho, jfL hp, a_reck, v_become ho, jcI, jcV, jcL, jlE, pn_r15, pv_ite]
  rfl
theorem n_reck (hw : h.1[w]? = some (.inl 4)) (ho : h.1[o]? = some (.inl 7)) (hp : h.1[p]? = some (.inl 7)) (hwo : w ≠ o) (hwp : w ≠ p) (hop : o ≠ p) : r_Nu_reckon h w o p = some (jv_p (jv_p (jv_p h o (pn_t32 (pw_isOf32 (h.2.1 w)) (jv_v h o))) p (pn_t32 (pw_isOf32 (h.2.1 w)) (jv_v h p))) o (pn_reck (h.2.1 w) (jv_v h o) (jv_v h p))) := by
  simp only [r_Nu_reckon, jkE hw, w_isOf32 hw, jcI]
  by_cases e : pw_isOf32 (h.2.1 w) = 0
  · have q1 : jv_p h o (jv_v h o) = h := jv_ps
    have q2 : jv_p h p (jv_v h p) = h := jv_ps
    simp only [if_pos e, n_r15 hw ho hp hwo, pn_reck, pn_t32, q1, q2]
  · have s1 : ∀ v, (jv_p h o v).1[p]? = some (.inl 7) := fun v => hp
    have s2 : ∀ u v, (jv_p (jv_p h o u) p v).1[w]? = some (.inl 4) := fun u v => hw
    have s3 : ∀ u v, (jv_p (jv_p h o u) p v).1[o]? = some (.inl 7) := fun u v => ho
    have s4 : ∀ u v, (jv_p (jv_p h o u) p v).1[p]? = some (.inl 7) := fun u v => hp
    simp only [if_neg e, n_low ho, n_low (s1 _), jcV, n_r15 (s2 _ _) (s3 _ _) (s4 _ _) hwo, pn_reck, pn_t32]
    rw [jv_pv, jv_pvo hop, jv_pvo (Ne.symm hop), jv_pv, jv_pIo hwp, jv_pIo hwo]
def pa_lo (v : pv_T) (x : Int64) : pv_T := (v.1, x, v.2.2)
def pa_hi (v : pv_T) (x : Int64) : pv_T := (v.1, v.2.1, x)
def pn_le (v : pv_T) : Int32 := if v.2.2 < v.2.1 then 0 else 1
abbrev pn_R := Int32 × pv_T
def pn_leave (v : pv_T) (k : Int64) : pn_R := if v.2.1 = v.2.2 then (if v.2.1 = k then (0, v) else (1, v)) else if v.2.1 = k then (1, pa_lo v (k + 1)) else if v.2.2 = k then (1, pa_hi v (k - 1)) else (1, v)
def pn_c (v : pv_T) : pn_R := (pn_le v, v)
def pn_ns (rel : Int32) (v : pv_T) (k : Int64) : pn_R := if rel = 12 ∧ k = -9223372036854775808 ∨ rel = 6 ∧ k = 9223372036854775807 then (0, v) else if rel = 6 then pn_c (pa_lo v (mx_L v.2.1 (k + 1))) else if rel = 7 then pn_c (pa_lo v (mx_L v.2.1 k)) else if rel = 12 then pn_c (pa_hi v (mn_L v.2.2 (k - 1))) else if rel = 13 then pn_c (pa_hi v (mn_L v.2.2 k)) else pn_c v
def pn_ret (h : ja_H) (o : Nat) (r : pn_R) : Option (Int32 × ja_H) := some (r.1, jv_p h o r.2)
theorem pn_ret_ite {c : Prop} [Decidable c] {a b : pn_R} : pn_ret h o (if c then a else b) = if c then pn_ret h o a else pn_ret h o b := by
  split <;> rfl
theorem v_leave {k : Int64} (ho : h.1[o]? = some (.inl 7)) : r_Va_leaveOut h o k = pn_ret h o (pn_leave (jv_v h o) k) := by
  have q1 : pn_ret h o (0, jv_v h o) = some (0, h) := by
    show some ((0 : Int32), jv_p h o (jv_v h o)) = _
    rw [show jv_p h o (jv_v h o) = h from jv_ps]
  have q2 : pn_ret h o (1, jv_v h o) = some (1, h) := by
    show some ((1 : Int32), jv_p h o (jv_v h o)) = _
    rw [show jv_p h o (jv_v h o) = h from jv_ps]
  have q3 : ∀ x, pn_ret h o (1, pa_lo (jv_v h o) x) = some (1, ja_sL h o 1 x) := fun x => by
    rw [jv_s1]
    rfl
  have q4 : ∀ x, pn_ret h o (1, pa_hi (jv_v h o) x) = some (1, ja_sL h o 2 x) := fun x => by
    rw [jv_s2]
    rfl
  simp only [r_Va_leaveOut, r_Va_leaveOut_26, r_Va_leaveOut_62, jfL ho, jpL ho, jb0, jb1, pn_leave, pn_ret_ite, q1, q2, q3, q4]
  rfl
theorem v_c (v : pv_T) (ho : h.1[o]? = some (.inl 7)) : r_Va_narrowSigned_140 (jv_p h o v) o = pn_ret h o (pn_c v) := by
  have s : (jv_p h o v).1[o]? = some (.inl 7) := ho
  simp only [r_Va_narrowSigned_140, r_Va_narrowSigned_157, jfL s, jv_pL1, jv_pL2, jb0, jb1, pn_c, pn_ret, pn_le]
  split <;> rfl
theorem v_c0 (ho : h.1[o]? = some (.inl 7)) : r_Va_narrowSigned_140 h o = pn_ret h o (pn_c (jv_v h o)) := by
  have := v_c (jv_v h o) ho
  rw [show jv_p h o (jv_v h o) = h from jv_ps] at this
  exact this
theorem v_c1 {x : Int64} (ho : h.1[o]? = some (.inl 7)) : r_Va_narrowSigned_140 (ja_sL h o 1 x) o = pn_ret h o (pn_c (pa_lo (jv_v h o) x)) := by
  rw [jv_s1]
  exact v_c _ ho
theorem v_c2 {x : Int64} (ho : h.1[o]? = some (.inl 7)) : r_Va_narrowSigned_140 (ja_sL h o 2 x) o = pn_ret h o (pn_c (pa_hi (jv_v h o) x)) := by
  rw [jv_s2]
  exact v_c _ ho
theorem v_ns {rel : Int32} {k : Int64} (ho : h.1[o]? = some (.inl 7)) : r_Va_narrowSigned h o rel k = pn_ret h o (pn_ns rel (jv_v h o) k) := by
  have q1 : pn_ret h o (0, jv_v h o) = some (0, h) := by
    show some ((0 : Int32), jv_p h o (jv_v h o)) = _
    rw [show jv_p h o (jv_v h o) = h from jv_ps]
  have e30 : r_Va_narrowSigned_30 h o rel k = pn_ret h o (if rel = 6 then pn_c (pa_lo (jv_v h o) (mx_L (jv_v h o).2.1 (k + 1))) else if rel = 7 then pn_c (pa_lo (jv_v h o) (mx_L (jv_v h o).2.1 k)) else if rel = 12 then pn_c (pa_hi (jv_v h o) (mn_L (jv_v h o).2.2 (k - 1))) else if rel = 13 then pn_c (pa_hi (jv_v h o) (mn_L (jv_v h o).2.2 k)) else pn_c (jv_v h o)) := by
    simp only [r_Va_narrowSigned_30, jsw, jfL ho, jpL ho, w_maxL, w_minL, jcL, v_c0 ho, v_c1 ho, v_c2 ho, pn_ret_ite]
    by_cases r6 : rel = 6
    · simp only [if_pos r6]
      rfl
    by_cases r7 : rel = 7
    · simp only [if_neg r6, if_pos r7]
      rfl
    by_cases r12 : rel = 12
    · simp only [if_neg r6, if_neg r7, if_pos r12]
      subst r12
      rfl
    by_cases r13 : rel = 13
    · simp only [if_neg r6, if_neg r7, if_neg r12, if_pos r13]
      subst r13
      rfl
    simp only [if_neg r6, if_neg r7, if_neg r12, if_neg r13, ite_self]
  simp only [r_Va_narrowSigned, r_Va_narrowSigned_14, r_Va_narrowSigned_28, jb0, e30, pn_ns]
  by_cases r12 : rel = 12
  · have r6 : ¬ rel = 6 := by rw [r12]; decide
    by_cases k1 : k = -9223372036854775808
    · rw [if_pos r12, if_pos k1, if_pos (Or.inl ⟨r12, k1⟩), q1]
    · rw [if_pos r12, if_neg k1, if_neg r6, if_neg (c := _ ∨ _) (by rintro (⟨_, q⟩ | ⟨q, _⟩); exact k1 q; exact r6 q)]
  · by_cases r6 : rel = 6
    · by_cases k1 : k = 9223372036854775807
      · rw [if_neg r12, if_pos r6, if_pos k1, if_pos (Or.inr ⟨r6, k1⟩), q1]
      · rw [if_neg r12, if_pos r6, if_neg k1, if_neg (c := _ ∨ _) (by rintro (⟨q, _⟩ | ⟨_, q⟩); exact r12 q; exact k1 q)]
    · rw [if_neg r12, if_neg r6, if_neg (c := _ ∨ _) (by rintro (⟨q, _⟩ | ⟨q, _⟩); exact r12 q; exact r6 q)]
def pn_bl (rel : Int32) (v : pv_T) (k : Int64) : pn_R := if 0 ≤ k then pn_ns (if rel = 10 then 12 else 13) (pa_lo v (mx_L v.2.1 0)) k else (1, v)
def pn_ab (rel : Int32) (v : pv_T) (k : Int64) : pn_R := if v.2.1 < 0 then (1, v) else if k < 0 then (1, v) else pn_ns (if rel = 2 then 6 else 7) v k
def pn_eq (v : pv_T) (k : Int64) : pn_R := pn_c (v.1, mx_L v.2.1 k, mn_L v.2.2 k)
def pn_nar (rel : Int32) (v : pv_T) (k : Int64) : pn_R := if rel = 1 then pn_eq v k else if rel = 2 then pn_ab rel v k else if rel = 3 then pn_ab rel v k else if rel = 5 then pn_leave v k else if rel = 10 then pn_bl rel v k else if rel = 11 then pn_bl rel v k else pn_ns rel v k
theorem pn_01 : (∀ (v : pv_T) k rel, (pn_ns rel v k).1 = 0 ∨ (pn_ns rel v k).1 = 1) := by
  intro v k rel
  have h1 : ∀ u, (pn_c u).1 = 0 ∨ (pn_c u).1 = 1 := fun u => by
    unfold pn_c pn_le
    simp only
    split
    · exact Or.inl rfl
    · exact Or.inr rfl
  unfold pn_ns
  split
  · exact Or.inl rfl
  · split
    · exact h1 _
    · split
      · exact h1 _
      · split
        · exact h1 _
        · split
          · exact h1 _
          · exact h1 _
theorem v_nar {rel : Int32} {k : Int64} (ho : h.1[o]? = some (.inl 7)) : r_Va_narrow h o rel k = pn_ret h o (pn_nar rel (jv_v h o) k) := by
  have q2 : pn_ret h o (1, jv_v h o) = some (1, h) := by
    show some ((1 : Int32), jv_p h o (jv_v h o)) = _
    rw [show jv_p h o (jv_v h o) = h from jv_ps]
  have hb : ∀ (g : ja_H) (r : Int32) (v : pv_T), jc_I (pn_ret g o (pn_ns r v k)) (fun v2 h1 => jb v2 (some (v2, h1))) = pn_ret g o (pn_ns r v k) := fun g r v => by
    show jb (pn_ns r v k).1 _ = _
    unfold jb
    rw [if_pos (pn_01 v k r)]
    rfl
  have hb2 : ∀ (g : ja_H) (r : Int32) (v : pv_T), jc_I (pn_ret g o (pn_ns r v k)) (fun v2 h1 => if v2 = 0 then some (0, h1) else some (1, h1)) = pn_ret g o (pn_ns r v k) := fun g r v => by
    show (if (pn_ns r v k).1 = 0 then _ else _) = _
    rcases pn_01 v k r with q | q
    · rw [if_pos q]
      show _ = some (_, _)
      rw [q]
    · rw [if_neg (by rw [q]; decide)]
      show _ = some (_, _)
      rw [q]
  have e173 : r_Va_narrow_173 h o rel k = pn_ret h o (pn_ns rel (jv_v h o) k) := by
    simp only [r_Va_narrow_173, jkE ho, v_ns ho, hb]
  have e121 : ∀ r, r_Va_narrow_121 h k r o = pn_ret h o (pn_ns r (jv_v h o) k) := fun r => by
    simp only [r_Va_narrow_121, r_Va_narrow_133, r_Va_narrow_128, jb0, jb1, jkE ho, v_ns ho, hb2]
  have e93 : r_Va_narrow_93 h o rel k = pn_ret h o (pn_ab rel (jv_v h o) k) := by
    simp only [r_Va_narrow_93, r_Va_narrow_128, r_Va_narrow_133, jb1, jfL ho, e121, pn_ab, pn_ret_ite, q2]
    rw [show (jv_v h o).2.1 = h.2.2.1 o 1 from rfl]
    by_cases r2 : rel = 2
    · simp only [if_pos r2]
    · simp only [if_neg r2]
  have e168 : ∀ (x : Int64) r, r_Va_narrow_168 (ja_sL h o 1 x) k r o = pn_ret h o (pn_ns r (pa_lo (jv_v h o) x) k) := fun x r => by
    have s : (ja_sL h o 1 x).1[o]? = some (.inl 7) := ho
    simp only [r_Va_narrow_168, jkE s, v_ns s, hb]
    rw [jv_s1, jv_pv]
    unfold pn_ret
    rw [jv_pp]
    rfl
  have e134 : r_Va_narrow_134 h o rel k = pn_ret h o (pn_bl rel (jv_v h o) k) := by
    simp only [r_Va_narrow_134, jb1, jfL ho, w_maxL, jcL, jpL ho, e168, pn_bl, pn_ret_ite, q2]
    rw [show (jv_v h o).2.1 = h.2.2.1 o 1 from rfl]
    by_cases r2 : rel = 10
    · simp only [if_pos r2]
    · simp only [if_neg r2]
  have elv : jc_I (r_Va_leaveOut h o k) (fun v112 h111 => jb v112 (some (v112, h111))) = pn_ret h o (pn_leave (jv_v h o) k) := by
    rw [v_leave ho]
    show jb (pn_leave (jv_v h o) k).1 _ = _
    unfold jb
    rw [if_pos]
    · rfl
    · unfold pn_leave
      (repeat' split) <;> simp
  have eeq : ∀ a b : Int64, (if b < a then some ((0 : Int32), jv_p h o ((jv_v h o).1, a, b)) else some (1, jv_p h o ((jv_v h o).1, a, b))) = pn_ret h o (pn_c ((jv_v h o).1, a, b)) := fun a b => by
    unfold pn_ret pn_c pn_le
    simp only
    split <;> rfl
  have s1 : ∀ x, (ja_sL h o 1 x).1[o]? = some (.inl 7) := fun x => ho
  have s2 : ∀ x y, (ja_sL (ja_sL h o 1 x) o 2 y).1[o]? = some (.inl 7) := fun x y => ho
  have r1 : ∀ x, (ja_sL h o 1 x).2.2.1 o 2 = h.2.2.1 o 2 := fun x => by rw [ja_rL, if_neg (by omega)]
  have r2 : ∀ x y, (ja_sL (ja_sL h o 1 x) o 2 y).2.2.1 o 1 = x := fun x y => by rw [ja_rL, if_neg (by omega), ja_rL, if_pos ⟨rfl, rfl⟩]
  have r3 : ∀ x y, (ja_sL (ja_sL h o 1 x) o 2 y).2.2.1 o 2 = y := fun x y => by rw [ja_rL, if_pos ⟨rfl, rfl⟩]
  have r4 : ∀ x y, ja_sL (ja_sL h o 1 x) o 2 y = jv_p h o ((jv_v h o).1, x, y) := fun x y => by
    rw [jv_s2, jv_s1, jv_pp, jv_pI0, jv_pL1]
    rfl
  have s5 : ∀ v, (jv_p h o v).1[o]? = some (.inl 7) := fun v => ho
  simp only [r_Va_narrow, jsw, jfL (s5 _), jv_pL1, jv_pL2, r_Va_narrow_197, jb0, jb1, jfL ho, jfL (s1 _), jfL (s2 _ _), jpL ho, jpL (s1 _), w_maxL, w_minL, jcL, r1, r2, r3, r4, eeq, e93, e173, e134, jkE ho, elv]
  unfold pn_nar
  simp only [pn_ret_ite]
  by_cases c1 : rel = 1
  · simp only [if_pos c1]
    rfl
  simp only [if_neg c1]
  by_cases c2 : rel = 2
  · simp only [if_pos c2]
  simp only [if_neg c2]
  by_cases c3 : rel = 3
  · simp only [if_pos c3]
  simp only [if_neg c3]
  by_cases c4 : rel = 4
  · subst c4
    rfl
  simp only [if_neg c4]
  by_cases c5 : rel = 5
  · simp only [if_pos c5]
  simp only [if_neg c5]
  by_cases c10 : rel = 10
  · subst c10
    rfl
  simp only [if_neg c10]
  by_cases c11 : rel = 11
  · subst c11
    rfl
  simp only [if_neg c11, ite_self]
end VB
