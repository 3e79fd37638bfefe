abbrev pv_T := Int32 × Int64 × Int64
section VA
variable {h : ja_H} {o p w : Nat}
def jv_v (h : ja_H) (o : Nat) : pv_T := (h.2.1 o 0, h.2.2.1 o 1, h.2.2.1 o 2)
def jv_p (h : ja_H) (o : Nat) (v : pv_T) : ja_H := ja_sL (ja_sL (ja_sI h o 0 v.1) o 1 v.2.1) o 2 v.2.2
theorem jv_p1 {v : pv_T} : (jv_p h o v).1 = h.1 := rfl
theorem jv_pR {v : pv_T} : (jv_p h o v).2.2.2 = h.2.2.2 := rfl
theorem jv_pB {v : pv_T} : jv_B (jv_p h o v) = jv_B h := rfl
theorem jv_pI {v : pv_T} {a b : Nat} : (jv_p h o v).2.1 a b = if a = o ∧ b = 0 then v.1 else h.2.1 a b := of_eq_true (eq_self _)
theorem jv_pL {v : pv_T} {a b : Nat} : (jv_p h o v).2.2.1 a b = if a = o ∧ b = 2 then v.2.2 else if a = o ∧ b = 1 then v.2.1 else h.2.2.1 a b := of_eq_true (eq_self _)
theorem jv_pIo {v : pv_T} {a : Nat} (ha : a ≠ o) : (jv_p h o v).2.1 a = h.2.1 a := by
  funext b
  rw [jv_pI, if_neg (fun q => ha q.1)]
theorem jv_pLo {v : pv_T} {a : Nat} (ha : a ≠ o) : (jv_p h o v).2.2.1 a = h.2.2.1 a := by
  funext b
  rw [jv_pL, if_neg (fun q => ha q.1), if_neg (fun q => ha q.1)]
theorem jv_pv {v : pv_T} : jv_v (jv_p h o v) o = v := by
  simp [jv_v, jv_pI, jv_pL]
theorem jv_pvo {v : pv_T} {a : Nat} (ha : a ≠ o) : jv_v (jv_p h o v) a = jv_v h a := by
  simp [jv_v, jv_pIo ha, jv_pLo ha]
theorem ja_hext {g : ja_H} (h1 : g.1 = h.1) (hI : ∀ a b, g.2.1 a b = h.2.1 a b) (hL : ∀ a b, g.2.2.1 a b = h.2.2.1 a b) (hR : g.2.2.2 = h.2.2.2) : g = h := by
  obtain ⟨g1, g2, g3, g4⟩ := g
  obtain ⟨k1, k2, k3, k4⟩ := h
  have e2 : g2 = k2 := funext fun a => funext fun b => hI a b
  have e3 : g3 = k3 := funext fun a => funext fun b => hL a b
  simp only at h1 hR
  rw [h1, e2, e3, hR]
theorem jv_ps : jv_p h o (h.2.1 o 0, h.2.2.1 o 1, h.2.2.1 o 2) = h := by
  refine ja_hext rfl (fun a b => ?_) (fun a b => ?_) rfl
  · rw [jv_pI]
    split
    · next q => rw [q.1, q.2]
    · rfl
  · rw [jv_pL]
    split
    · next q => rw [q.1, q.2]
    · split
      · next q => rw [q.1, q.2]
      · rfl
theorem jv_pp {u v : pv_T} : jv_p (jv_p h o u) o v = jv_p h o v := by
  refine ja_hext rfl (fun a b => ?_) (fun a b => ?_) rfl
  · simp only [jv_pI]
    split <;> rfl
  · simp only [jv_pL]
    split
    · rfl
    · split <;> rfl
theorem jv_s1 {x : Int64} : ja_sL h o 1 x = jv_p h o (h.2.1 o 0, x, h.2.2.1 o 2) := by
  refine ja_hext rfl (fun a b => ?_) (fun a b => ?_) rfl
  · rw [jv_pI]
    split
    · next q => rw [q.1, q.2]; rfl
    · rfl
  · rw [jv_pL, ja_rL]
    by_cases q1 : a = o ∧ b = 1
    · rw [if_pos q1, if_neg (by omega)]
    · rw [if_neg q1]
      split
      · next q => rw [q.1, q.2]
      · rfl
theorem jv_s2 {x : Int64} : ja_sL h o 2 x = jv_p h o (h.2.1 o 0, h.2.2.1 o 1, x) := by
  refine ja_hext rfl (fun a b => ?_) (fun a b => ?_) rfl
  · rw [jv_pI]
    split
    · next q => rw [q.1, q.2]; rfl
    · rfl
  · rw [jv_pL, ja_rL]
    split
    · rfl
    · split
      · next q => rw [q.1, q.2]
      · rfl
theorem jv_pI0 {v : pv_T} : (jv_p h o v).2.1 o 0 = v.1 := if_pos ⟨rfl, rfl⟩
theorem jv_pL1 {v : pv_T} : (jv_p h o v).2.2.1 o 1 = v.2.1 := by
  rw [jv_pL, if_neg (by omega), if_pos ⟨rfl, rfl⟩]
theorem jv_pL2 {v : pv_T} : (jv_p h o v).2.2.1 o 2 = v.2.2 := if_pos ⟨rfl, rfl⟩
theorem jv_S {v : pv_T} {i : Nat} {x : ja_S} (hs : h.1[i]? = some x) : (jv_p h o v).1[i]? = some x := hs
theorem pv_ite {c : Prop} [Decidable c] {a b : pv_T} : some (jv_p h o (if c then a else b)) = (if c then some (jv_p h o a) else some (jv_p h o b)) := by
  split <;> rfl
theorem v_become {k : Int32} {l u : Int64} (hs : h.1[o]? = some (.inl 7)) : r_Va_become h o k l u = some (jv_p h o (k, l, u)) := by
  have h1 : (ja_sI h o 0 k).1[o]? = some (.inl 7) := hs
  have h2 : (ja_sL (ja_sI h o 0 k) o 1 l).1[o]? = some (.inl 7) := hs
  simp only [r_Va_become, jpI hs, jpL h1, jpL h2]
  rfl
def pn_any : pv_T := (1, -9223372036854775808, 9223372036854775807)
theorem v_any (hs : h.1[o]? = some (.inl 7)) : r_Va_becomeAny h o = some (jv_p h o pn_any) := by
  have h1 : (ja_sI h o 0 1).1[o]? = some (.inl 7) := hs
  have h2 : (ja_sL (ja_sI h o 0 1) o 1 (-9223372036854775808)).1[o]? = some (.inl 7) := hs
  simp only [r_Va_becomeAny, jpI hs, jpL h1, jpL h2]
  rfl
def pn_one (v : pv_T) : Int32 := if v.2.1 = v.2.2 then 1 else 0
theorem v_one (hs : h.1[o]? = some (.inl 7)) : r_Va_isOne h o = some (pn_one (jv_v h o), h) := by
  simp only [r_Va_isOne, r_Va_isOne_17, jfL hs, jb0, jb1, pn_one, jv_v]
  split <;> simp_all
def pn_in (v : pv_T) (a b : Int64) : Int32 := if v.2.1 < a then 0 else if b < v.2.2 then 0 else 1
theorem v_in {a b : Int64} (hs : h.1[o]? = some (.inl 7)) : r_Va_isWithin h o a b = some (pn_in (jv_v h o) a b, h) := by
  simp only [r_Va_isWithin, r_Va_isWithin_22, r_Va_isWithin_23, jfL hs, jb0, jb1]
  by_cases e1 : h.2.2.1 o 1 < a
  · rw [if_pos e1, show pn_in (jv_v h o) a b = 0 from if_pos e1]
  · have e0 : pn_in (jv_v h o) a b = if b < h.2.2.1 o 2 then 0 else 1 := if_neg e1
    by_cases e2 : b < h.2.2.1 o 2
    · rw [if_neg e1, if_pos e2, e0, if_pos e2]
    · rw [if_neg e1, if_neg e2, e0, if_neg e2]
def pn_ptr (v : pv_T) : Int32 := if v.1 = 2 then 1 else if v.1 = 3 then 1 else 0
theorem v_ptr (hs : h.1[o]? = some (.inl 7)) : r_Va_isPointer h o = some (pn_ptr (jv_v h o), h) := by
  simp only [r_Va_isPointer, r_Va_isPointer_16, r_Va_isPointer_21, jfI hs, jb0, jb1, pn_ptr, jv_v]
  (repeat' split) <;> simp_all
def mx_L (a b : Int64) : Int64 := if a < b then b else a
def mn_L (a b : Int64) : Int64 := if b < a then b else a
theorem w_maxL {a b : Int64} : r_Mt_max_J h a b = some (mx_L a b, h) := by
  simp only [r_Mt_max_J, r_Mt_max_J_11, mx_L, pw_itL]
theorem w_minL {a b : Int64} : r_Mt_min_J h a b = some (mn_L a b, h) := by
  simp only [r_Mt_min_J, r_Mt_min_J_11, mn_L, pw_itL]
def pn_low (v : pv_T) : pv_T := if pn_one v = 0 then (if pn_in v 0 4294967295 = 0 then (1, 0, 4294967295) else v) else (1, v.2.1 &&& 4294967295, v.2.1 &&& 4294967295)
theorem n_low (hs : h.1[o]? = some (.inl 7)) : r_Nu_takeLowest32 h o = some (jv_p h o (pn_low (jv_v h o))) := by
  have e : jv_p h o (jv_v h o) = h := jv_ps
  simp only [r_Nu_takeLowest32, r_Nu_takeLowest32_51, jkE hs, v_one hs, v_in hs, v_become hs, jfL hs, jcI, jcV, pn_low, pv_ite, e]
  rfl
def pn_sf (a b : Int64) : Int32 := if ((a ^^^ (a + b)) &&& (b ^^^ (a + b))) < 0 then 0 else 1
def pn_df (a b : Int64) : Int32 := if ((a ^^^ b) &&& (a ^^^ (a - b))) < 0 then 0 else 1
def pn_pf (a b : Int64) : Int32 := if a = 0 then 1 else if a = -1 then (if b = -9223372036854775808 then 0 else 1) else if a * b / a = b then 1 else 0
theorem w_sf {a b : Int64} : r_Nu_sumFits h a b = some (pn_sf a b, h) := by
  simp only [r_Nu_sumFits, r_Nu_sumFits_21, jb0, jb1, pn_sf, pw_ite]
theorem w_df {a b : Int64} : r_Nu_differenceFits h a b = some (pn_df a b, h) := by
  simp only [r_Nu_differenceFits, r_Nu_differenceFits_19, jb0, jb1, pn_df, pw_ite]
theorem w_pf {a b : Int64} : r_Nu_productFits h a b = some (pn_pf a b, h) := by
  simp only [r_Nu_productFits, r_Nu_productFits_47, jb0, jb1, pn_pf, pw_ite, jz_L]
  by_cases e : a = 0
  · rw [if_pos e, if_pos e]
  · rw [if_neg e, if_neg e, if_neg e]
def pn_add (a b e f : Int64) : pv_T := if pn_sf a e = 0 then pn_any else if pn_sf b f = 0 then pn_any else (1, a + e, b + f)
theorem n_add (ho : h.1[o]? = some (.inl 7)) (hp : h.1[p]? = some (.inl 7)) : r_Nu_add h o p = some (jv_p h o (pn_add (h.2.2.1 o 1) (h.2.2.1 o 2) (h.2.2.1 p 1) (h.2.2.1 p 2))) := by
  simp only [r_Nu_add, r_Nu_add_54, r_Nu_add_58, jfL ho, jfL hp, jkE ho, w_sf, v_any ho, v_become ho, jcI, jcV, pn_add, pv_ite]
def pn_sub (a b e f : Int64) : pv_T := if pn_df a f = 0 then pn_any else if pn_df b e = 0 then pn_any else (1, a - f, b - e)
theorem n_sub (ho : h.1[o]? = some (.inl 7)) (hp : h.1[p]? = some (.inl 7)) : r_Nu_subtract h o p = some (jv_p h o (pn_sub (h.2.2.1 o 1) (h.2.2.1 o 2) (h.2.2.1 p 1) (h.2.2.1 p 2))) := by
  simp only [r_Nu_subtract, r_Nu_subtract_54, r_Nu_subtract_58, jfL ho, jfL hp, jkE ho, w_df, v_any ho, v_become ho, jcI, jcV, pn_sub, pv_ite]
def pn_mul (a b e f : Int64) : pv_T := if pn_pf a e = 0 then pn_any else if pn_pf a f = 0 then pn_any else if pn_pf b e = 0 then pn_any else if pn_pf b f = 0 then pn_any else (1, mn_L (mn_L (a * e) (a * f)) (mn_L (b * e) (b * f)), mx_L (mx_L (a * e) (a * f)) (mx_L (b * e) (b * f)))
theorem n_mul (ho : h.1[o]? = some (.inl 7)) (hp : h.1[p]? = some (.inl 7)) : r_Nu_multiply h o p = some (jv_p h o (pn_mul (h.2.2.1 o 1) (h.2.2.1 o 2) (h.2.2.1 p 1) (h.2.2.1 p 2))) := by
  simp only [r_Nu_multiply, r_Nu_multiply_56, jfL ho, jfL hp, jkE ho, w_pf, v_any ho, v_become ho, w_maxL, w_minL, jcI, jcV, jcL, jlE, pn_mul, pv_ite]
def pn_div (a b e f : Int64) : pv_T := if a < 0 then pn_any else if e ≤ 0 then pn_any else if f ≤ 0 then pn_any else (1, a / f, b / e)
theorem n_div (ho : h.1[o]? = some (.inl 7)) (hp : h.1[p]? = some (.inl 7)) : r_Nu_divide h o p = some (jv_p h o (pn_div (h.2.2.1 o 1) (h.2.2.1 o 2) (h.2.2.1 p 1) (h.2.2.1 p 2))) := by
  simp only [r_Nu_divide, r_Nu_divide_53, r_Nu_divide_57, jfL ho, jfL hp, jkE ho, v_any ho, v_become ho, jcV, pn_div, pv_ite, jz_L]
  by_cases e1 : h.2.2.1 o 1 < 0
  · rw [if_pos e1, if_pos e1]
  by_cases e2 : h.2.2.1 p 1 ≤ 0
  · simp only [if_neg e1, if_pos e2]
  by_cases e3 : h.2.2.1 p 2 ≤ 0
  · simp only [if_neg e1, if_neg e2, if_pos e3]
  have z1 : ¬ h.2.2.1 p 1 = 0 := fun q => e2 (q ▸ Int64.le_refl _)
  have z2 : ¬ h.2.2.1 p 2 = 0 := fun q => e3 (q ▸ Int64.le_refl _)
  simp only [if_neg e1, if_neg e2, if_neg e3, if_neg z1, if_neg z2]
def pn_rem (a b e f : Int64) : pv_T := if a < 0 then pn_any else if e ≤ 0 then pn_any else (1, 0, mn_L b (f - 1))
theorem n_rem (ho : h.1[o]? = some (.inl 7)) (hp : h.1[p]? = some (.inl 7)) : r_Nu_leaveOver h o p = some (jv_p h o (pn_rem (h.2.2.1 o 1) (h.2.2.1 o 2) (h.2.2.1 p 1) (h.2.2.1 p 2))) := by
  simp only [r_Nu_leaveOver, r_Nu_leaveOver_40, r_Nu_leaveOver_44, jfL ho, jfL hp, jkE ho, v_any ho, v_become ho, w_minL, jcV, jcL, pn_rem, pv_ite]
def pn_and8 (a b e f : Int64) : pv_T := if e < 0 then (if a < 0 then pn_any else (1, 0, b)) else (1, 0, f)
def pn_and (a b e f : Int64) : pv_T := if a < 0 then pn_and8 a b e f else if e < 0 then pn_and8 a b e f else (1, 0, mn_L b f)
theorem n_and (ho : h.1[o]? = some (.inl 7)) (hp : h.1[p]? = some (.inl 7)) : r_Nu_and h o p = some (jv_p h o (pn_and (h.2.2.1 o 1) (h.2.2.1 o 2) (h.2.2.1 p 1) (h.2.2.1 p 2))) := by
  simp only [r_Nu_and, r_Nu_and_38, r_Nu_and_86, jfL ho, jfL hp, jkE ho, v_any ho, v_become ho, w_minL, jcV, jcL, pn_and, pn_and8, pv_ite]
def pn_ol (m : Int64) : Nat → Int64 → Int64
  | 0, y => y
  | t + 1, y => if m ≤ y then y else pn_ol m t (y <<< (Int32.toInt64 (1 : Int32) &&& 63) ||| 1)
theorem n_ol (ho : h.1[o]? = some (.inl 7)) {m : Int64} : ∀ (t j : Nat) (y : Int64), j ≤ 63 → 63 - j < t → r_Nu_or_41 t h o m y (nI j) = some (jv_p h o (1, 0, pn_ol m (63 - j) y)) := by
  intro t
  induction t with
  | zero => intro j y _ ht; omega
  | succ t ih =>
    intro j y hj ht
    show q_Nu_or_41 (r_Nu_or_41 t) h o m y (nI j) = _
    have e1 : ((63 : Int32) ≤ nI j) = (63 ≤ j) := propext (jn_le (a := 63) (by omega) (by omega))
    simp only [q_Nu_or_41, r_Nu_or_69, jkE ho, v_become ho, jcV, jlE, e1]
    by_cases h1 : 63 ≤ j
    · rw [if_pos h1, show 63 - j = 0 by omega]
      rfl
    · rw [if_neg h1, show 63 - j = (63 - (j + 1)) + 1 by omega]
      simp only [pn_ol]
      by_cases h2 : m ≤ y
      · rw [if_pos h2, if_pos h2]
      · rw [if_neg h2, if_neg h2, show (1 : Int32) = nI 1 from rfl, jn_add, ih (j + 1) _ (by omega) (by omega)]
        rfl
def pn_or (a b e f : Int64) : pv_T := if a < 0 then pn_any else if 0 ≤ e then (1, 0, pn_ol (mx_L b f) 63 0) else pn_any
theorem n_or (ho : h.1[o]? = some (.inl 7)) (hp : h.1[p]? = some (.inl 7)) : r_Nu_or h o p = some (jv_p h o (pn_or (h.2.2.1 o 1) (h.2.2.1 o 2) (h.2.2.1 p 1) (h.2.2.1 p 2))) := by
  have e : ∀ m, r_Nu_or_41 ja_fu h o m 0 0 = some (jv_p h o (1, 0, pn_ol m 63 0)) := fun m => by
    rw [ja_fu_eq]
    exact n_ol ho (m := m) 2000 0 0 (by decide) (by decide)
  simp only [r_Nu_or, r_Nu_or_18, jfL ho, jfL hp, jkE ho, v_any ho, w_maxL, jcV, jcL, jlE, e, pn_or, pv_ite]
def pn_sh (of32 : Int32) (e : Int64) : Int32 := Int64.toInt32 e &&& (if of32 = 0 then 63 else 31)
def pn_shl (k : Int32) (a b e f : Int64) : pv_T := if e = f then (if (a <<< (Int32.toInt64 k &&& 63)) >>> (Int32.toInt64 k &&& 63) = a then (if (b <<< (Int32.toInt64 k &&& 63)) >>> (Int32.toInt64 k &&& 63) = b then (1, a <<< (Int32.toInt64 k &&& 63), b <<< (Int32.toInt64 k &&& 63)) else pn_any) else pn_any) else pn_any
theorem pn_one0 {v : pv_T} {α : Type} {x y : α} : (if pn_one v = 0 then x else y) = if v.2.1 = v.2.2 then y else x := by
  unfold pn_one
  by_cases e : v.2.1 = v.2.2
  · rw [if_pos e, if_pos e, if_neg (by decide)]
  · rw [if_neg e, if_neg e, if_pos rfl]
theorem n_shl (hw : h.1[w]? = some (.inl 4)) (ho : h.1[o]? = some (.inl 7)) (hp : h.1[p]? = some (.inl 7)) : r_Nu_shiftLeft h w o p = some (jv_p h o (pn_shl (pn_sh (pw_isOf32 (h.2.1 w)) (h.2.2.1 p 1)) (h.2.2.1 o 1) (h.2.2.1 o 2) (h.2.2.1 p 1) (h.2.2.1 p 2))) := by
  have e : ∀ z0 z1 : Int32, r_Nu_shiftLeft_19 h o p z0 z1 = some (jv_p h o (pn_shl (z1 &&& z0) (h.2.2.1 o 1) (h.2.2.1 o 2) (h.2.2.1 p 1) (h.2.2.1 p 2))) := fun z0 z1 => by
    simp only [r_Nu_shiftLeft_19, r_Nu_shiftLeft_80, r_Nu_shiftLeft_84, jfL ho, jfL hp, jkE ho, jkE hp, v_one hp, v_any ho, v_become ho, jcI, jcV, jlE, pn_one0, jv_v, pn_shl, pv_ite]
  simp only [r_Nu_shiftLeft, jfL hp, jkE hw, w_isOf32 hw, jcI, e, pn_sh]
  split <;> rfl
def pn_shr (kind of32 k : Int32) (a b e f : Int64) : pv_T := if e = f then (if kind = 7 then (if a < 0 then pn_any else (1, a >>> (Int32.toInt64 k &&& 63), b >>> (Int32.toInt64 k &&& 63))) else if of32 = 0 then (1, a >>> (Int32.toInt64 k &&& 63), b >>> (Int32.toInt64 k &&& 63)) else if 2147483648 ≤ b then pn_any else (1, a >>> (Int32.toInt64 k &&& 63), b >>> (Int32.toInt64 k &&& 63))) else pn_any
theorem n_shr (hw : h.1[w]? = some (.inl 4)) (ho : h.1[o]? = some (.inl 7)) (hp : h.1[p]? = some (.inl 7)) : r_Nu_shiftRight h w o p = some (jv_p h o (pn_shr (h.2.1 w 6) (pw_isOf32 (h.2.1 w)) (pn_sh (pw_isOf32 (h.2.1 w)) (h.2.2.1 p 1)) (h.2.2.1 o 1) (h.2.2.1 o 2) (h.2.2.1 p 1) (h.2.2.1 p 2))) := by
  have e0 : ∀ k : Int32, r_Nu_shiftRight_70 h o p k 0 = some (jv_p h o pn_any) := fun k => by
    simp only [r_Nu_shiftRight_70, r_Nu_shiftRight_104, r_Nu_shiftRight_108, jkE ho, jkE hp, v_one hp, v_any ho, jcI, jcV, jlE, if_true, ite_self]
  have e1 : ∀ k : Int32, r_Nu_shiftRight_70 h o p k 1 = some (jv_p h o (if h.2.2.1 p 1 = h.2.2.1 p 2 then (1, h.2.2.1 o 1 >>> (Int32.toInt64 k &&& 63), h.2.2.1 o 2 >>> (Int32.toInt64 k &&& 63)) else pn_any)) := fun k => by
    simp only [r_Nu_shiftRight_70, r_Nu_shiftRight_104, r_Nu_shiftRight_108, jkE ho, jkE hp, v_one hp, v_any ho, v_become ho, jfL ho, jcI, jcV, jlE, if_neg i10, pn_one0, jv_v, pv_ite]
  have e : ∀ z0 z1 : Int32, r_Nu_shiftRight_19 h w o p z0 z1 = some (jv_p h o (pn_shr (h.2.1 w 6) (pw_isOf32 (h.2.1 w)) (z1 &&& z0) (h.2.2.1 o 1) (h.2.2.1 o 2) (h.2.2.1 p 1) (h.2.2.1 p 2))) := fun z0 z1 => by
    simp only [r_Nu_shiftRight_19, r_Nu_shiftRight_65, jfI hw, jfL ho, jkE hw, w_isOf32 hw, jcI, jlE, e0, e1, pn_shr]
    by_cases q : h.2.2.1 p 1 = h.2.2.1 p 2
    · simp only [if_pos q, pv_ite]
    · simp only [if_neg q, ite_self]
  simp only [r_Nu_shiftRight, jfL hp, jkE hw, w_isOf32 hw, jcI, e, pn_sh]
  split <;> rfl
def pn_neg (a b : Int64) : pv_T := if a = -9223372036854775808 then pn_any else (1, -b, -a)
theorem n_neg (ho : h.1[o]? = some (.inl 7)) : r_Nu_negate h o = some (jv_p h o (pn_neg (h.2.2.1 o 1) (h.2.2.1 o 2))) := by
  simp only [r_Nu_negate, r_Nu_negate_33, jfL ho, jkE ho, v_any ho, v_become ho, jcV, pn_neg, pv_ite]
def pn_turn (imm : Int32) : pv_T := if imm = 16 then (1, 0, ((1 : Int64) <<< (Int32.toInt64 imm &&& 63)) - 1) else if imm = 32 then (1, 0, ((1 : Int64) <<< (Int32.toInt64 imm &&& 63)) - 1) else pn_any
theorem n_turn (hw : h.1[w]? = some (.inl 4)) (ho : h.1[o]? = some (.inl 7)) : r_Nu_turn h w o = some (jv_p h o (pn_turn (h.2.1 w 4))) := by
  simp only [r_Nu_turn, r_Nu_turn_18, r_Nu_turn_39, jfI hw, jkE ho, v_any ho, v_become ho, jcV, pn_turn, pv_ite]
def pn_spans (g : Nat → Int32) (a b e f : Int64) : pv_T := if g 6 = 0 then pn_add a b e f else if g 6 = 1 then pn_sub a b e f else if g 6 = 2 then pn_mul a b e f else if g 6 = 3 then pn_div a b e f else if g 6 = 4 then pn_or a b e f else if g 6 = 5 then pn_and a b e f else if g 6 = 6 then pn_shl (pn_sh (pw_isOf32 g) e) a b e f else if g 6 = 7 then pn_shr (g 6) (pw_isOf32 g) (pn_sh (pw_isOf32 g) e) a b e f else if g 6 = 8 then pn_neg a b else if g 6 = 9 then pn_rem a b e f else if g 6 = 10 then pn_or a b e f else if g 6 = 11 then pn_turn (g 4) else if g 6 = 12 then pn_shr (g 6) (pw_isOf32 g) (pn_sh (pw_isOf32 g) e) a b e f else pn_turn (g 4)
theorem n_spans (hw : h.1[w]? = some (.inl 4)) (ho : h.1[o]? = some (.inl 7)) (hp : h.1[p]? = some (.inl 7)) : r_Nu_reckonSpans h w o p = some (jv_p h o (pn_spans (h.2.1 w) (h.2.2.1 o 1) (h.2.2.1 o 2) (h.2.2.1 p 1) (h.2.2.1 p 2))) := by
  simp only [r_Nu_reckonSpans, r_Nu_reckonSpans_120, r_Nu_reckonSpans_137, r_Nu_reckonSpans_153, r_Nu_reckonSpans_158, jfI hw, n_add ho hp, n_sub ho hp, n_mul ho hp, n_div ho hp, n_or ho hp, n_and ho hp, n_shl hw ho hp, n_shr hw ho hp, n_neg ho, n_rem ho hp, n_turn hw ho, jcV, jsw, pn_spans, pv_ite]
def ar_quo (a c : Int64) : Int64 := if c = 0 then 0 else if 0 ≤ c then (if a - ((UInt64.toInt64 (Int64.toUInt64 a >>> (Int64.toUInt64 (Int32.toInt64 (1 : Int32)) &&& Int64.toUInt64 63))) / c) <<< (Int32.toInt64 (1 : Int32) &&& 63) * c < 0 then ((UInt64.toInt64 (Int64.toUInt64 a >>> (Int64.toUInt64 (Int32.toInt64 (1 : Int32)) &&& Int64.toUInt64 63))) / c) <<< (Int32.toInt64 (1 : Int32) &&& 63) + 1 else if a - ((UInt64.toInt64 (Int64.toUInt64 a >>> (Int64.toUInt64 (Int32.toInt64 (1 : Int32)) &&& Int64.toUInt64 63))) / c) <<< (Int32.toInt64 (1 : Int32) &&& 63) * c < c then ((UInt64.toInt64 (Int64.toUInt64 a >>> (Int64.toUInt64 (Int32.toInt64 (1 : Int32)) &&& Int64.toUInt64 63))) / c) <<< (Int32.toInt64 (1 : Int32) &&& 63) else ((UInt64.toInt64 (Int64.toUInt64 a >>> (Int64.toUInt64 (Int32.toInt64 (1 : Int32)) &&& Int64.toUInt64 63))) / c) <<< (Int32.toInt64 (1 : Int32) &&& 63) + 1) else if 0 ≤ a then 0 else if a < c then 0 else 1
theorem a_quo {a c : Int64} : r_Ar_quotient h a c = some (ar_quo a c, h) := by
  by_cases e : c = 0
  · simp only [r_Ar_quotient, ar_quo, if_pos e]
  · simp only [r_Ar_quotient, r_Ar_quotient_30, r_Ar_quotient_31, r_Ar_quotient_63, r_Ar_quotient_72, jlE, jz_L, ar_quo, if_neg e, pw_itL]
def ar_low (d bits : Int64) : Int64 := if bits = 64 then d else d &&& (((1 : Int64) <<< (Int32.toInt64 (Int64.toInt32 bits) &&& 63)) - 1)
theorem a_low {a c : Int64} : r_Ar_lowest h a c = some (ar_low a c, h) := by
  simp only [r_Ar_lowest, r_Ar_lowest_20, ar_low, pw_itL]
def ar_tl (d bits : Int64) : Nat → Int64 → Nat → Int64
  | 0, y, _ => y
  | t + 1, y, i => if bits ≤ Int32.toInt64 (nI i) then y else ar_tl d bits t (y <<< (Int32.toInt64 (8 : Int32) &&& 63) ||| ((UInt64.toInt64 (Int64.toUInt64 d >>> (Int64.toUInt64 (Int32.toInt64 (nI i)) &&& Int64.toUInt64 63))) &&& 255)) (i + 8)
theorem a_tl {d bits : Int64} : ∀ (t j : Nat) (y : Int64), j ≤ 8 → 8 - j < t → r_Ar_turned_6 t h d bits y (nI (8 * j)) = some (ar_tl d bits (8 - j) y (8 * j), h) := by
  intro t
  induction t with
  | zero => intro j y _ ht; omega
  | succ t ih =>
    intro j y hj ht
    show q_Ar_turned_6 (r_Ar_turned_6 t) h d bits y (nI (8 * j)) = _
    have e1 : ((64 : Int32) ≤ nI (8 * j)) = (64 ≤ 8 * j) := propext (jn_le (a := 64) (by omega) (by omega))
    simp only [q_Ar_turned_6, r_Ar_turned_43, jlE, e1]
    by_cases h1 : 64 ≤ 8 * j
    · rw [if_pos h1, show 8 - j = 0 by omega]
      rfl
    · rw [if_neg h1, show 8 - j = (8 - (j + 1)) + 1 by omega]
      simp only [ar_tl]
      by_cases h2 : bits ≤ Int32.toInt64 (nI (8 * j))
      · rw [if_pos h2, if_pos h2]
      · rw [if_neg h2, if_neg h2]
        have e3 : nI (8 * j) + 8 = nI (8 * (j + 1)) := jn_add (8 * j) 8
        rw [e3, ih (j + 1) _ (by omega) (by omega)]
        rfl
def ar_turned (d bits : Int64) : Int64 := ar_tl d bits 8 0 0
theorem a_turned {d bits : Int64} : r_Ar_turned h d bits = some (ar_turned d bits, h) := by
  simp only [r_Ar_turned, jlE, ja_fu_eq]
  exact a_tl (d := d) (bits := bits) 2000 0 0 (by decide) (by decide)
def ar_tk (op : Int32) (a c : Int64) (x : Int32) : Int64 := if op >>> (4 &&& 31) = 0 then a + c else if op >>> (4 &&& 31) = 1 then a - c else if op >>> (4 &&& 31) = 2 then a * c else if op >>> (4 &&& 31) = 3 then ar_quo a c else if op >>> (4 &&& 31) = 4 then a ||| c else if op >>> (4 &&& 31) = 5 then a &&& c else if op >>> (4 &&& 31) = 6 then a <<< (Int32.toInt64 x &&& 63) else if op >>> (4 &&& 31) = 7 then UInt64.toInt64 (Int64.toUInt64 a >>> (Int64.toUInt64 (Int32.toInt64 x) &&& Int64.toUInt64 63)) else if op >>> (4 &&& 31) = 8 then -a else if op >>> (4 &&& 31) = 9 then a - ar_quo a c * c else if op >>> (4 &&& 31) = 10 then a ^^^ c else if op >>> (4 &&& 31) = 11 then c else if op >>> (4 &&& 31) = 12 then (if op &&& 7 = 4 then Int32.toInt64 (Int64.toInt32 a >>> (x &&& 31)) else a >>> (Int32.toInt64 x &&& 63)) else if op >>> (4 &&& 31) = 13 then (if op &&& 8 = 0 then ar_low a c else ar_turned a c) else c
def ar_sh (op : Int32) (c : Int64) : Int32 := Int64.toInt32 c &&& (if op &&& 7 = 4 then 31 else 63)
theorem a_tk {op : Int32} {a c : Int64} : r_Ar_reckonTaken h op a c = some (ar_tk op a c (ar_sh op c), h) := by
  have e : ∀ z0 z1 : Int32, r_Ar_reckonTaken_17 h op a c z0 z1 = some (ar_tk op a c (z1 &&& z0), h) := fun z0 z1 => by
    simp only [r_Ar_reckonTaken_17, r_Ar_reckonTaken_166, r_Ar_reckonTaken_187, r_Ar_reckonTaken_188, a_quo, a_low, a_turned, jcL, jlE, jsw, ar_tk, pw_itL]
  simp only [r_Ar_reckonTaken, e, ar_sh]
  split <;> rfl
def ar_32 (op : Int32) : Int32 := if op &&& 7 = 4 then (if op >>> (4 &&& 31) = 13 then 0 else 1) else 0
def ar_m (b : Int32) (x : Int64) : Int64 := if b = 0 then x else x &&& 4294967295
def ar_reck (op : Int32) (d c : Int64) : Int64 := ar_m (ar_32 op) (ar_tk op (ar_m (ar_32 op) d) (ar_m (ar_32 op) c) (ar_sh op (ar_m (ar_32 op) c)))
theorem a_reck {op : Int32} {a c : Int64} : r_Ar_reckon h op a c = some (ar_reck op a c, h) := by
  have e : ∀ z : Int32, r_Ar_reckon_21 h op a c z = some (ar_m z (ar_tk op (ar_m z a) (ar_m z c) (ar_sh op (ar_m z c))), h) := fun z => by
    simp only [r_Ar_reckon_21, r_Ar_reckon_37, r_Ar_reckon_53, r_Ar_reckon_81, a_tk, jcL, jlE, ar_m]
    split <;> rfl
  simp only [r_Ar_reckon, r_Ar_reckon_20, e, ar_reck, ar_32]
  (repeat' split) <;> rfl
end VA
