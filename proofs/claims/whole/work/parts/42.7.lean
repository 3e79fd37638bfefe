section JU
variable {h : ja_H} {V W : Nat → pv_T} {B C : Nat → Int32} {l r n : pv_T}
def jd (h : ja_H) (V : Nat → pv_T) (B : Nat → Int32) (l r n : pv_T) : ja_H := jv_p (jv_p (jv_p (st_w h 10 V B) 16 l) 17 r) 18 n
theorem jd_1 : (jd h V B l r n).1 = h.1 := rfl
theorem jd_R : (jd h V B l r n).2.2.2 = h.2.2.2 := rfl
theorem jd_B : jv_B (jd h V B l r n) = jv_B h := rfl
theorem jd_l : jv_v (jd h V B l r n) 16 = l := by
  unfold jd
  rw [jv_pvo (by decide), jv_pvo (by decide), jv_pv]
theorem jd_r : jv_v (jd h V B l r n) 17 = r := by
  unfold jd
  rw [jv_pvo (by decide), jv_pv]
theorem jd_n : jv_v (jd h V B l r n) 18 = n := by
  unfold jd
  rw [jv_pv]
theorem jv_pc {o p : Nat} {u v : pv_T} (e : o ≠ p) : jv_p (jv_p h o u) p v = jv_p (jv_p h p v) o u := by
  refine ja_hext rfl (fun a b => ?_) (fun a b => ?_) rfl
  · simp only [jv_pI]
    by_cases a1 : a = o
    · have a2 : ¬ a = p := by omega
      simp [a2]
    · simp [a1]
  · simp only [jv_pL]
    by_cases a1 : a = o
    · have a2 : ¬ a = p := by omega
      simp [a2]
    · simp [a1]
theorem jd_p16 {x : pv_T} : jv_p (jd h V B l r n) 16 x = jd h V B x r n := by
  unfold jd
  rw [jv_pc (o := 18) (by decide), jv_pc (o := 17) (by decide), jv_pp]
theorem jd_p17 {x : pv_T} : jv_p (jd h V B l r n) 17 x = jd h V B l x n := by
  unfold jd
  rw [jv_pc (o := 18) (by decide), jv_pp]
theorem jd_p18 {x : pv_T} : jv_p (jd h V B l r n) 18 x = jd h V B l r x := by
  unfold jd
  rw [jv_pp]
theorem jd_I {a : Nat} (ha : a < 11 ∨ a = 12 ∨ a = 13 ∨ a = 15 ∨ 18 < a) : (jd h V B l r n).2.1 a = h.2.1 a := by
  unfold jd
  rw [jv_pIo (by omega), jv_pIo (by omega), jv_pIo (by omega), st_wIo (by omega) (by omega)]
theorem jd_L {a : Nat} (ha : a < 12 ∨ a = 14 ∨ a = 15 ∨ 18 < a) : (jd h V B l r n).2.2.1 a = h.2.2.1 a := by
  unfold jd
  rw [jv_pLo (by omega), jv_pLo (by omega), jv_pLo (by omega), st_wLo (by omega) (by omega)]
theorem jd_15 : (jd h V B l r n).2.1 15 = h.2.1 15 := jd_I (by omega)
theorem jd_8 : (jd h V B l r n).2.1 8 = h.2.1 8 := jd_I (by omega)
theorem jd_V : st_c (jd h V B l r n) 10 = V := by
  unfold jd
  rw [st_pc (by omega), st_pc (by omega), st_pc (by omega), st_wc]
theorem jd_14 : (jd h V B l r n).2.1 14 = B := by
  unfold jd
  rw [jv_pIo (by omega), jv_pIo (by omega), jv_pIo (by omega)]
  exact st_wb (s := 10)
theorem st_wp {s o : Nat} {v : pv_T} (ho : o < s ∨ s + 4 < o) : st_w (jv_p h o v) s V B = jv_p (st_w h s V B) o v := by
  refine ja_hext rfl (fun a b => ?_) (fun a b => ?_) rfl
  · simp only [jv_pI, st_wI]
    by_cases a1 : a = o
    · have a2 : ¬ a = s + 1 := by omega
      have a3 : ¬ a = s + 4 := by omega
      simp [a2, a3]
    · simp [a1]
  · simp only [jv_pL, st_wL]
    by_cases a1 : a = o
    · have a2 : ¬ a = s + 2 := by omega
      have a3 : ¬ a = s + 3 := by omega
      simp [a2, a3]
    · simp [a1]
theorem jd_w : st_w (jd h V B l r n) 10 W C = jd h W C l r n := by
  unfold jd
  rw [st_wp (by omega), st_wp (by omega), st_wp (by omega), st_ww]
theorem jd_s : jd h V B l r n = st_w (jd h V B l r n) 10 V B := jd_w.symm
theorem jd_self : jd h (st_c h 10) (h.2.1 14) (jv_v h 16) (jv_v h 17) (jv_v h 18) = h := by
  unfold jd
  rw [show st_w h 10 (st_c h 10) (h.2.1 14) = h from st_ws, show jv_p h 16 (jv_v h 16) = h from jv_ps, show jv_p h 17 (jv_v h 17) = h from jv_ps, show jv_p h 18 (jv_v h 18) = h from jv_ps]
theorem jdI0 : (jd h V B l r n).2.1 16 0 = l.1 := congrArg (fun q => q.1) (jd_l (h := h) (V := V) (B := B) (l := l) (r := r) (n := n))
theorem jdI1 : (jd h V B l r n).2.2.1 16 1 = l.2.1 := congrArg (fun q => q.2.1) (jd_l (h := h) (V := V) (B := B) (l := l) (r := r) (n := n))
theorem jdI2 : (jd h V B l r n).2.2.1 16 2 = l.2.2 := congrArg (fun q => q.2.2) (jd_l (h := h) (V := V) (B := B) (l := l) (r := r) (n := n))
theorem jdJ0 : (jd h V B l r n).2.1 17 0 = r.1 := congrArg (fun q => q.1) (jd_r (h := h) (V := V) (B := B) (l := l) (r := r) (n := n))
theorem jdJ1 : (jd h V B l r n).2.2.1 17 1 = r.2.1 := congrArg (fun q => q.2.1) (jd_r (h := h) (V := V) (B := B) (l := l) (r := r) (n := n))
theorem jdJ2 : (jd h V B l r n).2.2.1 17 2 = r.2.2 := congrArg (fun q => q.2.2) (jd_r (h := h) (V := V) (B := B) (l := l) (r := r) (n := n))
theorem ju_save {i : Nat} (b : jv_B h) (hi : i < 80) : r_St_save (jd h V B l r n) 10 (nI i) 16 = some (jd h (pu_f V i l) B l r n) ∧ r_St_save (jd h V B l r n) 10 (nI i) 18 = some (jd h (pu_f V i n) B l r n) := by
  have b' : jv_B (jd h V B l r n) := b
  constructor
  · have := st_save (V := V) (B := B) (st_10 b') hi (jS_16 b') (by omega)
    rw [jd_w, jd_l, jd_w] at this
    exact this
  · have := st_save (V := V) (B := B) (st_10 b') hi (jS_18 b') (by omega)
    rw [jd_w, jd_n, jd_w] at this
    exact this
theorem ju_load {i o : Nat} (b : jv_B h) (hi : i < 80) (ho : h.1[o]? = some (.inl 7)) : r_St_load (jd h V B l r n) 10 (nI i) o = some (jv_p (jd h V B l r n) o (V i)) := by
  have b' : jv_B (jd h V B l r n) := b
  rw [st_load (st_10 b') hi ho, jd_V]
def pj_mp2 (g : Nat → Int32) (l p b : pv_T) : Int32 × pv_T := if pn_in b (-200000) 200000 = 0 then (7, l) else (if pn_in (p.1, (if g 6 = 0 then p.2.1 + b.2.1 else p.2.1 - b.2.2), (if g 6 = 0 then p.2.2 + b.2.2 else p.2.2 - b.2.1)) (-100000) 100000 = 0 then 7 else 0, (p.1, (if g 6 = 0 then p.2.1 + b.2.1 else p.2.1 - b.2.2), (if g 6 = 0 then p.2.2 + b.2.2 else p.2.2 - b.2.1)))
def pj_mp1 (g : Nat → Int32) (l p b : pv_T) : Int32 × pv_T := if p.1 = 3 then (if pn_one b = 0 then (7, l) else pj_mp2 g l p b) else pj_mp2 g l p b
def pj_mp (g : Nat → Int32) (l r : pv_T) : Int32 × pv_T := if pw_isOf32 g = 0 ∧ (g 6 = 0 ∨ g 6 = 1 ∧ ¬ pn_ptr l = 0) ∧ ¬ (¬ pn_ptr l = 0 ∧ ¬ pn_ptr r = 0) then (if pn_ptr l = 0 then pj_mp1 g l r l else pj_mp1 g l l r) else (7, l)
def pj_ret (h : ja_H) (V : Nat → pv_T) (B : Nat → Int32) (r n : pv_T) (q : Int32 × pv_T) : Option (Int32 × ja_H) := some (q.1, jd h V B q.2 r n)
theorem pj_ret_ite {c : Prop} [Decidable c] {x y : Int32 × pv_T} : pj_ret h V B r n (if c then x else y) = if c then pj_ret h V B r n x else pj_ret h V B r n y := by
  split <;> rfl
theorem ju_218 (b : jv_B h) {p : Nat} {x y : Int64} (hp : p = 16 ∨ p = 17) : r_Ju_movePointer_218 (jd h V B l r n) 8 p x y = pj_ret h V B r n (if pn_in ((jd h V B l r n).2.1 p 0, x, y) (-100000) 100000 = 0 then 7 else 0, ((jd h V B l r n).2.1 p 0, x, y)) := by
  have b' : ∀ l, jv_B (jd h V B l r n) := fun _ => b
  have hs : (jd h V B l r n).1[p]? = some (.inl 7) := by
    rcases hp with e | e
    · subst e
      exact jS_16 b
    · subst e
      exact jS_17 b
  simp only [r_Ju_movePointer_218, r_Ju_movePointer_257, jlE, jR_8_3 (b' _), jfI hs, jk_16 (b' _), v_become (jS_16 (b' _)), jcV, jd_p16, v_in (jS_16 (b' _)), jcI, jd_l, pj_ret, pw_ite]
theorem ju_127 (b : jv_B h) {y1 : Int32} (hy : y1 = if h.2.1 15 6 = 0 then 1 else 0) : r_Ju_movePointer_127 (jd h V B l r n) 8 y1 16 17 = pj_ret h V B r n (pj_mp1 (h.2.1 15) l l r) ∧ r_Ju_movePointer_127 (jd h V B l r n) 8 y1 17 16 = pj_ret h V B r n (pj_mp1 (h.2.1 15) l r l) := by
  have b' : jv_B (jd h V B l r n) := b
  have q : pj_ret h V B r n (7, l) = some (7, jd h V B l r n) := rfl
  by_cases e : h.2.1 15 6 = 0
  · rw [if_pos e] at hy
    subst hy
    constructor
    · simp only [r_Ju_movePointer_127, r_Ju_movePointer_145, r_Ju_movePointer_159, r_Ju_movePointer_189, jlE, jI_16 b', jI_17 b', jL_16 b', jL_17 b', jk_16 b', jk_17 b', v_one (jS_16 b'), v_one (jS_17 b'), v_in (jS_16 b'), v_in (jS_17 b'), jcI, ju_218 b (Or.inl rfl), jd_l, jd_r, jdI0, jdI1, jdI2, jdJ0, jdJ1, jdJ2, if_neg i10, pj_mp1, pj_mp2, pj_ret_ite, q, if_pos e]
    · simp only [r_Ju_movePointer_127, r_Ju_movePointer_145, r_Ju_movePointer_159, r_Ju_movePointer_189, jlE, jI_16 b', jI_17 b', jL_16 b', jL_17 b', jk_16 b', jk_17 b', v_one (jS_16 b'), v_one (jS_17 b'), v_in (jS_16 b'), v_in (jS_17 b'), jcI, ju_218 b (Or.inr rfl), jd_l, jd_r, jdI0, jdI1, jdI2, jdJ0, jdJ1, jdJ2, if_neg i10, pj_mp1, pj_mp2, pj_ret_ite, q, if_pos e]
  · rw [if_neg e] at hy
    subst hy
    constructor
    · simp only [r_Ju_movePointer_127, r_Ju_movePointer_145, r_Ju_movePointer_159, r_Ju_movePointer_189, jlE, jI_16 b', jI_17 b', jL_16 b', jL_17 b', jk_16 b', jk_17 b', v_one (jS_16 b'), v_one (jS_17 b'), v_in (jS_16 b'), v_in (jS_17 b'), jcI, ju_218 b (Or.inl rfl), jd_l, jd_r, jdI0, jdI1, jdI2, jdJ0, jdJ1, jdJ2, if_true, pj_mp1, pj_mp2, pj_ret_ite, q, if_neg e]
    · simp only [r_Ju_movePointer_127, r_Ju_movePointer_145, r_Ju_movePointer_159, r_Ju_movePointer_189, jlE, jI_16 b', jI_17 b', jL_16 b', jL_17 b', jk_16 b', jk_17 b', v_one (jS_16 b'), v_one (jS_17 b'), v_in (jS_16 b'), v_in (jS_17 b'), jcI, ju_218 b (Or.inr rfl), jd_l, jd_r, jdI0, jdI1, jdI2, jdJ0, jdJ1, jdJ2, if_true, pj_mp1, pj_mp2, pj_ret_ite, q, if_neg e]
theorem ju_84 (b : jv_B h) {y1 : Int32} (hy : y1 = if h.2.1 15 6 = 0 then 1 else 0) : r_Ju_movePointer_84 (jd h V B l r n) 8 y1 = pj_ret h V B r n (if pn_ptr l = 0 then pj_mp1 (h.2.1 15) l r l else pj_mp1 (h.2.1 15) l l r) := by
  have b' : jv_B (jd h V B l r n) := b
  simp only [r_Ju_movePointer_84, r_Ju_movePointer_105, jlE, jR_8_3 b', jR_8_4 b', jk_16 b', v_ptr (jS_16 b'), jcI, jd_l, (ju_127 b hy).1, (ju_127 b hy).2, pj_ret_ite]
  by_cases e : pn_ptr l = 0
  · simp only [if_pos e]
  · simp only [if_neg e]
theorem ju_mp (b : jv_B h) : r_Ju_movePointer (jd h V B l r n) 8 = pj_ret h V B r n (pj_mp (h.2.1 15) l r) := by
  have b' : jv_B (jd h V B l r n) := b
  have q : pj_ret h V B r n (7, l) = some (7, jd h V B l r n) := rfl
  unfold pj_mp
  by_cases e : h.2.1 15 6 = 0
  · simp only [r_Ju_movePointer, r_Ju_movePointer_15, r_Ju_movePointer_51, r_Ju_movePointer_55, r_Ju_movePointer_56, r_Ju_movePointer_81, jlE, jR_8_2 b', jR_8_3 b', jR_8_4 b', jI_15 b', jk_15 b', jk_16 b', jk_17 b', w_isOf32 (jS_15 b'), v_ptr (jS_16 b'), v_ptr (jS_17 b'), jcI, jd_l, jd_r, jd_15, if_pos e, if_neg i10, if_true, ju_84 b (y1 := 1) (by rw [if_pos e]), pj_ret_ite, q]
    by_cases e1 : pw_isOf32 (h.2.1 15) = 0
    · by_cases e2 : pn_ptr l = 0
      · simp [e1, e2, e]
      · by_cases e3 : pn_ptr r = 0
        · simp [e1, e2, e3, e]
        · simp [e1, e2, e3, e]
    · simp [e1]
  · simp only [r_Ju_movePointer, r_Ju_movePointer_15, r_Ju_movePointer_51, r_Ju_movePointer_55, r_Ju_movePointer_56, r_Ju_movePointer_81, jlE, jR_8_2 b', jR_8_3 b', jR_8_4 b', jI_15 b', jk_15 b', jk_16 b', jk_17 b', w_isOf32 (jS_15 b'), v_ptr (jS_16 b'), v_ptr (jS_17 b'), jcI, jd_l, jd_r, jd_15, if_neg e, if_neg i10, if_true, ju_84 b (y1 := 0) (by rw [if_neg e]), pj_ret_ite, q]
    by_cases e1 : pw_isOf32 (h.2.1 15) = 0
    · by_cases e2 : pn_ptr l = 0
      · simp [e1, e2, e]
      · by_cases e3 : pn_ptr r = 0
        · by_cases e4 : h.2.1 15 6 = 1 <;> simp [e1, e2, e3, e4, e]
        · by_cases e4 : h.2.1 15 6 = 1 <;> simp [e1, e2, e3, e4, e]
    · simp [e1]
def pj_ar (g : Nat → Int32) (l r : pv_T) : Int32 × pv_T := if g 6 = 11 then (if pw_isOf32 g = 0 then (0, r) else if pn_ptr r = 0 then (0, pn_low r) else (7, l)) else if pn_ptr l = 0 then (if pn_ptr r = 0 then (0, pn_reck g l r) else pj_mp g l r) else pj_mp g l r
theorem ju_ar (b : jv_B h) : ∃ r', r_Ju_examineArithmetic (jd h V B l r n) 8 = pj_ret h V B r' n (pj_ar (h.2.1 15) l r) := by
  have b' : ∀ l r, jv_B (jd h V B l r n) := fun _ _ => b
  have e0 : r_Ju_examineArithmetic_37 (jd h V B l r n) 8 = pj_ret h V B r n (pj_mp (h.2.1 15) l r) := by
    simp only [r_Ju_examineArithmetic_37, jk_8 (b' _ _), ju_mp b]
    rfl
  have e30 : ∀ r, r_Ju_move_30 (jd h V B l r n) 8 = some (0, jd h V B r r n) := fun r => by
    simp only [r_Ju_move_30, jR_8_3 (b' _ _), jR_8_4 (b' _ _), jI_17 (b' _ _), jL_17 (b' _ _), jk_16 (b' _ _), v_become (jS_16 (b' _ _)), jcV, jd_p16, jdJ0, jdJ1, jdJ2]
  have er : r_Nu_reckon (jd h V B l r n) 15 16 17 = some (jd h V B (pn_reck (h.2.1 15) l r) (pn_t32 (pw_isOf32 (h.2.1 15)) r) n) := by
    rw [n_reck (jS_15 (b' _ _)) (jS_16 (b' _ _)) (jS_17 (b' _ _)) (by decide) (by decide) (by decide), jd_15, jd_l, jd_r, jd_p16, jd_p17, jd_p16]
  unfold pj_ar
  simp only [r_Ju_examineArithmetic, jR_8_2 (b' _ _), jR_8_3 (b' _ _), jR_8_4 (b' _ _), jI_15 (b' _ _), jd_15, jk_8 (b' _ _), jk_16 (b' _ _), jk_17 (b' _ _), v_ptr (jS_16 (b' _ _)), v_ptr (jS_17 (b' _ _)), jcI, jd_l, jd_r, er, jcV, e0, r_Ju_move, jk_15 (b' _ _), w_isOf32 (jS_15 (b' _ _)), e30, n_low (jS_17 (b' _ _)), jd_p17]
  by_cases c1 : h.2.1 15 6 = 11
  · simp only [if_pos c1]
    by_cases c2 : pw_isOf32 (h.2.1 15) = 0
    · simp only [if_pos c2]
      exact ⟨r, rfl⟩
    · simp only [if_neg c2]
      by_cases c3 : pn_ptr r = 0
      · simp only [if_pos c3]
        exact ⟨pn_low r, rfl⟩
      · simp only [if_neg c3]
        exact ⟨r, rfl⟩
  · simp only [if_neg c1]
    by_cases c2 : pn_ptr l = 0
    · simp only [if_pos c2]
      by_cases c3 : pn_ptr r = 0
      · simp only [if_pos c3]
        exact ⟨pn_t32 (pw_isOf32 (h.2.1 15)) r, rfl⟩
      · simp only [if_neg c3]
        exact ⟨r, rfl⟩
    · simp only [if_neg c2]
      exact ⟨r, rfl⟩
end JU
