section ST
variable {h : ja_H} {s t : Nat}
def st_ok (h : ja_H) (s : Nat) : Prop := h.1[s]? = some (.inl 6) ∧ h.1[s + 1]? = some (.inr (0, 80)) ∧ h.1[s + 2]? = some (.inr (1, 80)) ∧ h.1[s + 3]? = some (.inr (1, 80)) ∧ h.1[s + 4]? = some (.inr (0, 64)) ∧ h.2.2.2.1 s 0 = some (s + 1) ∧ h.2.2.2.1 s 1 = some (s + 2) ∧ h.2.2.2.1 s 2 = some (s + 3) ∧ h.2.2.2.1 s 3 = some (s + 4)
theorem st_10 (B : jv_B h) : st_ok h 10 := ⟨jS_10 B, jS_11 B, jS_12 B, jS_13 B, jS_14 B, jr_10_0 B, jr_10_1 B, jr_10_2 B, jr_10_3 B⟩
def st_c (h : ja_H) (s : Nat) : Nat → pv_T := fun i => (h.2.1 (s + 1) i, h.2.2.1 (s + 2) i, h.2.2.1 (s + 3) i)
def st_w (h : ja_H) (s : Nat) (V : Nat → pv_T) (B : Nat → Int32) : ja_H := (h.1, fun a b => if a = s + 1 then (V b).1 else if a = s + 4 then B b else h.2.1 a b, fun a b => if a = s + 2 then (V b).2.1 else if a = s + 3 then (V b).2.2 else h.2.2.1 a b, h.2.2.2)
variable {V W : Nat → pv_T} {B C : Nat → Int32}
theorem st_wI {a b : Nat} : (st_w h s V B).2.1 a b = if a = s + 1 then (V b).1 else if a = s + 4 then B b else h.2.1 a b := of_eq_true (eq_self _)
theorem st_wL {a b : Nat} : (st_w h s V B).2.2.1 a b = if a = s + 2 then (V b).2.1 else if a = s + 3 then (V b).2.2 else h.2.2.1 a b := of_eq_true (eq_self _)
theorem st_w1 : (st_w h s V B).1 = h.1 := rfl
theorem st_wR : (st_w h s V B).2.2.2 = h.2.2.2 := rfl
theorem st_wB : jv_B (st_w h s V B) = jv_B h := rfl
theorem st_wk : st_ok (st_w h s V B) t = st_ok h t := rfl
theorem st_ws : st_w h s (st_c h s) (h.2.1 (s + 4)) = h := by
  refine ja_hext rfl (fun a b => ?_) (fun a b => ?_) rfl
  · rw [st_wI]
    split
    · next e => rw [e]; rfl
    · split
      · next e => rw [e]
      · rfl
  · rw [st_wL]
    split
    · next e => rw [e]; rfl
    · split
      · next e => rw [e]; rfl
      · rfl
theorem st_ww : st_w (st_w h s V B) s W C = st_w h s W C := by
  refine ja_hext rfl (fun a b => ?_) (fun a b => ?_) rfl
  · simp only [st_wI]
    split
    · rfl
    · split <;> rfl
  · simp only [st_wL]
    split
    · rfl
    · split <;> rfl
theorem st_wc : st_c (st_w h s V B) s = V := by
  funext i
  simp [st_c, st_wI, st_wL]
theorem st_wb : (st_w h s V B).2.1 (s + 4) = B := by
  funext i
  simp [st_wI]
theorem st_wIo {a : Nat} (h1 : a ≠ s + 1) (h2 : a ≠ s + 4) : (st_w h s V B).2.1 a = h.2.1 a := by
  funext b
  rw [st_wI, if_neg h1, if_neg h2]
theorem st_wLo {a : Nat} (h1 : a ≠ s + 2) (h2 : a ≠ s + 3) : (st_w h s V B).2.2.1 a = h.2.2.1 a := by
  funext b
  rw [st_wL, if_neg h1, if_neg h2]
def st_dj (s t : Nat) : Prop := s + 4 < t ∨ t + 4 < s
theorem st_wco (d : st_dj s t) : st_c (st_w h s V B) t = st_c h t := by
  unfold st_dj at d
  funext i
  simp only [st_c]
  rw [st_wIo (by omega) (by omega), st_wLo (by omega) (by omega), st_wLo (by omega) (by omega)]
theorem st_wbo (d : st_dj s t) : (st_w h s V B).2.1 (t + 4) = h.2.1 (t + 4) := by
  unfold st_dj at d
  exact st_wIo (by omega) (by omega)
theorem st_pc {o : Nat} {v : pv_T} (ho : o < s ∨ s + 4 < o) : st_c (jv_p h o v) s = st_c h s := by
  funext i
  simp only [st_c]
  rw [jv_pIo (by omega), jv_pLo (by omega), jv_pLo (by omega)]
theorem st_wv {o : Nat} (ho : o < s ∨ s + 4 < o) : jv_v (st_w h s V B) o = jv_v h o := by
  simp only [jv_v]
  rw [st_wIo (by omega) (by omega), st_wLo (by omega) (by omega)]
def pu_f {α : Type} (f : Nat → α) (i : Nat) (x : α) : Nat → α := fun j => if j = i then x else f j
theorem pu_at {α : Type} {f : Nat → α} {i : Nat} {x : α} : pu_f f i x i = x := if_pos rfl
theorem pu_up {α : Type} {f : Nat → α} {i : Nat} {x y : α} : pu_f (pu_f f i x) i y = pu_f f i y := by
  funext j
  simp only [pu_f]
  split <;> rfl
theorem st_s0 {i : Nat} {x : Int32} : ja_sI (st_w h s V B) (s + 1) i x = st_w h s (pu_f V i (x, (V i).2)) B := by
  refine ja_hext rfl (fun a b => ?_) (fun a b => ?_) rfl
  · rw [ja_rI, st_wI, st_wI]
    simp only [pu_f]
    by_cases e : a = s + 1
    · by_cases e2 : b = i <;> simp [e, e2]
    · simp [e]
  · show (st_w h s V B).2.2.1 a b = _
    rw [st_wL, st_wL]
    simp only [pu_f]
    by_cases e2 : b = i <;> simp [e2]
theorem st_s1 {i : Nat} {x : Int64} : ja_sL (st_w h s V B) (s + 2) i x = st_w h s (pu_f V i ((V i).1, x, (V i).2.2)) B := by
  refine ja_hext rfl (fun a b => ?_) (fun a b => ?_) rfl
  · show (st_w h s V B).2.1 a b = _
    rw [st_wI, st_wI]
    simp only [pu_f]
    by_cases e2 : b = i <;> simp [e2]
  · rw [ja_rL, st_wL, st_wL]
    simp only [pu_f]
    by_cases e : a = s + 2
    · by_cases e2 : b = i <;> simp [e, e2]
    · by_cases e2 : b = i <;> simp [e, e2]
theorem st_s2 {i : Nat} {x : Int64} : ja_sL (st_w h s V B) (s + 3) i x = st_w h s (pu_f V i ((V i).1, (V i).2.1, x)) B := by
  refine ja_hext rfl (fun a b => ?_) (fun a b => ?_) rfl
  · show (st_w h s V B).2.1 a b = _
    rw [st_wI, st_wI]
    simp only [pu_f]
    by_cases e2 : b = i <;> simp [e2]
  · rw [ja_rL, st_wL, st_wL]
    simp only [pu_f]
    by_cases e : a = s + 3
    · by_cases e2 : b = i <;> simp [e, e2]
    · by_cases e2 : b = i <;> simp [e, e2]
theorem st_s3 {i : Nat} {x : Int32} : ja_sI (st_w h s V B) (s + 4) i x = st_w h s V (pu_f B i x) := by
  refine ja_hext rfl (fun a b => ?_) (fun a b => ?_) rfl
  · rw [ja_rI, st_wI, st_wI]
    simp only [pu_f]
    by_cases e : a = s + 4
    · by_cases e2 : b = i <;> simp [e, e2]
    · simp [e]
  · rfl
theorem st_R0 {α : Type} {K : Nat → Option α} (k : st_ok h s) : jf_R h s 6 0 K = K (s + 1) := jfR k.1 k.2.2.2.2.2.1
theorem st_R1 {α : Type} {K : Nat → Option α} (k : st_ok h s) : jf_R h s 6 1 K = K (s + 2) := jfR k.1 k.2.2.2.2.2.2.1
theorem st_R2 {α : Type} {K : Nat → Option α} (k : st_ok h s) : jf_R h s 6 2 K = K (s + 3) := jfR k.1 k.2.2.2.2.2.2.2.1
theorem st_R3 {α : Type} {K : Nat → Option α} (k : st_ok h s) : jf_R h s 6 3 K = K (s + 4) := jfR k.1 k.2.2.2.2.2.2.2.2
theorem st_E0 {α : Type} {K : Int32 → Option α} {i : Nat} (k : st_ok h s) (hi : i < 80) : je_I h (s + 1) 0 (nI i) K = K ((st_c h s i).1) := by
  unfold je_I
  rw [ja_inE k.2.1 (jn_jx hi (by decide)), jn_clamp (by omega)]
  rfl
theorem st_E1 {α : Type} {K : Int64 → Option α} {i : Nat} (k : st_ok h s) (hi : i < 80) : je_L h (s + 2) (nI i) K = K ((st_c h s i).2.1) := by
  unfold je_L
  rw [ja_inE k.2.2.1 (jn_jx hi (by decide)), jn_clamp (by omega)]
  rfl
theorem st_E2 {α : Type} {K : Int64 → Option α} {i : Nat} (k : st_ok h s) (hi : i < 80) : je_L h (s + 3) (nI i) K = K ((st_c h s i).2.2) := by
  unfold je_L
  rw [ja_inE k.2.2.2.1 (jn_jx hi (by decide)), jn_clamp (by omega)]
  rfl
theorem st_E3 {α : Type} {K : Int32 → Option α} {i : Nat} (k : st_ok h s) (hi : i < 64) : je_I h (s + 4) 0 (nI i) K = K (h.2.1 (s + 4) i) := by
  unfold je_I
  rw [ja_inE k.2.2.2.2.1 (jn_jx hi (by decide)), jn_clamp (by omega)]
theorem st_W0 {α : Type} {K : ja_H → Option α} {i : Nat} {x : Int32} (k : st_ok h s) (hi : i < 80) : js_I (st_w h s V B) (s + 1) (nI i) x K = K (st_w h s (pu_f V i (x, (V i).2)) B) := by
  unfold js_I
  rw [ja_inE (h := st_w h s V B) k.2.1 (jn_jx hi (by decide)), jn_clamp (by omega), st_s0]
theorem st_W1 {α : Type} {K : ja_H → Option α} {i : Nat} {x : Int64} (k : st_ok h s) (hi : i < 80) : js_L (st_w h s V B) (s + 2) (nI i) x K = K (st_w h s (pu_f V i ((V i).1, x, (V i).2.2)) B) := by
  unfold js_L
  rw [ja_inE (h := st_w h s V B) k.2.2.1 (jn_jx hi (by decide)), jn_clamp (by omega), st_s1]
theorem st_W2 {α : Type} {K : ja_H → Option α} {i : Nat} {x : Int64} (k : st_ok h s) (hi : i < 80) : js_L (st_w h s V B) (s + 3) (nI i) x K = K (st_w h s (pu_f V i ((V i).1, (V i).2.1, x)) B) := by
  unfold js_L
  rw [ja_inE (h := st_w h s V B) k.2.2.2.1 (jn_jx hi (by decide)), jn_clamp (by omega), st_s2]
theorem st_W3 {α : Type} {K : ja_H → Option α} {i : Nat} {x : Int32} (k : st_ok h s) (hi : i < 64) : js_I (st_w h s V B) (s + 4) (nI i) x K = K (st_w h s V (pu_f B i x)) := by
  unfold js_I
  rw [ja_inE (h := st_w h s V B) k.2.2.2.2.1 (jn_jx hi (by decide)), jn_clamp (by omega), st_s3]
theorem st_load {o i : Nat} (k : st_ok h s) (hi : i < 80) (ho : h.1[o]? = some (.inl 7)) : r_St_load h s (nI i) o = some (jv_p h o (st_c h s i)) := by
  simp only [r_St_load, st_R0 k, st_R1 k, st_R2 k, st_E0 k hi, st_E1 k hi, st_E2 k hi, jkE ho, v_become ho, jcV]
theorem st_clear {i : Nat} (k : st_ok h s) (hi : i < 80) : r_St_clear (st_w h s V B) s (nI i) = some (st_w h s (pu_f V i (0, 0, 0)) B) := by
  have kk : ∀ V B, st_ok (st_w h s V B) s := fun _ _ => k
  simp only [r_St_clear, st_R0 (kk _ _), st_R1 (kk _ _), st_R2 (kk _ _), st_W0 k hi, st_W1 k hi, st_W2 k hi, pu_at, pu_up]
theorem st_save {o i : Nat} (k : st_ok h s) (hi : i < 80) (ho : h.1[o]? = some (.inl 7)) (hd : o < s ∨ s + 4 < o) : r_St_save (st_w h s V B) s (nI i) o = some (st_w h s (pu_f V i (jv_v h o)) B) := by
  have kk : ∀ V B, st_ok (st_w h s V B) s := fun _ _ => k
  have ho' : ∀ V B, (st_w h s V B).1[o]? = some (.inl 7) := fun _ _ => ho
  have e0 : ∀ V B, (st_w h s V B).2.1 o = h.2.1 o := fun _ _ => st_wIo (by omega) (by omega)
  have e1 : ∀ V B, (st_w h s V B).2.2.1 o = h.2.2.1 o := fun _ _ => st_wLo (by omega) (by omega)
  simp only [r_St_save, st_R0 (kk _ _), st_R1 (kk _ _), st_R2 (kk _ _), jfI (ho' _ _), jfL (ho' _ _), st_W0 k hi, st_W1 k hi, st_W2 k hi, pu_at, pu_up, e0, e1]
  rfl
theorem st_pts {i : Nat} (k : st_ok h s) (hi : i < 80) : r_St_points h s (nI i) = some (pn_ptr (st_c h s i), h) := by
  simp only [r_St_points, r_St_points_20, r_St_points_25, st_R0 k, st_E0 k hi, jb0, jb1, pn_ptr, pw_ite]
def pj_v (u v : pv_T) : pv_T := if u.1 = v.1 then (if u.1 = 3 then (if u.2.1 = v.2.1 then (u.1, mn_L u.2.1 v.2.1, mx_L u.2.2 v.2.2) else (0, 0, 0)) else (u.1, mn_L u.2.1 v.2.1, mx_L u.2.2 v.2.2)) else (0, 0, 0)
def pj_z (u v : pv_T) : Int32 := if u.1 = v.1 then (if u.1 = 3 then (if u.2.1 = v.2.1 then 0 else 1) else 0) else if pn_ptr u = 0 then pn_ptr v else 1
theorem st_j94 {i : Nat} (k : st_ok h s) (k' : st_ok h t) (d : st_dj s t) (hi : i < 80) : r_St_joinCell_94 (st_w h s V B) s (nI i) t = some (st_w h s (pu_f V i (0, 0, 0)) (if 16 ≤ i ∧ ¬ (pn_ptr (V i) = 0 ∧ pn_ptr (st_c h t i) = 0) then pu_f B (i - 16) 0 else B)) := by
  have kk : ∀ V B, st_ok (st_w h s V B) s := fun _ _ => k
  have kt : ∀ V B, st_ok (st_w h s V B) t := fun _ _ => k'
  have e1 : (nI i < 16) = (i < 16) := propext (jn_lt (b := 16) (by omega) (by omega))
  simp only [r_St_joinCell_94, r_St_joinCell_126, r_St_joinCell_116, jkE (kk _ _).1, jkE (kt _ _).1, st_pts (kk _ _) hi, st_pts (kt _ _) hi, st_clear k hi, jcI, jcV, e1, st_wc, st_wco d, st_R3 (kk _ _)]
  by_cases h1 : i < 16
  · rw [if_pos h1, if_neg (by omega)]
  · have e2 : nI i - 16 = nI (i - 16) := by
      have := jn_add (i - 16) 16
      rw [show i - 16 + 16 = i by omega] at this
      rw [← this]
      exact Int32.add_sub_cancel ..
    simp only [if_neg h1, e2, jkE (kk _ _).1, st_W3 k (show i - 16 < 64 by omega), st_clear k hi, jcV]
    by_cases p1 : pn_ptr (V i) = 0
    · by_cases p2 : pn_ptr (st_c h t i) = 0
      · rw [if_pos p1, if_pos p2, if_neg (by rintro ⟨_, q⟩; exact q ⟨p1, p2⟩)]
      · rw [if_pos p1, if_neg p2, if_pos ⟨by omega, fun q => p2 q.2⟩]
    · rw [if_neg p1, if_pos ⟨by omega, fun q => p1 q.1⟩]
theorem st_j51 {i : Nat} (k : st_ok h s) (k' : st_ok h t) (d : st_dj s t) (hi : i < 80) : r_St_joinCell_51 (st_w h s V B) s (nI i) t = some (st_w h s (pu_f V i ((V i).1, mn_L (V i).2.1 (st_c h t i).2.1, mx_L (V i).2.2 (st_c h t i).2.2)) B) := by
  have kk : ∀ V B, st_ok (st_w h s V B) s := fun _ _ => k
  have kt : ∀ V B, st_ok (st_w h s V B) t := fun _ _ => k'
  simp only [r_St_joinCell_51, st_R1 (kk _ _), st_R2 (kk _ _), st_R1 (kt _ _), st_R2 (kt _ _), st_E1 (kk _ _) hi, st_E2 (kk _ _) hi, st_E1 (kt _ _) hi, st_E2 (kt _ _) hi, st_wc, st_wco d, w_minL, w_maxL, jcL, st_W1 k hi, st_W2 k hi, pu_at, pu_up]
theorem pn_p3 {u : pv_T} (e : u.1 = 3) : ¬ pn_ptr u = 0 := by
  unfold pn_ptr
  rw [e]
  decide
theorem pn_pz (u v : pv_T) (e : u.1 ≠ v.1) : (¬ (pn_ptr u = 0 ∧ pn_ptr v = 0)) ↔ ¬ pj_z u v = 0 := by
  unfold pj_z
  rw [if_neg e]
  by_cases p1 : pn_ptr u = 0
  · rw [if_pos p1]
    simp [p1]
  · rw [if_neg p1]
    simp [p1]
theorem st_jc {i : Nat} (k : st_ok h s) (k' : st_ok h t) (d : st_dj s t) (hi : i < 80) : r_St_joinCell (st_w h s V B) s (nI i) t = some (st_w h s (pu_f V i (pj_v (V i) (st_c h t i))) (if 16 ≤ i ∧ ¬ pj_z (V i) (st_c h t i) = 0 then pu_f B (i - 16) 0 else B)) := by
  have kk : ∀ V B, st_ok (st_w h s V B) s := fun _ _ => k
  have kt : ∀ V B, st_ok (st_w h s V B) t := fun _ _ => k'
  simp only [r_St_joinCell, r_St_joinCell_20, st_R0 (kk _ _), st_R0 (kt _ _), st_E0 (kk _ _) hi, st_E0 (kt _ _) hi, st_R1 (kk _ _), st_R1 (kt _ _), st_E1 (kk _ _) hi, st_E1 (kt _ _) hi, st_wc, st_wco d, jlE, if_neg i10, if_true, st_j94 k k' d hi, st_j51 k k' d hi]
  by_cases c1 : (V i).1 = (st_c h t i).1
  · have z0 : ∀ x, pj_z (V i) (st_c h t i) = x ↔ (if (V i).1 = 3 then (if (V i).2.1 = (st_c h t i).2.1 then (0 : Int32) else 1) else 0) = x := fun x => by
      unfold pj_z
      rw [if_pos c1]
    have v0 : pj_v (V i) (st_c h t i) = (if (V i).1 = 3 then (if (V i).2.1 = (st_c h t i).2.1 then ((V i).1, mn_L (V i).2.1 (st_c h t i).2.1, mx_L (V i).2.2 (st_c h t i).2.2) else (0, 0, 0)) else ((V i).1, mn_L (V i).2.1 (st_c h t i).2.1, mx_L (V i).2.2 (st_c h t i).2.2)) := by
      unfold pj_v
      rw [if_pos c1]
    rw [if_pos c1, v0]
    simp only [z0]
    by_cases c2 : (V i).1 = 3
    · simp only [if_pos c2]
      by_cases c3 : (V i).2.1 = (st_c h t i).2.1
      · simp only [if_pos c3]
        rw [if_neg (by simp)]
      · simp only [if_neg c3]
        by_cases c4 : 16 ≤ i
        · rw [if_pos ⟨c4, fun q => pn_p3 c2 q.1⟩, if_pos ⟨c4, by decide⟩]
        · rw [if_neg (fun q => c4 q.1), if_neg (fun q => c4 q.1)]
    · simp only [if_neg c2]
      rw [if_neg (by simp)]
  · rw [if_neg c1, show pj_v (V i) (st_c h t i) = (0, 0, 0) from if_neg c1]
    simp only [pn_pz _ _ c1]
end ST
