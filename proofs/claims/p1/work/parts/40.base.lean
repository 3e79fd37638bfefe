def ja_h0 : ja_H := ([], fun _ _ => 0, fun _ _ => 0, fun _ _ => none, 0, 0)
noncomputable def jh_A : ja_H := (r_WJ_init (ja_nw ja_h0 (.inl 0)) 0).getD ja_h0
noncomputable def jh_B : ja_H := (r_Mo_init (ja_nw jh_A (.inl 9)) 25).getD ja_h0
noncomputable def jh_1 : ja_H := ja_nw jh_B (.inr (1, 1))
theorem jo_get {α : Type} {o : Option α} (d : α) (h : o.isSome = true) : o = some (o.getD d) := by
  cases o with
  | none => cases h
  | some x => rfl
theorem jh_Ae : r_WJ_init (ja_nw ja_h0 (.inl 0)) 0 = some jh_A := jo_get _ (by decide +kernel)
theorem jh_Be : r_Mo_init (ja_nw jh_A (.inl 9)) 25 = some jh_B := jo_get _ (by decide +kernel)
theorem jh_Al : jh_A.1.length = 25 := by decide +kernel
theorem jh_Bl : jh_B.1.length = 40 := by decide +kernel
theorem ja_start (L : Nat) (xs : Nat → Int32) : r_La_law L xs ja_h0 = r_La_law_23 L xs ja_fu jh_1 0 25 40 0 := by
  have e0 : ja_h0.1.length = 0 := rfl
  simp only [r_La_law, jw_O, jc_V, jl, e0, jh_Ae, Option.bind_some, jh_Al, jh_Be]
  have e1 : ja_nw jh_B (.inr (1, Int32.toNatClampNeg 1)) = jh_1 := by
    unfold jh_1
    rw [show Int32.toNatClampNeg 1 = 1 by decide]
  have e2 : ¬ (1 : Int32) < 0 ∧ Int32.toNatClampNeg 1 ≤ 16777216 := by decide
  simp only [jw_A, if_pos e2, jh_Bl, e1]
def ja_base : List ja_S := [.inl 0, .inl 1, .inr (1, 1024), .inl 2, .inr (3, 256), .inl 3, .inr (2, 1024), .inl 4, .inl 5, .inr (4, 1024), .inl 6, .inr (0, 80), .inr (1, 80), .inr (1, 80), .inr (0, 64), .inl 4, .inl 7, .inl 7, .inl 7, .inl 8, .inr (1, 16), .inr (2, 16), .inr (3, 512), .inr (2, 512), .inl 4, .inl 9, .inr (1, 1024), .inr (2, 1025), .inr (2, 1024), .inr (0, 256), .inr (3, 76950), .inr (1, 76950), .inr (1, 76950), .inr (2, 525312), .inr (0, 11), .inr (0, 64), .inr (1, 11), .inr (1, 64), .inr (0, 512), .inr (2, 512), .inr (1, 1)]
theorem jh_1s : jh_1.1 = ja_base := by decide +kernel
def ja_refs : List (Nat × Nat × Nat) := [(0, 0, 1), (0, 1, 3), (0, 2, 5), (0, 3, 8), (0, 4, 19), (1, 0, 2), (3, 0, 4), (5, 0, 6), (5, 1, 7), (8, 0, 9), (8, 1, 10), (8, 2, 15), (8, 3, 16), (8, 4, 17), (8, 5, 18), (10, 0, 11), (10, 1, 12), (10, 2, 13), (10, 3, 14), (19, 0, 20), (19, 1, 21), (19, 2, 22), (19, 3, 23), (19, 4, 24), (25, 1, 26), (25, 3, 27), (25, 4, 28), (25, 8, 29), (25, 10, 30), (25, 11, 31), (25, 12, 32), (25, 13, 33), (25, 17, 34), (25, 18, 35), (25, 19, 36), (25, 20, 37), (25, 21, 38), (25, 22, 39)]
theorem jh_1r : ∀ q ∈ ja_refs, jh_1.2.2.2.1 q.1 q.2.1 = some q.2.2 := by decide +kernel
def jv_B (h : ja_H) : Prop := (∀ i, i < 41 → h.1[i]? = ja_base[i]?) ∧ ∀ q ∈ ja_refs, h.2.2.2.1 q.1 q.2.1 = some q.2.2
theorem jh_1B : jv_B jh_1 := ⟨fun i _ => by rw [jh_1s], jh_1r⟩
theorem jv_sI {h : ja_H} {i k : Nat} {x : Int32} : jv_B (ja_sI h i k x) = jv_B h := rfl
theorem jv_sL {h : ja_H} {i k : Nat} {x : Int64} : jv_B (ja_sL h i k x) = jv_B h := rfl
theorem jv_lost {h : ja_H} {c n : Nat} : jv_B (ja_lost h c n) = jv_B h := rfl
section JBASE
variable {α : Type} {h : ja_H}
theorem ja_rI {i k a b : Nat} {x : Int32} : (ja_sI h i k x).2.1 a b = if a = i ∧ b = k then x else h.2.1 a b := of_eq_true (eq_self _)
theorem ja_rIL {i k : Nat} {x : Int32} : (ja_sI h i k x).2.2 = h.2.2 := of_eq_true (eq_self _)
theorem ja_rI1 {i k : Nat} {x : Int32} : (ja_sI h i k x).1 = h.1 := of_eq_true (eq_self _)
theorem ja_rL {i k a b : Nat} {x : Int64} : (ja_sL h i k x).2.2.1 a b = if a = i ∧ b = k then x else h.2.2.1 a b := of_eq_true (eq_self _)
theorem ja_rLI {i k : Nat} {x : Int64} : (ja_sL h i k x).2.1 = h.2.1 := of_eq_true (eq_self _)
theorem ja_rLR {i k : Nat} {x : Int64} : (ja_sL h i k x).2.2.2 = h.2.2.2 := of_eq_true (eq_self _)
theorem ja_rL1 {i k : Nat} {x : Int64} : (ja_sL h i k x).1 = h.1 := of_eq_true (eq_self _)
theorem ja_l1 {c n : Nat} : (ja_lost h c n).1 = h.1 := of_eq_true (eq_self _)
theorem ja_lI {c n : Nat} : (ja_lost h c n).2.1 = h.2.1 := of_eq_true (eq_self _)
theorem ja_lL {c n : Nat} : (ja_lost h c n).2.2.1 = h.2.2.1 := of_eq_true (eq_self _)
theorem ja_lR {c n : Nat} : (ja_lost h c n).2.2.2.1 = h.2.2.2.1 := of_eq_true (eq_self _)
theorem jcV (h1 : ja_H) (K : ja_H → Option α) : jc_V (some h1) K = K h1 := rfl
theorem jcI (v : Int32) (h1 : ja_H) (K : Int32 → ja_H → Option α) : jc_I (some (v, h1)) K = K v h1 := rfl
theorem jcL (v : Int64) (h1 : ja_H) (K : Int64 → ja_H → Option α) : jc_L (some (v, h1)) K = K v h1 := rfl
theorem jlE {β : Type} (x : β) (K : β → Option α) : jl x K = K x := rfl
theorem jb0 (r : Option α) : jb 0 r = r := rfl
theorem jb1 (r : Option α) : jb 1 r = r := rfl
theorem ja_inE {i t n : Nat} {x : Int32} {r : Option α} (hs : h.1[i]? = some (.inr (t, n))) (hx : jx x n) : ja_in h i t x r = r := by
  simp only [ja_in, jn, hs, if_true, Option.bind_some, if_pos hx]
theorem jS_0 (b : jv_B h) : h.1[0]? = some (.inl 0) := b.1 0 (by decide)
theorem jI_0 (b : jv_B h) {k : Nat} {K : Int32 → Option α} : jf_I h 0 0 k K = K (h.2.1 0 k) := if_pos (jS_0 b)
theorem jL_0 (b : jv_B h) {k : Nat} {K : Int64 → Option α} : jf_L h 0 0 k K = K (h.2.2.1 0 k) := if_pos (jS_0 b)
theorem jpI_0 (b : jv_B h) {k : Nat} {x : Int32} {K : ja_H → Option α} : jp_I h 0 0 k x K = K (ja_sI h 0 k x) := if_pos (jS_0 b)
theorem jpL_0 (b : jv_B h) {k : Nat} {x : Int64} {K : ja_H → Option α} : jp_L h 0 0 k x K = K (ja_sL h 0 k x) := if_pos (jS_0 b)
theorem jpZ_0 (b : jv_B h) {k : Nat} {x : Int32} {K : ja_H → Option α} (hx : x = 0 ∨ x = 1) : jp_Z h 0 0 k x K = K (ja_sI h 0 k x) := if_pos ⟨jS_0 b, hx⟩
theorem jk_0 (b : jv_B h) {r : Option α} : jk h 0 0 r = r := if_pos (jS_0 b)
theorem jS_1 (b : jv_B h) : h.1[1]? = some (.inl 1) := b.1 1 (by decide)
theorem jI_1 (b : jv_B h) {k : Nat} {K : Int32 → Option α} : jf_I h 1 1 k K = K (h.2.1 1 k) := if_pos (jS_1 b)
theorem jL_1 (b : jv_B h) {k : Nat} {K : Int64 → Option α} : jf_L h 1 1 k K = K (h.2.2.1 1 k) := if_pos (jS_1 b)
theorem jpI_1 (b : jv_B h) {k : Nat} {x : Int32} {K : ja_H → Option α} : jp_I h 1 1 k x K = K (ja_sI h 1 k x) := if_pos (jS_1 b)
theorem jpL_1 (b : jv_B h) {k : Nat} {x : Int64} {K : ja_H → Option α} : jp_L h 1 1 k x K = K (ja_sL h 1 k x) := if_pos (jS_1 b)
theorem jpZ_1 (b : jv_B h) {k : Nat} {x : Int32} {K : ja_H → Option α} (hx : x = 0 ∨ x = 1) : jp_Z h 1 1 k x K = K (ja_sI h 1 k x) := if_pos ⟨jS_1 b, hx⟩
theorem jk_1 (b : jv_B h) {r : Option α} : jk h 1 1 r = r := if_pos (jS_1 b)
theorem jS_2 (b : jv_B h) : h.1[2]? = some (.inr (1, 1024)) := b.1 2 (by decide)
theorem jE_2 (b : jv_B h) {x : Int32} {K : Int64 → Option α} (hx : jx x 1024) : je_L h 2 x K = K (h.2.2.1 2 x.toNatClampNeg) := ja_inE (jS_2 b) hx
theorem jW_2 (b : jv_B h) {x : Int32} {y : Int64} {K : ja_H → Option α} (hx : jx x 1024) : js_L h 2 x y K = K (ja_sL h 2 x.toNatClampNeg y) := ja_inE (jS_2 b) hx
theorem jS_3 (b : jv_B h) : h.1[3]? = some (.inl 2) := b.1 3 (by decide)
theorem jI_3 (b : jv_B h) {k : Nat} {K : Int32 → Option α} : jf_I h 3 2 k K = K (h.2.1 3 k) := if_pos (jS_3 b)
theorem jL_3 (b : jv_B h) {k : Nat} {K : Int64 → Option α} : jf_L h 3 2 k K = K (h.2.2.1 3 k) := if_pos (jS_3 b)
theorem jpI_3 (b : jv_B h) {k : Nat} {x : Int32} {K : ja_H → Option α} : jp_I h 3 2 k x K = K (ja_sI h 3 k x) := if_pos (jS_3 b)
theorem jpL_3 (b : jv_B h) {k : Nat} {x : Int64} {K : ja_H → Option α} : jp_L h 3 2 k x K = K (ja_sL h 3 k x) := if_pos (jS_3 b)
theorem jpZ_3 (b : jv_B h) {k : Nat} {x : Int32} {K : ja_H → Option α} (hx : x = 0 ∨ x = 1) : jp_Z h 3 2 k x K = K (ja_sI h 3 k x) := if_pos ⟨jS_3 b, hx⟩
theorem jk_3 (b : jv_B h) {r : Option α} : jk h 3 2 r = r := if_pos (jS_3 b)
theorem jS_4 (b : jv_B h) : h.1[4]? = some (.inr (3, 256)) := b.1 4 (by decide)
theorem jE_4 (b : jv_B h) {x : Int32} {K : Int32 → Option α} (hx : jx x 256) : je_I h 4 3 x K = K (h.2.1 4 x.toNatClampNeg) := ja_inE (jS_4 b) hx
theorem jW_4 (b : jv_B h) {x y : Int32} {K : ja_H → Option α} (hx : jx x 256) : js_B h 4 x y K = K (ja_sI h 4 x.toNatClampNeg (vp_nar .byte y)) := ja_inE (jS_4 b) hx
theorem jS_5 (b : jv_B h) : h.1[5]? = some (.inl 3) := b.1 5 (by decide)
theorem jI_5 (b : jv_B h) {k : Nat} {K : Int32 → Option α} : jf_I h 5 3 k K = K (h.2.1 5 k) := if_pos (jS_5 b)
theorem jL_5 (b : jv_B h) {k : Nat} {K : Int64 → Option α} : jf_L h 5 3 k K = K (h.2.2.1 5 k) := if_pos (jS_5 b)
theorem jpI_5 (b : jv_B h) {k : Nat} {x : Int32} {K : ja_H → Option α} : jp_I h 5 3 k x K = K (ja_sI h 5 k x) := if_pos (jS_5 b)
theorem jpL_5 (b : jv_B h) {k : Nat} {x : Int64} {K : ja_H → Option α} : jp_L h 5 3 k x K = K (ja_sL h 5 k x) := if_pos (jS_5 b)
theorem jpZ_5 (b : jv_B h) {k : Nat} {x : Int32} {K : ja_H → Option α} (hx : x = 0 ∨ x = 1) : jp_Z h 5 3 k x K = K (ja_sI h 5 k x) := if_pos ⟨jS_5 b, hx⟩
theorem jk_5 (b : jv_B h) {r : Option α} : jk h 5 3 r = r := if_pos (jS_5 b)
theorem jS_6 (b : jv_B h) : h.1[6]? = some (.inr (2, 1024)) := b.1 6 (by decide)
theorem jE_6 (b : jv_B h) {x : Int32} {K : Int32 → Option α} (hx : jx x 1024) : je_I h 6 2 x K = K (h.2.1 6 x.toNatClampNeg) := ja_inE (jS_6 b) hx
theorem jW_6 (b : jv_B h) {x y : Int32} {K : ja_H → Option α} (hx : jx x 1024) : js_Z h 6 x y K = K (ja_sI h 6 x.toNatClampNeg (vp_nar .boolean y)) := ja_inE (jS_6 b) hx
theorem jS_7 (b : jv_B h) : h.1[7]? = some (.inl 4) := b.1 7 (by decide)
theorem jI_7 (b : jv_B h) {k : Nat} {K : Int32 → Option α} : jf_I h 7 4 k K = K (h.2.1 7 k) := if_pos (jS_7 b)
theorem jL_7 (b : jv_B h) {k : Nat} {K : Int64 → Option α} : jf_L h 7 4 k K = K (h.2.2.1 7 k) := if_pos (jS_7 b)
theorem jpI_7 (b : jv_B h) {k : Nat} {x : Int32} {K : ja_H → Option α} : jp_I h 7 4 k x K = K (ja_sI h 7 k x) := if_pos (jS_7 b)
theorem jpL_7 (b : jv_B h) {k : Nat} {x : Int64} {K : ja_H → Option α} : jp_L h 7 4 k x K = K (ja_sL h 7 k x) := if_pos (jS_7 b)
theorem jpZ_7 (b : jv_B h) {k : Nat} {x : Int32} {K : ja_H → Option α} (hx : x = 0 ∨ x = 1) : jp_Z h 7 4 k x K = K (ja_sI h 7 k x) := if_pos ⟨jS_7 b, hx⟩
theorem jk_7 (b : jv_B h) {r : Option α} : jk h 7 4 r = r := if_pos (jS_7 b)
theorem jS_8 (b : jv_B h) : h.1[8]? = some (.inl 5) := b.1 8 (by decide)
theorem jI_8 (b : jv_B h) {k : Nat} {K : Int32 → Option α} : jf_I h 8 5 k K = K (h.2.1 8 k) := if_pos (jS_8 b)
theorem jL_8 (b : jv_B h) {k : Nat} {K : Int64 → Option α} : jf_L h 8 5 k K = K (h.2.2.1 8 k) := if_pos (jS_8 b)
theorem jpI_8 (b : jv_B h) {k : Nat} {x : Int32} {K : ja_H → Option α} : jp_I h 8 5 k x K = K (ja_sI h 8 k x) := if_pos (jS_8 b)
theorem jpL_8 (b : jv_B h) {k : Nat} {x : Int64} {K : ja_H → Option α} : jp_L h 8 5 k x K = K (ja_sL h 8 k x) := if_pos (jS_8 b)
theorem jpZ_8 (b : jv_B h) {k : Nat} {x : Int32} {K : ja_H → Option α} (hx : x = 0 ∨ x = 1) : jp_Z h 8 5 k x K = K (ja_sI h 8 k x) := if_pos ⟨jS_8 b, hx⟩
theorem jk_8 (b : jv_B h) {r : Option α} : jk h 8 5 r = r := if_pos (jS_8 b)
theorem jS_9 (b : jv_B h) : h.1[9]? = some (.inr (4, 1024)) := b.1 9 (by decide)
theorem jS_10 (b : jv_B h) : h.1[10]? = some (.inl 6) := b.1 10 (by decide)
theorem jI_10 (b : jv_B h) {k : Nat} {K : Int32 → Option α} : jf_I h 10 6 k K = K (h.2.1 10 k) := if_pos (jS_10 b)
theorem jL_10 (b : jv_B h) {k : Nat} {K : Int64 → Option α} : jf_L h 10 6 k K = K (h.2.2.1 10 k) := if_pos (jS_10 b)
theorem jpI_10 (b : jv_B h) {k : Nat} {x : Int32} {K : ja_H → Option α} : jp_I h 10 6 k x K = K (ja_sI h 10 k x) := if_pos (jS_10 b)
theorem jpL_10 (b : jv_B h) {k : Nat} {x : Int64} {K : ja_H → Option α} : jp_L h 10 6 k x K = K (ja_sL h 10 k x) := if_pos (jS_10 b)
theorem jpZ_10 (b : jv_B h) {k : Nat} {x : Int32} {K : ja_H → Option α} (hx : x = 0 ∨ x = 1) : jp_Z h 10 6 k x K = K (ja_sI h 10 k x) := if_pos ⟨jS_10 b, hx⟩
theorem jk_10 (b : jv_B h) {r : Option α} : jk h 10 6 r = r := if_pos (jS_10 b)
theorem jS_11 (b : jv_B h) : h.1[11]? = some (.inr (0, 80)) := b.1 11 (by decide)
theorem jE_11 (b : jv_B h) {x : Int32} {K : Int32 → Option α} (hx : jx x 80) : je_I h 11 0 x K = K (h.2.1 11 x.toNatClampNeg) := ja_inE (jS_11 b) hx
theorem jW_11 (b : jv_B h) {x y : Int32} {K : ja_H → Option α} (hx : jx x 80) : js_I h 11 x y K = K (ja_sI h 11 x.toNatClampNeg y) := ja_inE (jS_11 b) hx
theorem jS_12 (b : jv_B h) : h.1[12]? = some (.inr (1, 80)) := b.1 12 (by decide)
theorem jE_12 (b : jv_B h) {x : Int32} {K : Int64 → Option α} (hx : jx x 80) : je_L h 12 x K = K (h.2.2.1 12 x.toNatClampNeg) := ja_inE (jS_12 b) hx
theorem jW_12 (b : jv_B h) {x : Int32} {y : Int64} {K : ja_H → Option α} (hx : jx x 80) : js_L h 12 x y K = K (ja_sL h 12 x.toNatClampNeg y) := ja_inE (jS_12 b) hx
theorem jS_13 (b : jv_B h) : h.1[13]? = some (.inr (1, 80)) := b.1 13 (by decide)
theorem jE_13 (b : jv_B h) {x : Int32} {K : Int64 → Option α} (hx : jx x 80) : je_L h 13 x K = K (h.2.2.1 13 x.toNatClampNeg) := ja_inE (jS_13 b) hx
theorem jW_13 (b : jv_B h) {x : Int32} {y : Int64} {K : ja_H → Option α} (hx : jx x 80) : js_L h 13 x y K = K (ja_sL h 13 x.toNatClampNeg y) := ja_inE (jS_13 b) hx
theorem jS_14 (b : jv_B h) : h.1[14]? = some (.inr (0, 64)) := b.1 14 (by decide)
theorem jE_14 (b : jv_B h) {x : Int32} {K : Int32 → Option α} (hx : jx x 64) : je_I h 14 0 x K = K (h.2.1 14 x.toNatClampNeg) := ja_inE (jS_14 b) hx
theorem jW_14 (b : jv_B h) {x y : Int32} {K : ja_H → Option α} (hx : jx x 64) : js_I h 14 x y K = K (ja_sI h 14 x.toNatClampNeg y) := ja_inE (jS_14 b) hx
theorem jS_15 (b : jv_B h) : h.1[15]? = some (.inl 4) := b.1 15 (by decide)
theorem jI_15 (b : jv_B h) {k : Nat} {K : Int32 → Option α} : jf_I h 15 4 k K = K (h.2.1 15 k) := if_pos (jS_15 b)
theorem jL_15 (b : jv_B h) {k : Nat} {K : Int64 → Option α} : jf_L h 15 4 k K = K (h.2.2.1 15 k) := if_pos (jS_15 b)
theorem jpI_15 (b : jv_B h) {k : Nat} {x : Int32} {K : ja_H → Option α} : jp_I h 15 4 k x K = K (ja_sI h 15 k x) := if_pos (jS_15 b)
theorem jpL_15 (b : jv_B h) {k : Nat} {x : Int64} {K : ja_H → Option α} : jp_L h 15 4 k x K = K (ja_sL h 15 k x) := if_pos (jS_15 b)
theorem jpZ_15 (b : jv_B h) {k : Nat} {x : Int32} {K : ja_H → Option α} (hx : x = 0 ∨ x = 1) : jp_Z h 15 4 k x K = K (ja_sI h 15 k x) := if_pos ⟨jS_15 b, hx⟩
theorem jk_15 (b : jv_B h) {r : Option α} : jk h 15 4 r = r := if_pos (jS_15 b)
theorem jS_16 (b : jv_B h) : h.1[16]? = some (.inl 7) := b.1 16 (by decide)
theorem jI_16 (b : jv_B h) {k : Nat} {K : Int32 → Option α} : jf_I h 16 7 k K = K (h.2.1 16 k) := if_pos (jS_16 b)
theorem jL_16 (b : jv_B h) {k : Nat} {K : Int64 → Option α} : jf_L h 16 7 k K = K (h.2.2.1 16 k) := if_pos (jS_16 b)
theorem jpI_16 (b : jv_B h) {k : Nat} {x : Int32} {K : ja_H → Option α} : jp_I h 16 7 k x K = K (ja_sI h 16 k x) := if_pos (jS_16 b)
theorem jpL_16 (b : jv_B h) {k : Nat} {x : Int64} {K : ja_H → Option α} : jp_L h 16 7 k x K = K (ja_sL h 16 k x) := if_pos (jS_16 b)
theorem jpZ_16 (b : jv_B h) {k : Nat} {x : Int32} {K : ja_H → Option α} (hx : x = 0 ∨ x = 1) : jp_Z h 16 7 k x K = K (ja_sI h 16 k x) := if_pos ⟨jS_16 b, hx⟩
theorem jk_16 (b : jv_B h) {r : Option α} : jk h 16 7 r = r := if_pos (jS_16 b)
theorem jS_17 (b : jv_B h) : h.1[17]? = some (.inl 7) := b.1 17 (by decide)
theorem jI_17 (b : jv_B h) {k : Nat} {K : Int32 → Option α} : jf_I h 17 7 k K = K (h.2.1 17 k) := if_pos (jS_17 b)
theorem jL_17 (b : jv_B h) {k : Nat} {K : Int64 → Option α} : jf_L h 17 7 k K = K (h.2.2.1 17 k) := if_pos (jS_17 b)
theorem jpI_17 (b : jv_B h) {k : Nat} {x : Int32} {K : ja_H → Option α} : jp_I h 17 7 k x K = K (ja_sI h 17 k x) := if_pos (jS_17 b)
theorem jpL_17 (b : jv_B h) {k : Nat} {x : Int64} {K : ja_H → Option α} : jp_L h 17 7 k x K = K (ja_sL h 17 k x) := if_pos (jS_17 b)
theorem jpZ_17 (b : jv_B h) {k : Nat} {x : Int32} {K : ja_H → Option α} (hx : x = 0 ∨ x = 1) : jp_Z h 17 7 k x K = K (ja_sI h 17 k x) := if_pos ⟨jS_17 b, hx⟩
theorem jk_17 (b : jv_B h) {r : Option α} : jk h 17 7 r = r := if_pos (jS_17 b)
theorem jS_18 (b : jv_B h) : h.1[18]? = some (.inl 7) := b.1 18 (by decide)
theorem jI_18 (b : jv_B h) {k : Nat} {K : Int32 → Option α} : jf_I h 18 7 k K = K (h.2.1 18 k) := if_pos (jS_18 b)
theorem jL_18 (b : jv_B h) {k : Nat} {K : Int64 → Option α} : jf_L h 18 7 k K = K (h.2.2.1 18 k) := if_pos (jS_18 b)
theorem jpI_18 (b : jv_B h) {k : Nat} {x : Int32} {K : ja_H → Option α} : jp_I h 18 7 k x K = K (ja_sI h 18 k x) := if_pos (jS_18 b)
theorem jpL_18 (b : jv_B h) {k : Nat} {x : Int64} {K : ja_H → Option α} : jp_L h 18 7 k x K = K (ja_sL h 18 k x) := if_pos (jS_18 b)
theorem jpZ_18 (b : jv_B h) {k : Nat} {x : Int32} {K : ja_H → Option α} (hx : x = 0 ∨ x = 1) : jp_Z h 18 7 k x K = K (ja_sI h 18 k x) := if_pos ⟨jS_18 b, hx⟩
theorem jk_18 (b : jv_B h) {r : Option α} : jk h 18 7 r = r := if_pos (jS_18 b)
theorem jS_19 (b : jv_B h) : h.1[19]? = some (.inl 8) := b.1 19 (by decide)
theorem jI_19 (b : jv_B h) {k : Nat} {K : Int32 → Option α} : jf_I h 19 8 k K = K (h.2.1 19 k) := if_pos (jS_19 b)
theorem jL_19 (b : jv_B h) {k : Nat} {K : Int64 → Option α} : jf_L h 19 8 k K = K (h.2.2.1 19 k) := if_pos (jS_19 b)
theorem jpI_19 (b : jv_B h) {k : Nat} {x : Int32} {K : ja_H → Option α} : jp_I h 19 8 k x K = K (ja_sI h 19 k x) := if_pos (jS_19 b)
theorem jpL_19 (b : jv_B h) {k : Nat} {x : Int64} {K : ja_H → Option α} : jp_L h 19 8 k x K = K (ja_sL h 19 k x) := if_pos (jS_19 b)
theorem jpZ_19 (b : jv_B h) {k : Nat} {x : Int32} {K : ja_H → Option α} (hx : x = 0 ∨ x = 1) : jp_Z h 19 8 k x K = K (ja_sI h 19 k x) := if_pos ⟨jS_19 b, hx⟩
theorem jk_19 (b : jv_B h) {r : Option α} : jk h 19 8 r = r := if_pos (jS_19 b)
theorem jS_20 (b : jv_B h) : h.1[20]? = some (.inr (1, 16)) := b.1 20 (by decide)
theorem jE_20 (b : jv_B h) {x : Int32} {K : Int64 → Option α} (hx : jx x 16) : je_L h 20 x K = K (h.2.2.1 20 x.toNatClampNeg) := ja_inE (jS_20 b) hx
theorem jW_20 (b : jv_B h) {x : Int32} {y : Int64} {K : ja_H → Option α} (hx : jx x 16) : js_L h 20 x y K = K (ja_sL h 20 x.toNatClampNeg y) := ja_inE (jS_20 b) hx
theorem jS_21 (b : jv_B h) : h.1[21]? = some (.inr (2, 16)) := b.1 21 (by decide)
theorem jE_21 (b : jv_B h) {x : Int32} {K : Int32 → Option α} (hx : jx x 16) : je_I h 21 2 x K = K (h.2.1 21 x.toNatClampNeg) := ja_inE (jS_21 b) hx
theorem jW_21 (b : jv_B h) {x y : Int32} {K : ja_H → Option α} (hx : jx x 16) : js_Z h 21 x y K = K (ja_sI h 21 x.toNatClampNeg (vp_nar .boolean y)) := ja_inE (jS_21 b) hx
theorem jS_22 (b : jv_B h) : h.1[22]? = some (.inr (3, 512)) := b.1 22 (by decide)
theorem jE_22 (b : jv_B h) {x : Int32} {K : Int32 → Option α} (hx : jx x 512) : je_I h 22 3 x K = K (h.2.1 22 x.toNatClampNeg) := ja_inE (jS_22 b) hx
theorem jW_22 (b : jv_B h) {x y : Int32} {K : ja_H → Option α} (hx : jx x 512) : js_B h 22 x y K = K (ja_sI h 22 x.toNatClampNeg (vp_nar .byte y)) := ja_inE (jS_22 b) hx
theorem jS_23 (b : jv_B h) : h.1[23]? = some (.inr (2, 512)) := b.1 23 (by decide)
theorem jE_23 (b : jv_B h) {x : Int32} {K : Int32 → Option α} (hx : jx x 512) : je_I h 23 2 x K = K (h.2.1 23 x.toNatClampNeg) := ja_inE (jS_23 b) hx
theorem jW_23 (b : jv_B h) {x y : Int32} {K : ja_H → Option α} (hx : jx x 512) : js_Z h 23 x y K = K (ja_sI h 23 x.toNatClampNeg (vp_nar .boolean y)) := ja_inE (jS_23 b) hx
theorem jS_24 (b : jv_B h) : h.1[24]? = some (.inl 4) := b.1 24 (by decide)
theorem jI_24 (b : jv_B h) {k : Nat} {K : Int32 → Option α} : jf_I h 24 4 k K = K (h.2.1 24 k) := if_pos (jS_24 b)
theorem jL_24 (b : jv_B h) {k : Nat} {K : Int64 → Option α} : jf_L h 24 4 k K = K (h.2.2.1 24 k) := if_pos (jS_24 b)
theorem jpI_24 (b : jv_B h) {k : Nat} {x : Int32} {K : ja_H → Option α} : jp_I h 24 4 k x K = K (ja_sI h 24 k x) := if_pos (jS_24 b)
theorem jpL_24 (b : jv_B h) {k : Nat} {x : Int64} {K : ja_H → Option α} : jp_L h 24 4 k x K = K (ja_sL h 24 k x) := if_pos (jS_24 b)
theorem jpZ_24 (b : jv_B h) {k : Nat} {x : Int32} {K : ja_H → Option α} (hx : x = 0 ∨ x = 1) : jp_Z h 24 4 k x K = K (ja_sI h 24 k x) := if_pos ⟨jS_24 b, hx⟩
theorem jk_24 (b : jv_B h) {r : Option α} : jk h 24 4 r = r := if_pos (jS_24 b)
theorem jS_25 (b : jv_B h) : h.1[25]? = some (.inl 9) := b.1 25 (by decide)
theorem jI_25 (b : jv_B h) {k : Nat} {K : Int32 → Option α} : jf_I h 25 9 k K = K (h.2.1 25 k) := if_pos (jS_25 b)
theorem jL_25 (b : jv_B h) {k : Nat} {K : Int64 → Option α} : jf_L h 25 9 k K = K (h.2.2.1 25 k) := if_pos (jS_25 b)
theorem jpI_25 (b : jv_B h) {k : Nat} {x : Int32} {K : ja_H → Option α} : jp_I h 25 9 k x K = K (ja_sI h 25 k x) := if_pos (jS_25 b)
theorem jpL_25 (b : jv_B h) {k : Nat} {x : Int64} {K : ja_H → Option α} : jp_L h 25 9 k x K = K (ja_sL h 25 k x) := if_pos (jS_25 b)
theorem jpZ_25 (b : jv_B h) {k : Nat} {x : Int32} {K : ja_H → Option α} (hx : x = 0 ∨ x = 1) : jp_Z h 25 9 k x K = K (ja_sI h 25 k x) := if_pos ⟨jS_25 b, hx⟩
theorem jk_25 (b : jv_B h) {r : Option α} : jk h 25 9 r = r := if_pos (jS_25 b)
theorem jS_26 (b : jv_B h) : h.1[26]? = some (.inr (1, 1024)) := b.1 26 (by decide)
theorem jE_26 (b : jv_B h) {x : Int32} {K : Int64 → Option α} (hx : jx x 1024) : je_L h 26 x K = K (h.2.2.1 26 x.toNatClampNeg) := ja_inE (jS_26 b) hx
theorem jW_26 (b : jv_B h) {x : Int32} {y : Int64} {K : ja_H → Option α} (hx : jx x 1024) : js_L h 26 x y K = K (ja_sL h 26 x.toNatClampNeg y) := ja_inE (jS_26 b) hx
theorem jS_27 (b : jv_B h) : h.1[27]? = some (.inr (2, 1025)) := b.1 27 (by decide)
theorem jE_27 (b : jv_B h) {x : Int32} {K : Int32 → Option α} (hx : jx x 1025) : je_I h 27 2 x K = K (h.2.1 27 x.toNatClampNeg) := ja_inE (jS_27 b) hx
theorem jW_27 (b : jv_B h) {x y : Int32} {K : ja_H → Option α} (hx : jx x 1025) : js_Z h 27 x y K = K (ja_sI h 27 x.toNatClampNeg (vp_nar .boolean y)) := ja_inE (jS_27 b) hx
theorem jS_28 (b : jv_B h) : h.1[28]? = some (.inr (2, 1024)) := b.1 28 (by decide)
theorem jE_28 (b : jv_B h) {x : Int32} {K : Int32 → Option α} (hx : jx x 1024) : je_I h 28 2 x K = K (h.2.1 28 x.toNatClampNeg) := ja_inE (jS_28 b) hx
theorem jW_28 (b : jv_B h) {x y : Int32} {K : ja_H → Option α} (hx : jx x 1024) : js_Z h 28 x y K = K (ja_sI h 28 x.toNatClampNeg (vp_nar .boolean y)) := ja_inE (jS_28 b) hx
theorem jS_29 (b : jv_B h) : h.1[29]? = some (.inr (0, 256)) := b.1 29 (by decide)
theorem jE_29 (b : jv_B h) {x : Int32} {K : Int32 → Option α} (hx : jx x 256) : je_I h 29 0 x K = K (h.2.1 29 x.toNatClampNeg) := ja_inE (jS_29 b) hx
theorem jW_29 (b : jv_B h) {x y : Int32} {K : ja_H → Option α} (hx : jx x 256) : js_I h 29 x y K = K (ja_sI h 29 x.toNatClampNeg y) := ja_inE (jS_29 b) hx
theorem jS_30 (b : jv_B h) : h.1[30]? = some (.inr (3, 76950)) := b.1 30 (by decide)
theorem jE_30 (b : jv_B h) {x : Int32} {K : Int32 → Option α} (hx : jx x 76950) : je_I h 30 3 x K = K (h.2.1 30 x.toNatClampNeg) := ja_inE (jS_30 b) hx
theorem jW_30 (b : jv_B h) {x y : Int32} {K : ja_H → Option α} (hx : jx x 76950) : js_B h 30 x y K = K (ja_sI h 30 x.toNatClampNeg (vp_nar .byte y)) := ja_inE (jS_30 b) hx
theorem jS_31 (b : jv_B h) : h.1[31]? = some (.inr (1, 76950)) := b.1 31 (by decide)
theorem jE_31 (b : jv_B h) {x : Int32} {K : Int64 → Option α} (hx : jx x 76950) : je_L h 31 x K = K (h.2.2.1 31 x.toNatClampNeg) := ja_inE (jS_31 b) hx
theorem jW_31 (b : jv_B h) {x : Int32} {y : Int64} {K : ja_H → Option α} (hx : jx x 76950) : js_L h 31 x y K = K (ja_sL h 31 x.toNatClampNeg y) := ja_inE (jS_31 b) hx
theorem jS_32 (b : jv_B h) : h.1[32]? = some (.inr (1, 76950)) := b.1 32 (by decide)
theorem jE_32 (b : jv_B h) {x : Int32} {K : Int64 → Option α} (hx : jx x 76950) : je_L h 32 x K = K (h.2.2.1 32 x.toNatClampNeg) := ja_inE (jS_32 b) hx
theorem jW_32 (b : jv_B h) {x : Int32} {y : Int64} {K : ja_H → Option α} (hx : jx x 76950) : js_L h 32 x y K = K (ja_sL h 32 x.toNatClampNeg y) := ja_inE (jS_32 b) hx
theorem jS_33 (b : jv_B h) : h.1[33]? = some (.inr (2, 525312)) := b.1 33 (by decide)
theorem jE_33 (b : jv_B h) {x : Int32} {K : Int32 → Option α} (hx : jx x 525312) : je_I h 33 2 x K = K (h.2.1 33 x.toNatClampNeg) := ja_inE (jS_33 b) hx
theorem jW_33 (b : jv_B h) {x y : Int32} {K : ja_H → Option α} (hx : jx x 525312) : js_Z h 33 x y K = K (ja_sI h 33 x.toNatClampNeg (vp_nar .boolean y)) := ja_inE (jS_33 b) hx
theorem jS_34 (b : jv_B h) : h.1[34]? = some (.inr (0, 11)) := b.1 34 (by decide)
theorem jE_34 (b : jv_B h) {x : Int32} {K : Int32 → Option α} (hx : jx x 11) : je_I h 34 0 x K = K (h.2.1 34 x.toNatClampNeg) := ja_inE (jS_34 b) hx
theorem jW_34 (b : jv_B h) {x y : Int32} {K : ja_H → Option α} (hx : jx x 11) : js_I h 34 x y K = K (ja_sI h 34 x.toNatClampNeg y) := ja_inE (jS_34 b) hx
theorem jS_35 (b : jv_B h) : h.1[35]? = some (.inr (0, 64)) := b.1 35 (by decide)
theorem jE_35 (b : jv_B h) {x : Int32} {K : Int32 → Option α} (hx : jx x 64) : je_I h 35 0 x K = K (h.2.1 35 x.toNatClampNeg) := ja_inE (jS_35 b) hx
theorem jW_35 (b : jv_B h) {x y : Int32} {K : ja_H → Option α} (hx : jx x 64) : js_I h 35 x y K = K (ja_sI h 35 x.toNatClampNeg y) := ja_inE (jS_35 b) hx
theorem jS_36 (b : jv_B h) : h.1[36]? = some (.inr (1, 11)) := b.1 36 (by decide)
theorem jE_36 (b : jv_B h) {x : Int32} {K : Int64 → Option α} (hx : jx x 11) : je_L h 36 x K = K (h.2.2.1 36 x.toNatClampNeg) := ja_inE (jS_36 b) hx
theorem jW_36 (b : jv_B h) {x : Int32} {y : Int64} {K : ja_H → Option α} (hx : jx x 11) : js_L h 36 x y K = K (ja_sL h 36 x.toNatClampNeg y) := ja_inE (jS_36 b) hx
theorem jS_37 (b : jv_B h) : h.1[37]? = some (.inr (1, 64)) := b.1 37 (by decide)
theorem jE_37 (b : jv_B h) {x : Int32} {K : Int64 → Option α} (hx : jx x 64) : je_L h 37 x K = K (h.2.2.1 37 x.toNatClampNeg) := ja_inE (jS_37 b) hx
theorem jW_37 (b : jv_B h) {x : Int32} {y : Int64} {K : ja_H → Option α} (hx : jx x 64) : js_L h 37 x y K = K (ja_sL h 37 x.toNatClampNeg y) := ja_inE (jS_37 b) hx
theorem jS_38 (b : jv_B h) : h.1[38]? = some (.inr (0, 512)) := b.1 38 (by decide)
theorem jE_38 (b : jv_B h) {x : Int32} {K : Int32 → Option α} (hx : jx x 512) : je_I h 38 0 x K = K (h.2.1 38 x.toNatClampNeg) := ja_inE (jS_38 b) hx
theorem jW_38 (b : jv_B h) {x y : Int32} {K : ja_H → Option α} (hx : jx x 512) : js_I h 38 x y K = K (ja_sI h 38 x.toNatClampNeg y) := ja_inE (jS_38 b) hx
theorem jS_39 (b : jv_B h) : h.1[39]? = some (.inr (2, 512)) := b.1 39 (by decide)
theorem jE_39 (b : jv_B h) {x : Int32} {K : Int32 → Option α} (hx : jx x 512) : je_I h 39 2 x K = K (h.2.1 39 x.toNatClampNeg) := ja_inE (jS_39 b) hx
theorem jW_39 (b : jv_B h) {x y : Int32} {K : ja_H → Option α} (hx : jx x 512) : js_Z h 39 x y K = K (ja_sI h 39 x.toNatClampNeg (vp_nar .boolean y)) := ja_inE (jS_39 b) hx
theorem jS_40 (b : jv_B h) : h.1[40]? = some (.inr (1, 1)) := b.1 40 (by decide)
theorem jE_40 (b : jv_B h) {x : Int32} {K : Int64 → Option α} (hx : jx x 1) : je_L h 40 x K = K (h.2.2.1 40 x.toNatClampNeg) := ja_inE (jS_40 b) hx
theorem jW_40 (b : jv_B h) {x : Int32} {y : Int64} {K : ja_H → Option α} (hx : jx x 1) : js_L h 40 x y K = K (ja_sL h 40 x.toNatClampNeg y) := ja_inE (jS_40 b) hx
theorem jr_0_0 (b : jv_B h) : h.2.2.2.1 0 0 = some 1 := b.2 (0, 0, 1) (List.mem_of_getElem? (i := 0) rfl)
theorem jR_0_0 (b : jv_B h) {K : Nat → Option α} : jf_R h 0 0 0 K = K 1 := by
  simp only [jf_R, if_pos (jS_0 b), jr_0_0 b, Option.bind_some]
theorem jr_0_1 (b : jv_B h) : h.2.2.2.1 0 1 = some 3 := b.2 (0, 1, 3) (List.mem_of_getElem? (i := 1) rfl)
theorem jR_0_1 (b : jv_B h) {K : Nat → Option α} : jf_R h 0 0 1 K = K 3 := by
  simp only [jf_R, if_pos (jS_0 b), jr_0_1 b, Option.bind_some]
theorem jr_0_2 (b : jv_B h) : h.2.2.2.1 0 2 = some 5 := b.2 (0, 2, 5) (List.mem_of_getElem? (i := 2) rfl)
theorem jR_0_2 (b : jv_B h) {K : Nat → Option α} : jf_R h 0 0 2 K = K 5 := by
  simp only [jf_R, if_pos (jS_0 b), jr_0_2 b, Option.bind_some]
theorem jr_0_3 (b : jv_B h) : h.2.2.2.1 0 3 = some 8 := b.2 (0, 3, 8) (List.mem_of_getElem? (i := 3) rfl)
theorem jR_0_3 (b : jv_B h) {K : Nat → Option α} : jf_R h 0 0 3 K = K 8 := by
  simp only [jf_R, if_pos (jS_0 b), jr_0_3 b, Option.bind_some]
theorem jr_0_4 (b : jv_B h) : h.2.2.2.1 0 4 = some 19 := b.2 (0, 4, 19) (List.mem_of_getElem? (i := 4) rfl)
theorem jR_0_4 (b : jv_B h) {K : Nat → Option α} : jf_R h 0 0 4 K = K 19 := by
  simp only [jf_R, if_pos (jS_0 b), jr_0_4 b, Option.bind_some]
theorem jr_1_0 (b : jv_B h) : h.2.2.2.1 1 0 = some 2 := b.2 (1, 0, 2) (List.mem_of_getElem? (i := 5) rfl)
theorem jR_1_0 (b : jv_B h) {K : Nat → Option α} : jf_R h 1 1 0 K = K 2 := by
  simp only [jf_R, if_pos (jS_1 b), jr_1_0 b, Option.bind_some]
theorem jr_3_0 (b : jv_B h) : h.2.2.2.1 3 0 = some 4 := b.2 (3, 0, 4) (List.mem_of_getElem? (i := 6) rfl)
theorem jR_3_0 (b : jv_B h) {K : Nat → Option α} : jf_R h 3 2 0 K = K 4 := by
  simp only [jf_R, if_pos (jS_3 b), jr_3_0 b, Option.bind_some]
theorem jr_5_0 (b : jv_B h) : h.2.2.2.1 5 0 = some 6 := b.2 (5, 0, 6) (List.mem_of_getElem? (i := 7) rfl)
theorem jR_5_0 (b : jv_B h) {K : Nat → Option α} : jf_R h 5 3 0 K = K 6 := by
  simp only [jf_R, if_pos (jS_5 b), jr_5_0 b, Option.bind_some]
theorem jr_5_1 (b : jv_B h) : h.2.2.2.1 5 1 = some 7 := b.2 (5, 1, 7) (List.mem_of_getElem? (i := 8) rfl)
theorem jR_5_1 (b : jv_B h) {K : Nat → Option α} : jf_R h 5 3 1 K = K 7 := by
  simp only [jf_R, if_pos (jS_5 b), jr_5_1 b, Option.bind_some]
theorem jr_8_0 (b : jv_B h) : h.2.2.2.1 8 0 = some 9 := b.2 (8, 0, 9) (List.mem_of_getElem? (i := 9) rfl)
theorem jR_8_0 (b : jv_B h) {K : Nat → Option α} : jf_R h 8 5 0 K = K 9 := by
  simp only [jf_R, if_pos (jS_8 b), jr_8_0 b, Option.bind_some]
theorem jr_8_1 (b : jv_B h) : h.2.2.2.1 8 1 = some 10 := b.2 (8, 1, 10) (List.mem_of_getElem? (i := 10) rfl)
theorem jR_8_1 (b : jv_B h) {K : Nat → Option α} : jf_R h 8 5 1 K = K 10 := by
  simp only [jf_R, if_pos (jS_8 b), jr_8_1 b, Option.bind_some]
theorem jr_8_2 (b : jv_B h) : h.2.2.2.1 8 2 = some 15 := b.2 (8, 2, 15) (List.mem_of_getElem? (i := 11) rfl)
theorem jR_8_2 (b : jv_B h) {K : Nat → Option α} : jf_R h 8 5 2 K = K 15 := by
  simp only [jf_R, if_pos (jS_8 b), jr_8_2 b, Option.bind_some]
theorem jr_8_3 (b : jv_B h) : h.2.2.2.1 8 3 = some 16 := b.2 (8, 3, 16) (List.mem_of_getElem? (i := 12) rfl)
theorem jR_8_3 (b : jv_B h) {K : Nat → Option α} : jf_R h 8 5 3 K = K 16 := by
  simp only [jf_R, if_pos (jS_8 b), jr_8_3 b, Option.bind_some]
theorem jr_8_4 (b : jv_B h) : h.2.2.2.1 8 4 = some 17 := b.2 (8, 4, 17) (List.mem_of_getElem? (i := 13) rfl)
theorem jR_8_4 (b : jv_B h) {K : Nat → Option α} : jf_R h 8 5 4 K = K 17 := by
  simp only [jf_R, if_pos (jS_8 b), jr_8_4 b, Option.bind_some]
theorem jr_8_5 (b : jv_B h) : h.2.2.2.1 8 5 = some 18 := b.2 (8, 5, 18) (List.mem_of_getElem? (i := 14) rfl)
theorem jR_8_5 (b : jv_B h) {K : Nat → Option α} : jf_R h 8 5 5 K = K 18 := by
  simp only [jf_R, if_pos (jS_8 b), jr_8_5 b, Option.bind_some]
theorem jr_10_0 (b : jv_B h) : h.2.2.2.1 10 0 = some 11 := b.2 (10, 0, 11) (List.mem_of_getElem? (i := 15) rfl)
theorem jR_10_0 (b : jv_B h) {K : Nat → Option α} : jf_R h 10 6 0 K = K 11 := by
  simp only [jf_R, if_pos (jS_10 b), jr_10_0 b, Option.bind_some]
theorem jr_10_1 (b : jv_B h) : h.2.2.2.1 10 1 = some 12 := b.2 (10, 1, 12) (List.mem_of_getElem? (i := 16) rfl)
theorem jR_10_1 (b : jv_B h) {K : Nat → Option α} : jf_R h 10 6 1 K = K 12 := by
  simp only [jf_R, if_pos (jS_10 b), jr_10_1 b, Option.bind_some]
theorem jr_10_2 (b : jv_B h) : h.2.2.2.1 10 2 = some 13 := b.2 (10, 2, 13) (List.mem_of_getElem? (i := 17) rfl)
theorem jR_10_2 (b : jv_B h) {K : Nat → Option α} : jf_R h 10 6 2 K = K 13 := by
  simp only [jf_R, if_pos (jS_10 b), jr_10_2 b, Option.bind_some]
theorem jr_10_3 (b : jv_B h) : h.2.2.2.1 10 3 = some 14 := b.2 (10, 3, 14) (List.mem_of_getElem? (i := 18) rfl)
theorem jR_10_3 (b : jv_B h) {K : Nat → Option α} : jf_R h 10 6 3 K = K 14 := by
  simp only [jf_R, if_pos (jS_10 b), jr_10_3 b, Option.bind_some]
theorem jr_19_0 (b : jv_B h) : h.2.2.2.1 19 0 = some 20 := b.2 (19, 0, 20) (List.mem_of_getElem? (i := 19) rfl)
theorem jR_19_0 (b : jv_B h) {K : Nat → Option α} : jf_R h 19 8 0 K = K 20 := by
  simp only [jf_R, if_pos (jS_19 b), jr_19_0 b, Option.bind_some]
theorem jr_19_1 (b : jv_B h) : h.2.2.2.1 19 1 = some 21 := b.2 (19, 1, 21) (List.mem_of_getElem? (i := 20) rfl)
theorem jR_19_1 (b : jv_B h) {K : Nat → Option α} : jf_R h 19 8 1 K = K 21 := by
  simp only [jf_R, if_pos (jS_19 b), jr_19_1 b, Option.bind_some]
theorem jr_19_2 (b : jv_B h) : h.2.2.2.1 19 2 = some 22 := b.2 (19, 2, 22) (List.mem_of_getElem? (i := 21) rfl)
theorem jR_19_2 (b : jv_B h) {K : Nat → Option α} : jf_R h 19 8 2 K = K 22 := by
  simp only [jf_R, if_pos (jS_19 b), jr_19_2 b, Option.bind_some]
theorem jr_19_3 (b : jv_B h) : h.2.2.2.1 19 3 = some 23 := b.2 (19, 3, 23) (List.mem_of_getElem? (i := 22) rfl)
theorem jR_19_3 (b : jv_B h) {K : Nat → Option α} : jf_R h 19 8 3 K = K 23 := by
  simp only [jf_R, if_pos (jS_19 b), jr_19_3 b, Option.bind_some]
theorem jr_19_4 (b : jv_B h) : h.2.2.2.1 19 4 = some 24 := b.2 (19, 4, 24) (List.mem_of_getElem? (i := 23) rfl)
theorem jR_19_4 (b : jv_B h) {K : Nat → Option α} : jf_R h 19 8 4 K = K 24 := by
  simp only [jf_R, if_pos (jS_19 b), jr_19_4 b, Option.bind_some]
theorem jr_25_1 (b : jv_B h) : h.2.2.2.1 25 1 = some 26 := b.2 (25, 1, 26) (List.mem_of_getElem? (i := 24) rfl)
theorem jR_25_1 (b : jv_B h) {K : Nat → Option α} : jf_R h 25 9 1 K = K 26 := by
  simp only [jf_R, if_pos (jS_25 b), jr_25_1 b, Option.bind_some]
theorem jr_25_3 (b : jv_B h) : h.2.2.2.1 25 3 = some 27 := b.2 (25, 3, 27) (List.mem_of_getElem? (i := 25) rfl)
theorem jR_25_3 (b : jv_B h) {K : Nat → Option α} : jf_R h 25 9 3 K = K 27 := by
  simp only [jf_R, if_pos (jS_25 b), jr_25_3 b, Option.bind_some]
theorem jr_25_4 (b : jv_B h) : h.2.2.2.1 25 4 = some 28 := b.2 (25, 4, 28) (List.mem_of_getElem? (i := 26) rfl)
theorem jR_25_4 (b : jv_B h) {K : Nat → Option α} : jf_R h 25 9 4 K = K 28 := by
  simp only [jf_R, if_pos (jS_25 b), jr_25_4 b, Option.bind_some]
theorem jr_25_8 (b : jv_B h) : h.2.2.2.1 25 8 = some 29 := b.2 (25, 8, 29) (List.mem_of_getElem? (i := 27) rfl)
theorem jR_25_8 (b : jv_B h) {K : Nat → Option α} : jf_R h 25 9 8 K = K 29 := by
  simp only [jf_R, if_pos (jS_25 b), jr_25_8 b, Option.bind_some]
theorem jr_25_10 (b : jv_B h) : h.2.2.2.1 25 10 = some 30 := b.2 (25, 10, 30) (List.mem_of_getElem? (i := 28) rfl)
theorem jR_25_10 (b : jv_B h) {K : Nat → Option α} : jf_R h 25 9 10 K = K 30 := by
  simp only [jf_R, if_pos (jS_25 b), jr_25_10 b, Option.bind_some]
theorem jr_25_11 (b : jv_B h) : h.2.2.2.1 25 11 = some 31 := b.2 (25, 11, 31) (List.mem_of_getElem? (i := 29) rfl)
theorem jR_25_11 (b : jv_B h) {K : Nat → Option α} : jf_R h 25 9 11 K = K 31 := by
  simp only [jf_R, if_pos (jS_25 b), jr_25_11 b, Option.bind_some]
theorem jr_25_12 (b : jv_B h) : h.2.2.2.1 25 12 = some 32 := b.2 (25, 12, 32) (List.mem_of_getElem? (i := 30) rfl)
theorem jR_25_12 (b : jv_B h) {K : Nat → Option α} : jf_R h 25 9 12 K = K 32 := by
  simp only [jf_R, if_pos (jS_25 b), jr_25_12 b, Option.bind_some]
theorem jr_25_13 (b : jv_B h) : h.2.2.2.1 25 13 = some 33 := b.2 (25, 13, 33) (List.mem_of_getElem? (i := 31) rfl)
theorem jR_25_13 (b : jv_B h) {K : Nat → Option α} : jf_R h 25 9 13 K = K 33 := by
  simp only [jf_R, if_pos (jS_25 b), jr_25_13 b, Option.bind_some]
theorem jr_25_17 (b : jv_B h) : h.2.2.2.1 25 17 = some 34 := b.2 (25, 17, 34) (List.mem_of_getElem? (i := 32) rfl)
theorem jR_25_17 (b : jv_B h) {K : Nat → Option α} : jf_R h 25 9 17 K = K 34 := by
  simp only [jf_R, if_pos (jS_25 b), jr_25_17 b, Option.bind_some]
theorem jr_25_18 (b : jv_B h) : h.2.2.2.1 25 18 = some 35 := b.2 (25, 18, 35) (List.mem_of_getElem? (i := 33) rfl)
theorem jR_25_18 (b : jv_B h) {K : Nat → Option α} : jf_R h 25 9 18 K = K 35 := by
  simp only [jf_R, if_pos (jS_25 b), jr_25_18 b, Option.bind_some]
theorem jr_25_19 (b : jv_B h) : h.2.2.2.1 25 19 = some 36 := b.2 (25, 19, 36) (List.mem_of_getElem? (i := 34) rfl)
theorem jR_25_19 (b : jv_B h) {K : Nat → Option α} : jf_R h 25 9 19 K = K 36 := by
  simp only [jf_R, if_pos (jS_25 b), jr_25_19 b, Option.bind_some]
theorem jr_25_20 (b : jv_B h) : h.2.2.2.1 25 20 = some 37 := b.2 (25, 20, 37) (List.mem_of_getElem? (i := 35) rfl)
theorem jR_25_20 (b : jv_B h) {K : Nat → Option α} : jf_R h 25 9 20 K = K 37 := by
  simp only [jf_R, if_pos (jS_25 b), jr_25_20 b, Option.bind_some]
theorem jr_25_21 (b : jv_B h) : h.2.2.2.1 25 21 = some 38 := b.2 (25, 21, 38) (List.mem_of_getElem? (i := 36) rfl)
theorem jR_25_21 (b : jv_B h) {K : Nat → Option α} : jf_R h 25 9 21 K = K 38 := by
  simp only [jf_R, if_pos (jS_25 b), jr_25_21 b, Option.bind_some]
theorem jr_25_22 (b : jv_B h) : h.2.2.2.1 25 22 = some 39 := b.2 (25, 22, 39) (List.mem_of_getElem? (i := 37) rfl)
theorem jR_25_22 (b : jv_B h) {K : Nat → Option α} : jf_R h 25 9 22 K = K 39 := by
  simp only [jf_R, if_pos (jS_25 b), jr_25_22 b, Option.bind_some]
end JBASE
