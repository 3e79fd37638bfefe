def ja_D {α : Type} (g : α → List Value × ja_H) (M : ja_Mt) (pc : Nat) (lv : List (Option Value)) (st : List Value) (h : ja_H) (r : Option α) : Prop := ∀ o, r = some o → ja_J M pc lv st h (g o).1 (g o).2
def ja_gV (h : ja_H) : List Value × ja_H := ([], h)
def ja_gI (o : Int32 × ja_H) : List Value × ja_H := ([.int o.1], o.2)
def ja_gL (o : Int64 × ja_H) : List Value × ja_H := ([.long o.1], o.2)
def ja_gX (o : List Value × ja_H) : List Value × ja_H := o
theorem ja_fu_ex : ∃ n : Nat, n = 2000 := ⟨2000, rfl⟩
noncomputable def ja_fu : Nat := Classical.choose ja_fu_ex
theorem ja_fu_eq : ja_fu = 2000 := Classical.choose_spec ja_fu_ex
def ja_lo {β : Type} (B : β → β) (z : β) : Nat → β
  | 0 => z
  | n + 1 => B (ja_lo B z n)
section JD
variable {α β : Type}
def jl (x : β) (K : β → Option α) : Option α := K x
def jf_I (h : ja_H) (i c k : Nat) (K : Int32 → Option α) : Option α := if h.1[i]? = some (.inl c) then K (h.2.1 i k) else none
def jf_L (h : ja_H) (i c k : Nat) (K : Int64 → Option α) : Option α := if h.1[i]? = some (.inl c) then K (h.2.2.1 i k) else none
def jf_R (h : ja_H) (i c k : Nat) (K : Nat → Option α) : Option α := if h.1[i]? = some (.inl c) then (h.2.2.2.1 i k).bind K else none
def jp_I (h : ja_H) (i c k : Nat) (x : Int32) (K : ja_H → Option α) : Option α := if h.1[i]? = some (.inl c) then K (ja_sI h i k x) else none
def jp_Z (h : ja_H) (i c k : Nat) (x : Int32) (K : ja_H → Option α) : Option α := if h.1[i]? = some (.inl c) ∧ (x = 0 ∨ x = 1) then K (ja_sI h i k x) else none
def jp_L (h : ja_H) (i c k : Nat) (x : Int64) (K : ja_H → Option α) : Option α := if h.1[i]? = some (.inl c) then K (ja_sL h i k x) else none
def jp_R (h : ja_H) (i c k : Nat) (x : Nat) (K : ja_H → Option α) : Option α := if h.1[i]? = some (.inl c) then K (ja_sR h i k (some x)) else none
def jn (h : ja_H) (i t : Nat) : Option Nat := match h.1[i]? with
  | some (.inr q) => if q.1 = t then some q.2 else none
  | _ => none
abbrev jx (x : Int32) (n : Nat) : Prop := ¬ (x < 0 ∨ n ≤ x.toNatClampNeg)
def ja_in (h : ja_H) (i t : Nat) (x : Int32) (r : Option α) : Option α := (jn h i t).bind (fun n => if jx x n then r else none)
def je_I (h : ja_H) (i t : Nat) (x : Int32) (K : Int32 → Option α) : Option α := ja_in h i t x (K (h.2.1 i x.toNatClampNeg))
def je_L (h : ja_H) (i : Nat) (x : Int32) (K : Int64 → Option α) : Option α := ja_in h i 1 x (K (h.2.2.1 i x.toNatClampNeg))
def je_R (h : ja_H) (i : Nat) (x : Int32) (K : Nat → Option α) : Option α := ja_in h i 4 x ((h.2.2.2.1 i x.toNatClampNeg).bind K)
def je_N (h : ja_H) (i : Nat) (x : Int32) (A B : Option α) : Option α := ja_in h i 4 x (if h.2.2.2.1 i x.toNatClampNeg = none then A else B)
def js_I (h : ja_H) (i : Nat) (x y : Int32) (K : ja_H → Option α) : Option α := ja_in h i 0 x (K (ja_sI h i x.toNatClampNeg y))
def js_Z (h : ja_H) (i : Nat) (x y : Int32) (K : ja_H → Option α) : Option α := ja_in h i 2 x (K (ja_sI h i x.toNatClampNeg (vp_nar .boolean y)))
def js_B (h : ja_H) (i : Nat) (x y : Int32) (K : ja_H → Option α) : Option α := ja_in h i 3 x (K (ja_sI h i x.toNatClampNeg (vp_nar .byte y)))
def js_L (h : ja_H) (i : Nat) (x : Int32) (y : Int64) (K : ja_H → Option α) : Option α := ja_in h i 1 x (K (ja_sL h i x.toNatClampNeg y))
def js_R (h : ja_H) (i c : Nat) (x : Int32) (r : Nat) (K : ja_H → Option α) : Option α := ja_in h i 4 x (if h.1[r]? = some (.inl c) then K (ja_sR h i x.toNatClampNeg (some r)) else none)
def jg_n (h : ja_H) (i t : Nat) (K : Int32 → Option α) : Option α := (jn h i t).bind (fun n => K (Int32.ofNat n))
def jw_O (h : ja_H) (c : Nat) (K : Nat → ja_H → Option α) : Option α := K h.1.length (ja_nw h (.inl c))
def jw_A (h : ja_H) (t : Nat) (x : Int32) (K : Nat → ja_H → Option α) : Option α := if ¬ x < 0 ∧ x.toNatClampNeg ≤ 16777216 then K h.1.length (ja_nw h (.inr (t, x.toNatClampNeg))) else none
def jz_I (y : Int32) (r : Option α) : Option α := if y = 0 then none else r
def jz_L (y : Int64) (r : Option α) : Option α := if y = 0 then none else r
def jb (x : Int32) (r : Option α) : Option α := if x = 0 ∨ x = 1 then r else none
def jk (h : ja_H) (i c : Nat) (r : Option α) : Option α := if h.1[i]? = some (.inl c) then r else none
def jc_V (r : Option ja_H) (K : ja_H → Option α) : Option α := r.bind K
def jc_I (r : Option (Int32 × ja_H)) (K : Int32 → ja_H → Option α) : Option α := r.bind (fun o => K o.1 o.2)
def jc_L (r : Option (Int64 × ja_H)) (K : Int64 → ja_H → Option α) : Option α := r.bind (fun o => K o.1 o.2)
def jsw (x : Int32) : List Int32 → List (Option α) → Option α → Option α
  | v :: vs, a :: as, d => if x = v then a else jsw x vs as d
  | _, _, d => d
def ja_cpI (h : ja_H) (a b sp dp n : Nat) : ja_H := (h.1, fun c k => if c = b then va_cpy (h.2.1 a) (h.2.1 b) sp dp n k else h.2.1 c k, h.2.2)
def ja_cpL (h : ja_H) (a b sp dp n : Nat) : ja_H := (h.1, h.2.1, fun c k => if c = b then va_cpy (h.2.2.1 a) (h.2.2.1 b) sp dp n k else h.2.2.1 c k, h.2.2.2)
def jy_ok (h : ja_H) (t a b : Nat) (sp dp n : Int32) (r : Option α) : Option α := (jn h a t).bind (fun n0 => (jn h b t).bind (fun n1 => if ¬ sp < 0 ∧ ¬ dp < 0 ∧ ¬ n < 0 ∧ sp.toNatClampNeg + n.toNatClampNeg ≤ n0 ∧ dp.toNatClampNeg + n.toNatClampNeg ≤ n1 then r else none))
def jy_I (h : ja_H) (a : Nat) (sp : Int32) (b : Nat) (dp n : Int32) (K : ja_H → Option α) : Option α := jy_ok h 0 a b sp dp n (K (ja_cpI h a b sp.toNatClampNeg dp.toNatClampNeg n.toNatClampNeg))
def jy_L (h : ja_H) (a : Nat) (sp : Int32) (b : Nat) (dp n : Int32) (K : ja_H → Option α) : Option α := jy_ok h 1 a b sp dp n (K (ja_cpL h a b sp.toNatClampNeg dp.toNatClampNeg n.toNatClampNeg))
end JD
theorem jn_some {h : ja_H} {i t n : Nat} (e : jn h i t = some n) : h.1[i]? = some (.inr (t, n)) := by
  unfold jn at e
  split at e
  · next q hq =>
    split at e
    · next ht => cases e; rw [hq, ← ht]
    · cases e
  · cases e
theorem ja_in_some {α : Type} {h : ja_H} {i t : Nat} {x : Int32} {r : Option α} {o : α} (e : ja_in h i t x r = some o) : ∃ n, h.1[i]? = some (.inr (t, n)) ∧ vp_in x n ∧ r = some o := by
  unfold ja_in at e
  obtain ⟨n, h1, h2⟩ := Option.bind_eq_some_iff.mp e
  split at h2
  · next hx => exact ⟨n, jn_some h1, hx, h2⟩
  · cases h2
def ja_le : List (Option Value) → List (Option Value) → Prop
  | [], _ => True
  | none :: t, _ :: u => ja_le t u
  | some v :: t, w :: u => w = some v ∧ ja_le t u
  | _ :: _, [] => False
theorem ja_le_get : ∀ (a b : List (Option Value)), ja_le a b → ∀ (i : Nat) (v : Value), a[i]? = some (some v) → b[i]? = some (some v)
  | [], _, _, i, v, h => by simp at h
  | none :: t, [], hl, i, v, h => by cases hl
  | some _ :: t, [], hl, i, v, h => by cases hl
  | none :: t, w :: u, hl, 0, v, h => by simp at h
  | none :: t, w :: u, hl, i + 1, v, h => by
    have := ja_le_get t u hl i v (by simpa using h)
    simpa using this
  | some z :: t, w :: u, hl, 0, v, h => by
    have h1 : w = some z := hl.1
    simp at h
    subst h1 h
    simp
  | some z :: t, w :: u, hl, i + 1, v, h => by
    have := ja_le_get t u hl.2 i v (by simpa using h)
    simpa using this
theorem jd_less {α : Type} {g : α → List Value × ja_H} {M : ja_Mt} {pc : Nat} {lv lv' : List (Option Value)} {st : List Value} {h : ja_H} {r : Option α} (k : ja_D g M pc lv' st h r) (hl : ja_le lv' lv) : ja_D g M pc lv st h r :=
  fun o e => ja_less (ja_le_get _ _ hl) (k o e)
theorem jd_iconst {α : Type} {g : α → List Value × ja_H} {M : ja_Mt} {pc pc' : Nat} {lv : List (Option Value)} {st : List Value} {h : ja_H} {r : Option α} {n : Int} (v : Int32) (d : ja_At M pc (.iconst n) 1 pc') (hv : Int32.ofInt n = v) (k : ja_D g M pc' lv (.int v :: st) h r) : ja_D g M pc lv (st) h r := fun o e => ja_iconst d hv (k o e)
theorem jd_bipush {α : Type} {g : α → List Value × ja_H} {M : ja_Mt} {pc pc' : Nat} {lv : List (Option Value)} {st : List Value} {h : ja_H} {r : Option α} {n : Int} (v : Int32) (d : ja_At M pc (.bipush n) 2 pc') (hv : (Int8.ofInt n).toInt32 = v) (k : ja_D g M pc' lv (.int v :: st) h r) : ja_D g M pc lv (st) h r := fun o e => ja_bipush d hv (k o e)
theorem jd_sipush {α : Type} {g : α → List Value × ja_H} {M : ja_Mt} {pc pc' : Nat} {lv : List (Option Value)} {st : List Value} {h : ja_H} {r : Option α} {n : Int} (v : Int32) (d : ja_At M pc (.sipush n) 3 pc') (hv : (Int16.ofInt n).toInt32 = v) (k : ja_D g M pc' lv (.int v :: st) h r) : ja_D g M pc lv (st) h r := fun o e => ja_sipush d hv (k o e)
theorem jd_lconst {α : Type} {g : α → List Value × ja_H} {M : ja_Mt} {pc pc' : Nat} {lv : List (Option Value)} {st : List Value} {h : ja_H} {r : Option α} {n : Fin 2} (v : Int64) (d : ja_At M pc (.lconst n) 1 pc') (hv : Int64.ofNat (n : Nat) = v) (k : ja_D g M pc' lv (.long v :: st) h r) : ja_D g M pc lv (st) h r := fun o e => ja_lconst d hv (k o e)
theorem jd_ldc {α : Type} {g : α → List Value × ja_H} {M : ja_Mt} {pc pc' : Nat} {lv : List (Option Value)} {st : List Value} {h : ja_H} {r : Option α} {index : Nat} {v : Int32} (d : ja_At M pc (.ldc index) 2 pc') (hc : Cond.constant M.1 index v ∈ ja_all) (k : ja_D g M pc' lv (.int v :: st) h r) : ja_D g M pc lv (st) h r := fun o e => ja_ldc d hc (k o e)
theorem jd_ldcw {α : Type} {g : α → List Value × ja_H} {M : ja_Mt} {pc pc' : Nat} {lv : List (Option Value)} {st : List Value} {h : ja_H} {r : Option α} {index : Nat} {v : Int32} (d : ja_At M pc (.ldc_w index) 3 pc') (hc : Cond.constant M.1 index v ∈ ja_all) (k : ja_D g M pc' lv (.int v :: st) h r) : ja_D g M pc lv (st) h r := fun o e => ja_ldcw d hc (k o e)
theorem jd_ldc2 {α : Type} {g : α → List Value × ja_H} {M : ja_Mt} {pc pc' : Nat} {lv : List (Option Value)} {st : List Value} {h : ja_H} {r : Option α} {index : Nat} {v : Int64} (d : ja_At M pc (.ldc2_w index) 3 pc') (hc : Cond.constantLong M.1 index v ∈ ja_all) (k : ja_D g M pc' lv (.long v :: st) h r) : ja_D g M pc lv (st) h r := fun o e => ja_ldc2 d hc (k o e)
theorem jd_iload {α : Type} {g : α → List Value × ja_H} {M : ja_Mt} {pc pc' : Nat} {lv : List (Option Value)} {st : List Value} {h : ja_H} {r : Option α} {i : Nat} {x : Int32} (d : ja_At M pc (.iload i) 2 pc') (hl : lv[i]? = some (some (.int x))) (k : ja_D g M pc' lv (.int x :: st) h r) : ja_D g M pc lv (st) h r := fun o e => ja_iload d hl (k o e)
theorem jd_iload_n {α : Type} {g : α → List Value × ja_H} {M : ja_Mt} {pc pc' : Nat} {lv : List (Option Value)} {st : List Value} {h : ja_H} {r : Option α} {n : Fin 4} {x : Int32} (d : ja_At M pc (.iload_n n) 1 pc') (hl : lv[(n : Nat)]? = some (some (.int x))) (k : ja_D g M pc' lv (.int x :: st) h r) : ja_D g M pc lv (st) h r := fun o e => ja_iload_n d hl (k o e)
theorem jd_lload {α : Type} {g : α → List Value × ja_H} {M : ja_Mt} {pc pc' : Nat} {lv : List (Option Value)} {st : List Value} {h : ja_H} {r : Option α} {i : Nat} {x : Int64} (d : ja_At M pc (.lload i) 2 pc') (hl : lv[i]? = some (some (.long x))) (k : ja_D g M pc' lv (.long x :: st) h r) : ja_D g M pc lv (st) h r := fun o e => ja_lload d hl (k o e)
theorem jd_lload_n {α : Type} {g : α → List Value × ja_H} {M : ja_Mt} {pc pc' : Nat} {lv : List (Option Value)} {st : List Value} {h : ja_H} {r : Option α} {n : Fin 4} {x : Int64} (d : ja_At M pc (.lload_n n) 1 pc') (hl : lv[(n : Nat)]? = some (some (.long x))) (k : ja_D g M pc' lv (.long x :: st) h r) : ja_D g M pc lv (st) h r := fun o e => ja_lload_n d hl (k o e)
theorem jd_aload {α : Type} {g : α → List Value × ja_H} {M : ja_Mt} {pc pc' : Nat} {lv : List (Option Value)} {st : List Value} {h : ja_H} {r : Option α} {i : Nat} {x : Nat} (d : ja_At M pc (.aload i) 2 pc') (hl : lv[i]? = some (some (.ref x))) (k : ja_D g M pc' lv (.ref x :: st) h r) : ja_D g M pc lv (st) h r := fun o e => ja_aload d hl (k o e)
theorem jd_aload_n {α : Type} {g : α → List Value × ja_H} {M : ja_Mt} {pc pc' : Nat} {lv : List (Option Value)} {st : List Value} {h : ja_H} {r : Option α} {n : Fin 4} {x : Nat} (d : ja_At M pc (.aload_n n) 1 pc') (hl : lv[(n : Nat)]? = some (some (.ref x))) (k : ja_D g M pc' lv (.ref x :: st) h r) : ja_D g M pc lv (st) h r := fun o e => ja_aload_n d hl (k o e)
theorem jd_iadd {α : Type} {g : α → List Value × ja_H} {M : ja_Mt} {pc pc' : Nat} {lv : List (Option Value)} {st : List Value} {h : ja_H} {r : Option α} {x y : Int32} (d : ja_At M pc .iadd 1 pc')  (k : ja_D g M pc' lv (.int (x + y) :: st) h r) : ja_D g M pc lv (.int y :: .int x :: st) h r := fun o e => ja_iadd d  (k o e)
theorem jd_isub {α : Type} {g : α → List Value × ja_H} {M : ja_Mt} {pc pc' : Nat} {lv : List (Option Value)} {st : List Value} {h : ja_H} {r : Option α} {x y : Int32} (d : ja_At M pc .isub 1 pc')  (k : ja_D g M pc' lv (.int (x - y) :: st) h r) : ja_D g M pc lv (.int y :: .int x :: st) h r := fun o e => ja_isub d  (k o e)
theorem jd_imul {α : Type} {g : α → List Value × ja_H} {M : ja_Mt} {pc pc' : Nat} {lv : List (Option Value)} {st : List Value} {h : ja_H} {r : Option α} {x y : Int32} (d : ja_At M pc .imul 1 pc')  (k : ja_D g M pc' lv (.int (x * y) :: st) h r) : ja_D g M pc lv (.int y :: .int x :: st) h r := fun o e => ja_imul d  (k o e)
theorem jd_iand {α : Type} {g : α → List Value × ja_H} {M : ja_Mt} {pc pc' : Nat} {lv : List (Option Value)} {st : List Value} {h : ja_H} {r : Option α} {x y : Int32} (d : ja_At M pc .iand 1 pc')  (k : ja_D g M pc' lv (.int (x &&& y) :: st) h r) : ja_D g M pc lv (.int y :: .int x :: st) h r := fun o e => ja_iand d  (k o e)
theorem jd_ior {α : Type} {g : α → List Value × ja_H} {M : ja_Mt} {pc pc' : Nat} {lv : List (Option Value)} {st : List Value} {h : ja_H} {r : Option α} {x y : Int32} (d : ja_At M pc .ior 1 pc')  (k : ja_D g M pc' lv (.int (x ||| y) :: st) h r) : ja_D g M pc lv (.int y :: .int x :: st) h r := fun o e => ja_ior d  (k o e)
theorem jd_ixor {α : Type} {g : α → List Value × ja_H} {M : ja_Mt} {pc pc' : Nat} {lv : List (Option Value)} {st : List Value} {h : ja_H} {r : Option α} {x y : Int32} (d : ja_At M pc .ixor 1 pc')  (k : ja_D g M pc' lv (.int (x ^^^ y) :: st) h r) : ja_D g M pc lv (.int y :: .int x :: st) h r := fun o e => ja_ixor d  (k o e)
theorem jd_ishl {α : Type} {g : α → List Value × ja_H} {M : ja_Mt} {pc pc' : Nat} {lv : List (Option Value)} {st : List Value} {h : ja_H} {r : Option α} {x y : Int32} (d : ja_At M pc .ishl 1 pc')  (k : ja_D g M pc' lv (.int (x <<< (y &&& 31)) :: st) h r) : ja_D g M pc lv (.int y :: .int x :: st) h r := fun o e => ja_ishl d  (k o e)
theorem jd_ishr {α : Type} {g : α → List Value × ja_H} {M : ja_Mt} {pc pc' : Nat} {lv : List (Option Value)} {st : List Value} {h : ja_H} {r : Option α} {x y : Int32} (d : ja_At M pc .ishr 1 pc')  (k : ja_D g M pc' lv (.int (x >>> (y &&& 31)) :: st) h r) : ja_D g M pc lv (.int y :: .int x :: st) h r := fun o e => ja_ishr d  (k o e)
theorem jd_ladd {α : Type} {g : α → List Value × ja_H} {M : ja_Mt} {pc pc' : Nat} {lv : List (Option Value)} {st : List Value} {h : ja_H} {r : Option α} {x y : Int64} (d : ja_At M pc .ladd 1 pc')  (k : ja_D g M pc' lv (.long (x + y) :: st) h r) : ja_D g M pc lv (.long y :: .long x :: st) h r := fun o e => ja_ladd d  (k o e)
theorem jd_lsub {α : Type} {g : α → List Value × ja_H} {M : ja_Mt} {pc pc' : Nat} {lv : List (Option Value)} {st : List Value} {h : ja_H} {r : Option α} {x y : Int64} (d : ja_At M pc .lsub 1 pc')  (k : ja_D g M pc' lv (.long (x - y) :: st) h r) : ja_D g M pc lv (.long y :: .long x :: st) h r := fun o e => ja_lsub d  (k o e)
theorem jd_lmul {α : Type} {g : α → List Value × ja_H} {M : ja_Mt} {pc pc' : Nat} {lv : List (Option Value)} {st : List Value} {h : ja_H} {r : Option α} {x y : Int64} (d : ja_At M pc .lmul 1 pc')  (k : ja_D g M pc' lv (.long (x * y) :: st) h r) : ja_D g M pc lv (.long y :: .long x :: st) h r := fun o e => ja_lmul d  (k o e)
theorem jd_land {α : Type} {g : α → List Value × ja_H} {M : ja_Mt} {pc pc' : Nat} {lv : List (Option Value)} {st : List Value} {h : ja_H} {r : Option α} {x y : Int64} (d : ja_At M pc .land 1 pc')  (k : ja_D g M pc' lv (.long (x &&& y) :: st) h r) : ja_D g M pc lv (.long y :: .long x :: st) h r := fun o e => ja_land d  (k o e)
theorem jd_lor {α : Type} {g : α → List Value × ja_H} {M : ja_Mt} {pc pc' : Nat} {lv : List (Option Value)} {st : List Value} {h : ja_H} {r : Option α} {x y : Int64} (d : ja_At M pc .lor 1 pc')  (k : ja_D g M pc' lv (.long (x ||| y) :: st) h r) : ja_D g M pc lv (.long y :: .long x :: st) h r := fun o e => ja_lor d  (k o e)
theorem jd_lxor {α : Type} {g : α → List Value × ja_H} {M : ja_Mt} {pc pc' : Nat} {lv : List (Option Value)} {st : List Value} {h : ja_H} {r : Option α} {x y : Int64} (d : ja_At M pc .lxor 1 pc')  (k : ja_D g M pc' lv (.long (x ^^^ y) :: st) h r) : ja_D g M pc lv (.long y :: .long x :: st) h r := fun o e => ja_lxor d  (k o e)
theorem jd_ineg {α : Type} {g : α → List Value × ja_H} {M : ja_Mt} {pc pc' : Nat} {lv : List (Option Value)} {st : List Value} {h : ja_H} {r : Option α} {x : Int32} (d : ja_At M pc .ineg 1 pc')  (k : ja_D g M pc' lv (.int (-x) :: st) h r) : ja_D g M pc lv (.int x :: st) h r := fun o e => ja_ineg d  (k o e)
theorem jd_lneg {α : Type} {g : α → List Value × ja_H} {M : ja_Mt} {pc pc' : Nat} {lv : List (Option Value)} {st : List Value} {h : ja_H} {r : Option α} {x : Int64} (d : ja_At M pc .lneg 1 pc')  (k : ja_D g M pc' lv (.long (-x) :: st) h r) : ja_D g M pc lv (.long x :: st) h r := fun o e => ja_lneg d  (k o e)
theorem jd_i2l {α : Type} {g : α → List Value × ja_H} {M : ja_Mt} {pc pc' : Nat} {lv : List (Option Value)} {st : List Value} {h : ja_H} {r : Option α} {x : Int32} (d : ja_At M pc .i2l 1 pc')  (k : ja_D g M pc' lv (.long x.toInt64 :: st) h r) : ja_D g M pc lv (.int x :: st) h r := fun o e => ja_i2l d  (k o e)
theorem jd_l2i {α : Type} {g : α → List Value × ja_H} {M : ja_Mt} {pc pc' : Nat} {lv : List (Option Value)} {st : List Value} {h : ja_H} {r : Option α} {x : Int64} (d : ja_At M pc .l2i 1 pc')  (k : ja_D g M pc' lv (.int x.toInt32 :: st) h r) : ja_D g M pc lv (.long x :: st) h r := fun o e => ja_l2i d  (k o e)
theorem jd_i2b {α : Type} {g : α → List Value × ja_H} {M : ja_Mt} {pc pc' : Nat} {lv : List (Option Value)} {st : List Value} {h : ja_H} {r : Option α} {x : Int32} (d : ja_At M pc .i2b 1 pc')  (k : ja_D g M pc' lv (.int x.toInt8.toInt32 :: st) h r) : ja_D g M pc lv (.int x :: st) h r := fun o e => ja_i2b d  (k o e)
theorem jd_i2s {α : Type} {g : α → List Value × ja_H} {M : ja_Mt} {pc pc' : Nat} {lv : List (Option Value)} {st : List Value} {h : ja_H} {r : Option α} {x : Int32} (d : ja_At M pc .i2s 1 pc')  (k : ja_D g M pc' lv (.int x.toInt16.toInt32 :: st) h r) : ja_D g M pc lv (.int x :: st) h r := fun o e => ja_i2s d  (k o e)
theorem jd_iushr {α : Type} {g : α → List Value × ja_H} {M : ja_Mt} {pc pc' : Nat} {lv : List (Option Value)} {st : List Value} {h : ja_H} {r : Option α} {x y : Int32} (d : ja_At M pc .iushr 1 pc')  (k : ja_D g M pc' lv (.int (x.toUInt32 >>> (y.toUInt32 &&& Int32.toUInt32 31)).toInt32 :: st) h r) : ja_D g M pc lv (.int y :: .int x :: st) h r := fun o e => ja_iushr d  (k o e)
theorem jd_lushr {α : Type} {g : α → List Value × ja_H} {M : ja_Mt} {pc pc' : Nat} {lv : List (Option Value)} {st : List Value} {h : ja_H} {r : Option α} {x : Int64} {y : Int32} (d : ja_At M pc .lushr 1 pc')  (k : ja_D g M pc' lv (.long (x.toUInt64 >>> (y.toInt64.toUInt64 &&& Int64.toUInt64 63)).toInt64 :: st) h r) : ja_D g M pc lv (.int y :: .long x :: st) h r := fun o e => ja_lushr d  (k o e)
theorem jd_lshl {α : Type} {g : α → List Value × ja_H} {M : ja_Mt} {pc pc' : Nat} {lv : List (Option Value)} {st : List Value} {h : ja_H} {r : Option α} {x : Int64} {y : Int32} (d : ja_At M pc .lshl 1 pc')  (k : ja_D g M pc' lv (.long (x <<< (y.toInt64 &&& 63)) :: st) h r) : ja_D g M pc lv (.int y :: .long x :: st) h r := fun o e => ja_lshl d  (k o e)
theorem jd_lshr {α : Type} {g : α → List Value × ja_H} {M : ja_Mt} {pc pc' : Nat} {lv : List (Option Value)} {st : List Value} {h : ja_H} {r : Option α} {x : Int64} {y : Int32} (d : ja_At M pc .lshr 1 pc')  (k : ja_D g M pc' lv (.long (x >>> (y.toInt64 &&& 63)) :: st) h r) : ja_D g M pc lv (.int y :: .long x :: st) h r := fun o e => ja_lshr d  (k o e)
theorem jd_dupI {α : Type} {g : α → List Value × ja_H} {M : ja_Mt} {pc pc' : Nat} {lv : List (Option Value)} {st : List Value} {h : ja_H} {r : Option α} {x : Int32} (d : ja_At M pc .dup 1 pc')  (k : ja_D g M pc' lv (.int x :: .int x :: st) h r) : ja_D g M pc lv (.int x :: st) h r := fun o e => ja_dupI d  (k o e)
theorem jd_dupR {α : Type} {g : α → List Value × ja_H} {M : ja_Mt} {pc pc' : Nat} {lv : List (Option Value)} {st : List Value} {h : ja_H} {r : Option α} {x : Nat} (d : ja_At M pc .dup 1 pc')  (k : ja_D g M pc' lv (.ref x :: .ref x :: st) h r) : ja_D g M pc lv (.ref x :: st) h r := fun o e => ja_dupR d  (k o e)
theorem jd_dup2 {α : Type} {g : α → List Value × ja_H} {M : ja_Mt} {pc pc' : Nat} {lv : List (Option Value)} {st : List Value} {h : ja_H} {r : Option α} {x : Int32} {a : Nat} (d : ja_At M pc .dup2 1 pc')  (k : ja_D g M pc' lv (.int x :: .ref a :: .int x :: .ref a :: st) h r) : ja_D g M pc lv (.int x :: .ref a :: st) h r := fun o e => ja_dup2 d  (k o e)
theorem jd_popI {α : Type} {g : α → List Value × ja_H} {M : ja_Mt} {pc pc' : Nat} {lv : List (Option Value)} {st : List Value} {h : ja_H} {r : Option α} {x : Int32} (d : ja_At M pc .pop 1 pc')  (k : ja_D g M pc' lv (st) h r) : ja_D g M pc lv (.int x :: st) h r := fun o e => ja_popI d  (k o e)
theorem jd_idiv {α : Type} {g : α → List Value × ja_H} {M : ja_Mt} {pc pc' : Nat} {lv : List (Option Value)} {st : List Value} {h : ja_H} {r : Option α} {x y : Int32} (d : ja_At M pc .idiv 1 pc') (k : ja_D g M pc' lv (.int (x / y) :: st) h r) : ja_D g M pc lv (.int y :: .int x :: st) h (jz_I y r) := by
  intro o e
  unfold jz_I at e
  split at e
  · cases e
  · next hy => exact ja_idiv d hy (k o e)
theorem jd_irem {α : Type} {g : α → List Value × ja_H} {M : ja_Mt} {pc pc' : Nat} {lv : List (Option Value)} {st : List Value} {h : ja_H} {r : Option α} {x y : Int32} (d : ja_At M pc .irem 1 pc') (k : ja_D g M pc' lv (.int (x - x / y * y) :: st) h r) : ja_D g M pc lv (.int y :: .int x :: st) h (jz_I y r) := by
  intro o e
  unfold jz_I at e
  split at e
  · cases e
  · next hy => exact ja_irem d hy (k o e)
theorem jd_ldiv {α : Type} {g : α → List Value × ja_H} {M : ja_Mt} {pc pc' : Nat} {lv : List (Option Value)} {st : List Value} {h : ja_H} {r : Option α} {x y : Int64} (d : ja_At M pc .ldiv 1 pc') (k : ja_D g M pc' lv (.long (x / y) :: st) h r) : ja_D g M pc lv (.long y :: .long x :: st) h (jz_L y r) := by
  intro o e
  unfold jz_L at e
  split at e
  · cases e
  · next hy => exact ja_ldiv d hy (k o e)
theorem jd_lrem {α : Type} {g : α → List Value × ja_H} {M : ja_Mt} {pc pc' : Nat} {lv : List (Option Value)} {st : List Value} {h : ja_H} {r : Option α} {x y : Int64} (d : ja_At M pc .lrem 1 pc') (k : ja_D g M pc' lv (.long (x - x / y * y) :: st) h r) : ja_D g M pc lv (.long y :: .long x :: st) h (jz_L y r) := by
  intro o e
  unfold jz_L at e
  split at e
  · cases e
  · next hy => exact ja_lrem d hy (k o e)
theorem jd_istore {α : Type} {g : α → List Value × ja_H} {M : ja_Mt} {pc pc' : Nat} {lv : List (Option Value)} {st : List Value} {h : ja_H} {i : Nat} {x : Int32} {K : Int32 → Option α} (lv' : Int32 → List (Option Value)) (d : ja_At M pc (.istore i) 2 pc') (hn : i < M.2.2.1) (hok : ja_ok lv i = true) (hl : ∀ y, lv.set i (some (.int y)) = lv' y) (k : ∀ y, ja_D g M pc' (lv' y) st h (K y)) : ja_D g M pc lv (.int x :: st) h (jl x K) := fun o e => ja_istore d hn hok (by rw [hl x]; exact k x o e)
theorem jd_istore_n {α : Type} {g : α → List Value × ja_H} {M : ja_Mt} {pc pc' : Nat} {lv : List (Option Value)} {st : List Value} {h : ja_H} {n : Fin 4} {x : Int32} {K : Int32 → Option α} (lv' : Int32 → List (Option Value)) (d : ja_At M pc (.istore_n n) 1 pc') (hn : (n : Nat) < M.2.2.1) (hok : ja_ok lv (n : Nat) = true) (hl : ∀ y, lv.set (n : Nat) (some (.int y)) = lv' y) (k : ∀ y, ja_D g M pc' (lv' y) st h (K y)) : ja_D g M pc lv (.int x :: st) h (jl x K) := fun o e => ja_istore_n d hn hok (by rw [hl x]; exact k x o e)
theorem jd_lstore {α : Type} {g : α → List Value × ja_H} {M : ja_Mt} {pc pc' : Nat} {lv : List (Option Value)} {st : List Value} {h : ja_H} {i : Nat} {x : Int64} {K : Int64 → Option α} (lv' : Int64 → List (Option Value)) (d : ja_At M pc (.lstore i) 2 pc') (hn : i + 1 < M.2.2.1) (hok : ja_ok lv i = true) (hl : ∀ y, (lv.set i (some (.long y))).set (i + 1) none = lv' y) (k : ∀ y, ja_D g M pc' (lv' y) st h (K y)) : ja_D g M pc lv (.long x :: st) h (jl x K) := fun o e => ja_lstore d hn hok (by rw [hl x]; exact k x o e)
theorem jd_lstore_n {α : Type} {g : α → List Value × ja_H} {M : ja_Mt} {pc pc' : Nat} {lv : List (Option Value)} {st : List Value} {h : ja_H} {n : Fin 4} {x : Int64} {K : Int64 → Option α} (lv' : Int64 → List (Option Value)) (d : ja_At M pc (.lstore_n n) 1 pc') (hn : (n : Nat) + 1 < M.2.2.1) (hok : ja_ok lv (n : Nat) = true) (hl : ∀ y, (lv.set (n : Nat) (some (.long y))).set ((n : Nat) + 1) none = lv' y) (k : ∀ y, ja_D g M pc' (lv' y) st h (K y)) : ja_D g M pc lv (.long x :: st) h (jl x K) := fun o e => ja_lstore_n d hn hok (by rw [hl x]; exact k x o e)
theorem jd_astore {α : Type} {g : α → List Value × ja_H} {M : ja_Mt} {pc pc' : Nat} {lv : List (Option Value)} {st : List Value} {h : ja_H} {i : Nat} {x : Nat} {K : Nat → Option α} (lv' : Nat → List (Option Value)) (d : ja_At M pc (.astore i) 2 pc') (hn : i < M.2.2.1) (hok : ja_ok lv i = true) (hl : ∀ y, lv.set i (some (.ref y)) = lv' y) (k : ∀ y, ja_D g M pc' (lv' y) st h (K y)) : ja_D g M pc lv (.ref x :: st) h (jl x K) := fun o e => ja_astore d hn hok (by rw [hl x]; exact k x o e)
theorem jd_astore_n {α : Type} {g : α → List Value × ja_H} {M : ja_Mt} {pc pc' : Nat} {lv : List (Option Value)} {st : List Value} {h : ja_H} {n : Fin 4} {x : Nat} {K : Nat → Option α} (lv' : Nat → List (Option Value)) (d : ja_At M pc (.astore_n n) 1 pc') (hn : (n : Nat) < M.2.2.1) (hok : ja_ok lv (n : Nat) = true) (hl : ∀ y, lv.set (n : Nat) (some (.ref y)) = lv' y) (k : ∀ y, ja_D g M pc' (lv' y) st h (K y)) : ja_D g M pc lv (.ref x :: st) h (jl x K) := fun o e => ja_astore_n d hn hok (by rw [hl x]; exact k x o e)
theorem jd_iinc {α : Type} {g : α → List Value × ja_H} {M : ja_Mt} {pc pc' : Nat} {lv : List (Option Value)} {st : List Value} {h : ja_H} {i : Nat} {n : Int} {x c : Int32} {K : Int32 → Option α} (lv' : Int32 → List (Option Value)) (d : ja_At M pc (.iinc i n) 3 pc') (hc : Int32.ofInt n = c) (hx : lv[i]? = some (some (.int x))) (hn : i < M.2.2.1) (hok : ja_ok lv i = true) (hl : ∀ y, lv.set i (some (.int y)) = lv' y) (k : ∀ y, ja_D g M pc' (lv' y) st h (K y)) : ja_D g M pc lv st h (jl (x + c) K) := fun o e => ja_iinc d hx (by rw [hc]) hn hok (by rw [hl]; exact k _ o e)
theorem jd_if_eq {α : Type} {g : α → List Value × ja_H} {M : ja_Mt} {pc pc' : Nat} {lv : List (Option Value)} {st : List Value} {h : ja_H} {x : Int32} {off : Int} (tgt : Nat) {A B : Option α} (d : ja_At M pc (.ifCond .eq off) 3 pc') (ht : (pc : Int) + off = (tgt : Int)) (kt : ja_D g M tgt lv st h A) (kf : ja_D g M pc' lv st h B) : ja_D g M pc lv (.int x :: st) h (if x = 0 then A else B) := fun o e => ja_if_eq d ht (fun q => kt o (by rw [if_pos q] at e; exact e)) (fun q => kf o (by rw [if_neg q] at e; exact e))
theorem jd_icmp_eq {α : Type} {g : α → List Value × ja_H} {M : ja_Mt} {pc pc' : Nat} {lv : List (Option Value)} {st : List Value} {h : ja_H} {x y : Int32} {off : Int} (tgt : Nat) {A B : Option α} (d : ja_At M pc (.if_icmp .eq off) 3 pc') (ht : (pc : Int) + off = (tgt : Int)) (kt : ja_D g M tgt lv st h A) (kf : ja_D g M pc' lv st h B) : ja_D g M pc lv (.int y :: .int x :: st) h (if x = y then A else B) := fun o e => ja_icmp_eq d ht (fun q => kt o (by rw [if_pos q] at e; exact e)) (fun q => kf o (by rw [if_neg q] at e; exact e))
theorem jd_lcmp_eq {α : Type} {g : α → List Value × ja_H} {M : ja_Mt} {pc pc' : Nat} {lv : List (Option Value)} {st : List Value} {h : ja_H} {pc1 : Nat} {x y : Int64} {off : Int} (tgt : Nat) {A B : Option α} (d : ja_At M pc .lcmp 1 pc1) (d2 : ja_At M pc1 (.ifCond .eq off) 3 pc') (ht : (pc1 : Int) + off = (tgt : Int)) (kt : ja_D g M tgt lv st h A) (kf : ja_D g M pc' lv st h B) : ja_D g M pc lv (.long y :: .long x :: st) h (if x = y then A else B) := fun o e => ja_lcmp_eq d d2 ht (fun q => kt o (by rw [if_pos q] at e; exact e)) (fun q => kf o (by rw [if_neg q] at e; exact e))
theorem jd_if_lt {α : Type} {g : α → List Value × ja_H} {M : ja_Mt} {pc pc' : Nat} {lv : List (Option Value)} {st : List Value} {h : ja_H} {x : Int32} {off : Int} (tgt : Nat) {A B : Option α} (d : ja_At M pc (.ifCond .lt off) 3 pc') (ht : (pc : Int) + off = (tgt : Int)) (kt : ja_D g M tgt lv st h A) (kf : ja_D g M pc' lv st h B) : ja_D g M pc lv (.int x :: st) h (if x < 0 then A else B) := fun o e => ja_if_lt d ht (fun q => kt o (by rw [if_pos q] at e; exact e)) (fun q => kf o (by rw [if_neg q] at e; exact e))
theorem jd_icmp_lt {α : Type} {g : α → List Value × ja_H} {M : ja_Mt} {pc pc' : Nat} {lv : List (Option Value)} {st : List Value} {h : ja_H} {x y : Int32} {off : Int} (tgt : Nat) {A B : Option α} (d : ja_At M pc (.if_icmp .lt off) 3 pc') (ht : (pc : Int) + off = (tgt : Int)) (kt : ja_D g M tgt lv st h A) (kf : ja_D g M pc' lv st h B) : ja_D g M pc lv (.int y :: .int x :: st) h (if x < y then A else B) := fun o e => ja_icmp_lt d ht (fun q => kt o (by rw [if_pos q] at e; exact e)) (fun q => kf o (by rw [if_neg q] at e; exact e))
theorem jd_lcmp_lt {α : Type} {g : α → List Value × ja_H} {M : ja_Mt} {pc pc' : Nat} {lv : List (Option Value)} {st : List Value} {h : ja_H} {pc1 : Nat} {x y : Int64} {off : Int} (tgt : Nat) {A B : Option α} (d : ja_At M pc .lcmp 1 pc1) (d2 : ja_At M pc1 (.ifCond .lt off) 3 pc') (ht : (pc1 : Int) + off = (tgt : Int)) (kt : ja_D g M tgt lv st h A) (kf : ja_D g M pc' lv st h B) : ja_D g M pc lv (.long y :: .long x :: st) h (if x < y then A else B) := fun o e => ja_lcmp_lt d d2 ht (fun q => kt o (by rw [if_pos q] at e; exact e)) (fun q => kf o (by rw [if_neg q] at e; exact e))
theorem jd_if_ge {α : Type} {g : α → List Value × ja_H} {M : ja_Mt} {pc pc' : Nat} {lv : List (Option Value)} {st : List Value} {h : ja_H} {x : Int32} {off : Int} (tgt : Nat) {A B : Option α} (d : ja_At M pc (.ifCond .ge off) 3 pc') (ht : (pc : Int) + off = (tgt : Int)) (kt : ja_D g M tgt lv st h A) (kf : ja_D g M pc' lv st h B) : ja_D g M pc lv (.int x :: st) h (if 0 ≤ x then A else B) := fun o e => ja_if_ge d ht (fun q => kt o (by rw [if_pos q] at e; exact e)) (fun q => kf o (by rw [if_neg q] at e; exact e))
theorem jd_icmp_ge {α : Type} {g : α → List Value × ja_H} {M : ja_Mt} {pc pc' : Nat} {lv : List (Option Value)} {st : List Value} {h : ja_H} {x y : Int32} {off : Int} (tgt : Nat) {A B : Option α} (d : ja_At M pc (.if_icmp .ge off) 3 pc') (ht : (pc : Int) + off = (tgt : Int)) (kt : ja_D g M tgt lv st h A) (kf : ja_D g M pc' lv st h B) : ja_D g M pc lv (.int y :: .int x :: st) h (if y ≤ x then A else B) := fun o e => ja_icmp_ge d ht (fun q => kt o (by rw [if_pos q] at e; exact e)) (fun q => kf o (by rw [if_neg q] at e; exact e))
theorem jd_lcmp_ge {α : Type} {g : α → List Value × ja_H} {M : ja_Mt} {pc pc' : Nat} {lv : List (Option Value)} {st : List Value} {h : ja_H} {pc1 : Nat} {x y : Int64} {off : Int} (tgt : Nat) {A B : Option α} (d : ja_At M pc .lcmp 1 pc1) (d2 : ja_At M pc1 (.ifCond .ge off) 3 pc') (ht : (pc1 : Int) + off = (tgt : Int)) (kt : ja_D g M tgt lv st h A) (kf : ja_D g M pc' lv st h B) : ja_D g M pc lv (.long y :: .long x :: st) h (if y ≤ x then A else B) := fun o e => ja_lcmp_ge d d2 ht (fun q => kt o (by rw [if_pos q] at e; exact e)) (fun q => kf o (by rw [if_neg q] at e; exact e))
theorem jd_if_gt {α : Type} {g : α → List Value × ja_H} {M : ja_Mt} {pc pc' : Nat} {lv : List (Option Value)} {st : List Value} {h : ja_H} {x : Int32} {off : Int} (tgt : Nat) {A B : Option α} (d : ja_At M pc (.ifCond .gt off) 3 pc') (ht : (pc : Int) + off = (tgt : Int)) (kt : ja_D g M tgt lv st h A) (kf : ja_D g M pc' lv st h B) : ja_D g M pc lv (.int x :: st) h (if 0 < x then A else B) := fun o e => ja_if_gt d ht (fun q => kt o (by rw [if_pos q] at e; exact e)) (fun q => kf o (by rw [if_neg q] at e; exact e))
theorem jd_icmp_gt {α : Type} {g : α → List Value × ja_H} {M : ja_Mt} {pc pc' : Nat} {lv : List (Option Value)} {st : List Value} {h : ja_H} {x y : Int32} {off : Int} (tgt : Nat) {A B : Option α} (d : ja_At M pc (.if_icmp .gt off) 3 pc') (ht : (pc : Int) + off = (tgt : Int)) (kt : ja_D g M tgt lv st h A) (kf : ja_D g M pc' lv st h B) : ja_D g M pc lv (.int y :: .int x :: st) h (if y < x then A else B) := fun o e => ja_icmp_gt d ht (fun q => kt o (by rw [if_pos q] at e; exact e)) (fun q => kf o (by rw [if_neg q] at e; exact e))
theorem jd_lcmp_gt {α : Type} {g : α → List Value × ja_H} {M : ja_Mt} {pc pc' : Nat} {lv : List (Option Value)} {st : List Value} {h : ja_H} {pc1 : Nat} {x y : Int64} {off : Int} (tgt : Nat) {A B : Option α} (d : ja_At M pc .lcmp 1 pc1) (d2 : ja_At M pc1 (.ifCond .gt off) 3 pc') (ht : (pc1 : Int) + off = (tgt : Int)) (kt : ja_D g M tgt lv st h A) (kf : ja_D g M pc' lv st h B) : ja_D g M pc lv (.long y :: .long x :: st) h (if y < x then A else B) := fun o e => ja_lcmp_gt d d2 ht (fun q => kt o (by rw [if_pos q] at e; exact e)) (fun q => kf o (by rw [if_neg q] at e; exact e))
theorem jd_if_le {α : Type} {g : α → List Value × ja_H} {M : ja_Mt} {pc pc' : Nat} {lv : List (Option Value)} {st : List Value} {h : ja_H} {x : Int32} {off : Int} (tgt : Nat) {A B : Option α} (d : ja_At M pc (.ifCond .le off) 3 pc') (ht : (pc : Int) + off = (tgt : Int)) (kt : ja_D g M tgt lv st h A) (kf : ja_D g M pc' lv st h B) : ja_D g M pc lv (.int x :: st) h (if x ≤ 0 then A else B) := fun o e => ja_if_le d ht (fun q => kt o (by rw [if_pos q] at e; exact e)) (fun q => kf o (by rw [if_neg q] at e; exact e))
theorem jd_icmp_le {α : Type} {g : α → List Value × ja_H} {M : ja_Mt} {pc pc' : Nat} {lv : List (Option Value)} {st : List Value} {h : ja_H} {x y : Int32} {off : Int} (tgt : Nat) {A B : Option α} (d : ja_At M pc (.if_icmp .le off) 3 pc') (ht : (pc : Int) + off = (tgt : Int)) (kt : ja_D g M tgt lv st h A) (kf : ja_D g M pc' lv st h B) : ja_D g M pc lv (.int y :: .int x :: st) h (if x ≤ y then A else B) := fun o e => ja_icmp_le d ht (fun q => kt o (by rw [if_pos q] at e; exact e)) (fun q => kf o (by rw [if_neg q] at e; exact e))
theorem jd_lcmp_le {α : Type} {g : α → List Value × ja_H} {M : ja_Mt} {pc pc' : Nat} {lv : List (Option Value)} {st : List Value} {h : ja_H} {pc1 : Nat} {x y : Int64} {off : Int} (tgt : Nat) {A B : Option α} (d : ja_At M pc .lcmp 1 pc1) (d2 : ja_At M pc1 (.ifCond .le off) 3 pc') (ht : (pc1 : Int) + off = (tgt : Int)) (kt : ja_D g M tgt lv st h A) (kf : ja_D g M pc' lv st h B) : ja_D g M pc lv (.long y :: .long x :: st) h (if x ≤ y then A else B) := fun o e => ja_lcmp_le d d2 ht (fun q => kt o (by rw [if_pos q] at e; exact e)) (fun q => kf o (by rw [if_neg q] at e; exact e))
theorem jd_if_ne {α : Type} {g : α → List Value × ja_H} {M : ja_Mt} {pc pc' : Nat} {lv : List (Option Value)} {st : List Value} {h : ja_H} {x : Int32} {off : Int} (tgt : Nat) {A B : Option α} (d : ja_At M pc (.ifCond .ne off) 3 pc') (ht : (pc : Int) + off = (tgt : Int)) (kt : ja_D g M tgt lv st h A) (kf : ja_D g M pc' lv st h B) : ja_D g M pc lv (.int x :: st) h (if x = 0 then B else A) := fun o e => ja_if_ne d ht (fun q => kt o (by rw [if_neg q] at e; exact e)) (fun q => kf o (by rw [if_pos q] at e; exact e))
theorem jd_icmp_ne {α : Type} {g : α → List Value × ja_H} {M : ja_Mt} {pc pc' : Nat} {lv : List (Option Value)} {st : List Value} {h : ja_H} {x y : Int32} {off : Int} (tgt : Nat) {A B : Option α} (d : ja_At M pc (.if_icmp .ne off) 3 pc') (ht : (pc : Int) + off = (tgt : Int)) (kt : ja_D g M tgt lv st h A) (kf : ja_D g M pc' lv st h B) : ja_D g M pc lv (.int y :: .int x :: st) h (if x = y then B else A) := fun o e => ja_icmp_ne d ht (fun q => kt o (by rw [if_neg q] at e; exact e)) (fun q => kf o (by rw [if_pos q] at e; exact e))
theorem jd_lcmp_ne {α : Type} {g : α → List Value × ja_H} {M : ja_Mt} {pc pc' : Nat} {lv : List (Option Value)} {st : List Value} {h : ja_H} {pc1 : Nat} {x y : Int64} {off : Int} (tgt : Nat) {A B : Option α} (d : ja_At M pc .lcmp 1 pc1) (d2 : ja_At M pc1 (.ifCond .ne off) 3 pc') (ht : (pc1 : Int) + off = (tgt : Int)) (kt : ja_D g M tgt lv st h A) (kf : ja_D g M pc' lv st h B) : ja_D g M pc lv (.long y :: .long x :: st) h (if x = y then B else A) := fun o e => ja_lcmp_ne d d2 ht (fun q => kt o (by rw [if_neg q] at e; exact e)) (fun q => kf o (by rw [if_pos q] at e; exact e))
theorem jd_goto {α : Type} {g : α → List Value × ja_H} {M : ja_Mt} {pc pc' : Nat} {lv : List (Option Value)} {st : List Value} {h : ja_H} {r : Option α} {off : Int} (tgt : Nat) (d : ja_At M pc (.goto off) 3 pc') (ht : (pc : Int) + off = (tgt : Int)) (k : ja_D g M tgt lv st h r) : ja_D g M pc lv st h r := fun o e => ja_goto d ht (k o e)
theorem jd_getI {α : Type} {g : α → List Value × ja_H} {M : ja_Mt} {pc pc' : Nat} {lv : List (Option Value)} {st : List Value} {h : ja_H} {idx ci kf i : Nat} {nest : Option String} {K : Int32 → Option α} (F : ja_F M.1 idx ci kf 0 nest) (d : ja_At M pc (.getfield idx) 3 pc') (k : ∀ x, ja_D g M pc' lv (.int x :: st) h (K x)) : ja_D g M pc lv (.ref i :: st) h (jf_I h i ci kf K) := by
  intro o e
  unfold jf_I at e
  split at e
  · next hs => exact ja_getI F hs d (k _ o e)
  · cases e
theorem jd_putI {α : Type} {g : α → List Value × ja_H} {M : ja_Mt} {pc pc' : Nat} {lv : List (Option Value)} {st : List Value} {h : ja_H} {idx ci kf i : Nat} {nest : Option String} {x : Int32} {K : ja_H → Option α} (F : ja_F M.1 idx ci kf 0 nest) (P : ja_FP ci kf .int false) (d : ja_At M pc (.putfield idx) 3 pc') (k : ∀ h1, ja_D g M pc' lv st h1 (K h1)) : ja_D g M pc lv (.int x :: .ref i :: st) h (jp_I h i ci kf x K) := by
  intro o e
  unfold jp_I at e
  split at e
  · next hs => exact ja_putI F P hs rfl rfl d (k _ o e)
  · cases e
theorem jd_getL {α : Type} {g : α → List Value × ja_H} {M : ja_Mt} {pc pc' : Nat} {lv : List (Option Value)} {st : List Value} {h : ja_H} {idx ci kf i : Nat} {nest : Option String} {K : Int64 → Option α} (F : ja_F M.1 idx ci kf 1 nest) (d : ja_At M pc (.getfield idx) 3 pc') (k : ∀ x, ja_D g M pc' lv (.long x :: st) h (K x)) : ja_D g M pc lv (.ref i :: st) h (jf_L h i ci kf K) := by
  intro o e
  unfold jf_L at e
  split at e
  · next hs => exact ja_getL F hs d (k _ o e)
  · cases e
theorem jd_putL {α : Type} {g : α → List Value × ja_H} {M : ja_Mt} {pc pc' : Nat} {lv : List (Option Value)} {st : List Value} {h : ja_H} {idx ci kf i : Nat} {nest : Option String} {x : Int64} {K : ja_H → Option α} (F : ja_F M.1 idx ci kf 1 nest) (P : ja_FP ci kf .long false) (d : ja_At M pc (.putfield idx) 3 pc') (k : ∀ h1, ja_D g M pc' lv st h1 (K h1)) : ja_D g M pc lv (.long x :: .ref i :: st) h (jp_L h i ci kf x K) := by
  intro o e
  unfold jp_L at e
  split at e
  · next hs => exact ja_putL F P hs rfl rfl d (k _ o e)
  · cases e
theorem jd_putZ {α : Type} {g : α → List Value × ja_H} {M : ja_Mt} {pc pc' : Nat} {lv : List (Option Value)} {st : List Value} {h : ja_H} {idx ci kf i : Nat} {nest : Option String} {x : Int32} {K : ja_H → Option α} (F : ja_F M.1 idx ci kf 0 nest) (P : ja_FP ci kf .boolean false) (d : ja_At M pc (.putfield idx) 3 pc') (k : ∀ h1, ja_D g M pc' lv st h1 (K h1)) : ja_D g M pc lv (.int x :: .ref i :: st) h (jp_Z h i ci kf x K) := by
  intro o e
  unfold jp_Z at e
  split at e
  · next hs => exact ja_putI F P hs.1 (by rcases hs.2 with rfl | rfl <;> decide) (by rcases hs.2 with rfl | rfl <;> decide) d (k _ o e)
  · cases e
theorem jd_getR {α : Type} {g : α → List Value × ja_H} {M : ja_Mt} {pc pc' : Nat} {lv : List (Option Value)} {st : List Value} {h : ja_H} {idx ci kf i : Nat} {nest : Option String} {K : Nat → Option α} (F : ja_F M.1 idx ci kf 2 nest) (d : ja_At M pc (.getfield idx) 3 pc') (k : ∀ x, ja_D g M pc' lv (.ref x :: st) h (K x)) : ja_D g M pc lv (.ref i :: st) h (jf_R h i ci kf K) := by
  intro o e
  unfold jf_R at e
  split at e
  · next hs =>
    obtain ⟨x, h1, h2⟩ := Option.bind_eq_some_iff.mp e
    exact ja_getR F hs h1 d (k _ o h2)
  · cases e
theorem jd_putR {α : Type} {g : α → List Value × ja_H} {M : ja_Mt} {pc pc' : Nat} {lv : List (Option Value)} {st : List Value} {h : ja_H} {idx ci kf i r : Nat} {ty : FieldType} {K : ja_H → Option α} (F : ja_F M.1 idx ci kf 2 none) (P : ja_FP ci kf ty true) (hown : (vwCl[ci]?).map (fun q => q.1) = some M.1) (hini : M.2.2.2.2.1 = true) (hn : ∀ a : Nat, narrow ty (.ref a) = .ref a) (hfit : ∀ a : Nat, fits ty (.ref a) = true) (d : ja_At M pc (.putfield idx) 3 pc') (k : ∀ h1, ja_D g M pc' lv st h1 (K h1)) : ja_D g M pc lv (.ref r :: .ref i :: st) h (jp_R h i ci kf r K) := by
  intro o e
  unfold jp_R at e
  split at e
  · next hs => exact ja_putF F P hown hini hs hn hfit d (k _ o e)
  · cases e
theorem jd_iald {α : Type} {g : α → List Value × ja_H} {M : ja_Mt} {pc pc' : Nat} {lv : List (Option Value)} {st : List Value} {h : ja_H} {i : Nat} {x : Int32} {K : Int32 → Option α} (d : ja_At M pc .iaload 1 pc') (k : ∀ y, ja_D g M pc' lv (.int y :: st) h (K y)) : ja_D g M pc lv (.int x :: .ref i :: st) h (je_I h i 0 x K) := by
  intro o e
  obtain ⟨n, hs, hx, h2⟩ := ja_in_some e
  exact ja_iald hs hx d (k _ o h2)
theorem jd_lald {α : Type} {g : α → List Value × ja_H} {M : ja_Mt} {pc pc' : Nat} {lv : List (Option Value)} {st : List Value} {h : ja_H} {i : Nat} {x : Int32} {K : Int64 → Option α} (d : ja_At M pc .laload 1 pc') (k : ∀ y, ja_D g M pc' lv (.long y :: st) h (K y)) : ja_D g M pc lv (.int x :: .ref i :: st) h (je_L h i x K) := by
  intro o e
  obtain ⟨n, hs, hx, h2⟩ := ja_in_some e
  exact ja_lald hs hx d (k _ o h2)
theorem jd_zald {α : Type} {g : α → List Value × ja_H} {M : ja_Mt} {pc pc' : Nat} {lv : List (Option Value)} {st : List Value} {h : ja_H} {i : Nat} {x : Int32} {K : Int32 → Option α} (d : ja_At M pc .baload 1 pc') (k : ∀ y, ja_D g M pc' lv (.int y :: st) h (K y)) : ja_D g M pc lv (.int x :: .ref i :: st) h (je_I h i 2 x K) := by
  intro o e
  obtain ⟨n, hs, hx, h2⟩ := ja_in_some e
  exact ja_zald hs hx d (k _ o h2)
theorem jd_bald {α : Type} {g : α → List Value × ja_H} {M : ja_Mt} {pc pc' : Nat} {lv : List (Option Value)} {st : List Value} {h : ja_H} {i : Nat} {x : Int32} {K : Int32 → Option α} (d : ja_At M pc .baload 1 pc') (k : ∀ y, ja_D g M pc' lv (.int y :: st) h (K y)) : ja_D g M pc lv (.int x :: .ref i :: st) h (je_I h i 3 x K) := by
  intro o e
  obtain ⟨n, hs, hx, h2⟩ := ja_in_some e
  exact ja_bald hs hx d (k _ o h2)
theorem jd_aald {α : Type} {g : α → List Value × ja_H} {M : ja_Mt} {pc pc' : Nat} {lv : List (Option Value)} {st : List Value} {h : ja_H} {i : Nat} {x : Int32} {K : Nat → Option α} (d : ja_At M pc .aaload 1 pc') (k : ∀ y, ja_D g M pc' lv (.ref y :: st) h (K y)) : ja_D g M pc lv (.int x :: .ref i :: st) h (je_R h i x K) := by
  intro o e
  obtain ⟨n, hs, hx, h2⟩ := ja_in_some e
  obtain ⟨y, h3, h4⟩ := Option.bind_eq_some_iff.mp h2
  exact ja_aald hs hx h3 d (k _ o h4)
theorem jd_aaldNull {α : Type} {g : α → List Value × ja_H} {M : ja_Mt} {pc pc' : Nat} {lv : List (Option Value)} {st : List Value} {h : ja_H} {i pc1 : Nat} {off : Int} {x : Int32} {A B : Option α} (tgt : Nat) (d : ja_At M pc .aaload 1 pc1) (d2 : ja_At M pc1 (.ifnull off) 3 pc') (ht : (pc1 : Int) + off = (tgt : Int)) (kt : ja_D g M tgt lv st h A) (kf : ja_D g M pc' lv st h B) : ja_D g M pc lv (.int x :: .ref i :: st) h (je_N h i x A B) := by
  intro o e
  obtain ⟨n, hs, hx, h2⟩ := ja_in_some e
  split at h2
  · next hn => exact ja_aaldN hs hx hn d (ja_ifnullN d2 ht (kt o h2))
  · next hn =>
    obtain ⟨y, hy⟩ := Option.ne_none_iff_exists'.mp hn
    exact ja_aald hs hx hy d (ja_ifnull d2 (kf o h2))
theorem jd_aaldNonnull {α : Type} {g : α → List Value × ja_H} {M : ja_Mt} {pc pc' : Nat} {lv : List (Option Value)} {st : List Value} {h : ja_H} {i pc1 : Nat} {off : Int} {x : Int32} {A B : Option α} (tgt : Nat) (d : ja_At M pc .aaload 1 pc1) (d2 : ja_At M pc1 (.ifnonnull off) 3 pc') (ht : (pc1 : Int) + off = (tgt : Int)) (kt : ja_D g M tgt lv st h B) (kf : ja_D g M pc' lv st h A) : ja_D g M pc lv (.int x :: .ref i :: st) h (je_N h i x A B) := by
  intro o e
  obtain ⟨n, hs, hx, h2⟩ := ja_in_some e
  split at h2
  · next hn => exact ja_aaldN hs hx hn d (ja_ifnonnullN d2 (kf o h2))
  · next hn =>
    obtain ⟨y, hy⟩ := Option.ne_none_iff_exists'.mp hn
    exact ja_aald hs hx hy d (ja_ifnonnull d2 ht (kt o h2))
theorem jd_iast {α : Type} {g : α → List Value × ja_H} {M : ja_Mt} {pc pc' : Nat} {lv : List (Option Value)} {st : List Value} {h : ja_H} {i : Nat} {x : Int32} {y : Int32} {K : ja_H → Option α} (d : ja_At M pc .iastore 1 pc') (k : ∀ h1, ja_D g M pc' lv st h1 (K h1)) : ja_D g M pc lv (.int y :: .int x :: .ref i :: st) h (js_I h i x y K) := by
  intro o e
  obtain ⟨n, hs, hx, h2⟩ := ja_in_some e
  exact ja_iast hs hx d (k _ o h2)
theorem jd_last {α : Type} {g : α → List Value × ja_H} {M : ja_Mt} {pc pc' : Nat} {lv : List (Option Value)} {st : List Value} {h : ja_H} {i : Nat} {x : Int32} {y : Int64} {K : ja_H → Option α} (d : ja_At M pc .lastore 1 pc') (k : ∀ h1, ja_D g M pc' lv st h1 (K h1)) : ja_D g M pc lv (.long y :: .int x :: .ref i :: st) h (js_L h i x y K) := by
  intro o e
  obtain ⟨n, hs, hx, h2⟩ := ja_in_some e
  exact ja_last hs hx d (k _ o h2)
theorem jd_zast {α : Type} {g : α → List Value × ja_H} {M : ja_Mt} {pc pc' : Nat} {lv : List (Option Value)} {st : List Value} {h : ja_H} {i : Nat} {x : Int32} {y : Int32} {K : ja_H → Option α} (d : ja_At M pc .bastore 1 pc') (k : ∀ h1, ja_D g M pc' lv st h1 (K h1)) : ja_D g M pc lv (.int y :: .int x :: .ref i :: st) h (js_Z h i x y K) := by
  intro o e
  obtain ⟨n, hs, hx, h2⟩ := ja_in_some e
  exact ja_zast hs hx d (k _ o h2)
theorem jd_bast {α : Type} {g : α → List Value × ja_H} {M : ja_Mt} {pc pc' : Nat} {lv : List (Option Value)} {st : List Value} {h : ja_H} {i : Nat} {x : Int32} {y : Int32} {K : ja_H → Option α} (d : ja_At M pc .bastore 1 pc') (k : ∀ h1, ja_D g M pc' lv st h1 (K h1)) : ja_D g M pc lv (.int y :: .int x :: .ref i :: st) h (js_B h i x y K) := by
  intro o e
  obtain ⟨n, hs, hx, h2⟩ := ja_in_some e
  exact ja_bast hs hx d (k _ o h2)
theorem jd_aast {α : Type} {g : α → List Value × ja_H} {M : ja_Mt} {pc pc' : Nat} {lv : List (Option Value)} {st : List Value} {h : ja_H} {i ci r : Nat} {x : Int32} {K : ja_H → Option α} (hci : (vwCl[ci]?).map (fun q => q.1) = some ja_elem) (d : ja_At M pc .aastore 1 pc') (k : ∀ h1, ja_D g M pc' lv st h1 (K h1)) : ja_D g M pc lv (.ref r :: .int x :: .ref i :: st) h (js_R h i ci x r K) := by
  intro o e
  obtain ⟨n, hs, hx, h2⟩ := ja_in_some e
  split at h2
  · next hr => exact ja_aast hs hr hci hx d (k _ o h2)
  · cases h2
theorem ja_alen {M : ja_Mt} {pc pc' : Nat} {lv : List (Option Value)} {st : List Value} {h : ja_H} {ret : List Value} {hf : ja_H} {i n t : Nat} (ht : t < 5) (hs : h.1[i]? = some (.inr (t, n))) (d : ja_At M pc .arraylength 1 pc') (k : ja_J M pc' lv (.int (Int32.ofNat n) :: st) h ret hf) : ja_J M pc lv (.ref i :: st) h ret hf := by
  obtain ⟨d, rfl⟩ := d
  refine ⟨k.1, fun q => k.2.1 ⟨q.1, q.2.1, q.2.2.2⟩, fun p l e R s m args below meth c Q D aC A kc ks H ls locs cells slots ads hC hS hV hE => ?_⟩
  have h2 := k.2.2 p l e R s m args below meth c Q D aC A kc ks H ls locs cells slots ads hC hS ⟨hV.1, hV.2.1, hV.2.2.2⟩ hE
  have htt : (ja_tys aC)[t]? = some (aC t, ja_at t) := by
    rcases (show t = 0 ∨ t = 1 ∨ t = 2 ∨ t = 3 ∨ t = 4 by omega) with rfl | rfl | rfl | rfl | rfl <;> rfl
  refine va_alen hC.1 hC.2.1 hC.2.2.2.2.2.1 hS.2.1 i t (ja_wl_arr hs) htt (v := Int32.ofNat n) ?_ d h2
  rcases (show t = 0 ∨ t = 1 ∨ t = 2 ∨ t = 3 ∨ t = 4 by omega) with rfl | rfl | rfl | rfl | rfl <;> rfl
theorem jd_alen {α : Type} {g : α → List Value × ja_H} {M : ja_Mt} {pc pc' : Nat} {lv : List (Option Value)} {st : List Value} {h : ja_H} {i t : Nat} {K : Int32 → Option α} (ht : t < 5) (d : ja_At M pc .arraylength 1 pc') (k : ∀ y, ja_D g M pc' lv (.int y :: st) h (K y)) : ja_D g M pc lv (.ref i :: st) h (jg_n h i t K) := by
  intro o e
  obtain ⟨n, h1, h2⟩ := Option.bind_eq_some_iff.mp e
  exact ja_alen ht (jn_some h1) d (k _ o h2)
theorem jd_new {α : Type} {g : α → List Value × ja_H} {M : ja_Mt} {pc pc' : Nat} {lv : List (Option Value)} {st : List Value} {h : ja_H} {idx ci : Nat} {K : Nat → ja_H → Option α} (g9 : ja_GN M.1 idx ci) (d : ja_At M pc (.new idx) 3 pc') (k : ∀ x h1, ja_D g M pc' lv (.ref x :: st) h1 (K x h1)) : ja_D g M pc lv st h (jw_O h ci K) := fun o e => ja_new g9 d (k _ _ o e)
theorem jd_newa {α : Type} {g : α → List Value × ja_H} {M : ja_Mt} {pc pc' : Nat} {lv : List (Option Value)} {st : List Value} {h : ja_H} {x : Int32} {K : Nat → ja_H → Option α} (t : Nat) (ty : ArrayType) (hty : newarray.typeOf ty = ja_at t) (ht : t < 4) (hcl : Cond.arrayClass (ja_at t) ∈ ja_all) (d : ja_At M pc (.newarray ty) 2 pc') (k : ∀ x h1, ja_D g M pc' lv (.ref x :: st) h1 (K x h1)) : ja_D g M pc lv (.int x :: st) h (jw_A h t x K) := by
  intro o e
  unfold jw_A at e
  split at e
  · next hx => exact ja_newa t _ ty hty ht hcl hx.1 rfl hx.2 d (k _ _ o e)
  · cases e
theorem jd_newq {α : Type} {g : α → List Value × ja_H} {M : ja_Mt} {pc pc' : Nat} {lv : List (Option Value)} {st : List Value} {h : ja_H} {x : Int32} {idx : Nat} {K : Nat → ja_H → Option α} (hcl : Cond.classLink M.1 idx ja_elem ∈ ja_all) (d : ja_At M pc (.anewarray idx) 3 pc') (k : ∀ x h1, ja_D g M pc' lv (.ref x :: st) h1 (K x h1)) : ja_D g M pc lv (.int x :: st) h (jw_A h 4 x K) := by
  intro o e
  unfold jw_A at e
  split at e
  · next hx => exact ja_newq _ hcl hx.1 rfl hx.2 d (k _ _ o e)
  · cases e
theorem jd_objInit {α : Type} {g : α → List Value × ja_H} {M : ja_Mt} {pc pc' : Nat} {lv : List (Option Value)} {st : List Value} {h : ja_H} {r : Option α} {idx i : Nat} (hl : Cond.methodLink M.1 idx objectInit ∈ ja_all) (hin : Cond.instanceMethod objectInit ∈ ja_all) (hcd : Cond.code objectInit ⟨#[0xb1]⟩ 1 none ∈ ja_all) (hd : 1 ≤ M.2.2.2.1.1 ∧ 20 ≤ M.2.2.2.1.2) (hw : (st.map Value.category).sum ≤ 8) (d : ja_At M pc (.invokespecial idx) 3 pc') (k : ja_D g M pc' lv st h r) : ja_D g M pc lv (.ref i :: st) h r := fun o e => ja_objInit hl hin hcd hd hw d (k o e)
theorem jd_callVV {α : Type} {g : α → List Value × ja_H} {M : ja_Mt} {pc pc' : Nat} {lv : List (Option Value)} {st : List Value} {h : ja_H} {idx maxL n : Nat} {d0 : Nat × Nat} {y : MethodName} {bytes : ByteArray} {rt : Option FieldType} {nest : Option String} {stk as : List Value} {i ci : Nat} {r1 : Option (ja_H)} {K : ja_H → Option α} (g9 : ja_G M.1 idx y bytes maxL rt n nest) (hin : Cond.instanceMethod y ∈ ja_all) (hsel : Cond.selects y.cls y y ∈ ja_all) (hci : (vwCl[ci]?).map (fun q => q.1) = some y.cls) (hM : ∀ q, r1 = some q → ja_M d0 y bytes maxL rt (.ref i :: as) h [] q) (hlen : as.length = n) (hd : d0.1 + 1 ≤ M.2.2.2.1.1 ∧ 8 + (maxL + 11) + d0.2 ≤ M.2.2.2.1.2) (hst : stk = as.reverse ++ .ref i :: st) (hw : (st.map Value.category).sum ≤ 8) (d : ja_At M pc (.invokevirtual idx) 3 pc') (k : ∀ h1, ja_D g M pc' lv st h1 (K h1)) : ja_D g M pc lv stk h (jk h i ci (jc_V r1 K)) := by
  subst hlen
  intro o e
  unfold jk at e
  split at e
  · next hs =>
    obtain ⟨q, h1, h2⟩ := Option.bind_eq_some_iff.mp e
    exact ja_callV g9 hin hsel hci hs hd (hM q h1) hst hw d (k q o h2)
  · cases e
theorem jd_callVI {α : Type} {g : α → List Value × ja_H} {M : ja_Mt} {pc pc' : Nat} {lv : List (Option Value)} {st : List Value} {h : ja_H} {idx maxL n : Nat} {d0 : Nat × Nat} {y : MethodName} {bytes : ByteArray} {rt : Option FieldType} {nest : Option String} {stk as : List Value} {i ci : Nat} {r1 : Option (Int32 × ja_H)} {K : Int32 → ja_H → Option α} (g9 : ja_G M.1 idx y bytes maxL rt n nest) (hin : Cond.instanceMethod y ∈ ja_all) (hsel : Cond.selects y.cls y y ∈ ja_all) (hci : (vwCl[ci]?).map (fun q => q.1) = some y.cls) (hM : ∀ q, r1 = some q → ja_M d0 y bytes maxL rt (.ref i :: as) h [.int q.1] q.2) (hlen : as.length = n) (hd : d0.1 + 1 ≤ M.2.2.2.1.1 ∧ 8 + (maxL + 11) + d0.2 ≤ M.2.2.2.1.2) (hst : stk = as.reverse ++ .ref i :: st) (hw : (st.map Value.category).sum ≤ 8) (d : ja_At M pc (.invokevirtual idx) 3 pc') (k : ∀ x h1, ja_D g M pc' lv (.int x :: st) h1 (K x h1)) : ja_D g M pc lv stk h (jk h i ci (jc_I r1 K)) := by
  subst hlen
  intro o e
  unfold jk at e
  split at e
  · next hs =>
    obtain ⟨q, h1, h2⟩ := Option.bind_eq_some_iff.mp e
    exact ja_callV g9 hin hsel hci hs hd (hM q h1) hst hw d (k q.1 q.2 o h2)
  · cases e
theorem jd_callVL {α : Type} {g : α → List Value × ja_H} {M : ja_Mt} {pc pc' : Nat} {lv : List (Option Value)} {st : List Value} {h : ja_H} {idx maxL n : Nat} {d0 : Nat × Nat} {y : MethodName} {bytes : ByteArray} {rt : Option FieldType} {nest : Option String} {stk as : List Value} {i ci : Nat} {r1 : Option (Int64 × ja_H)} {K : Int64 → ja_H → Option α} (g9 : ja_G M.1 idx y bytes maxL rt n nest) (hin : Cond.instanceMethod y ∈ ja_all) (hsel : Cond.selects y.cls y y ∈ ja_all) (hci : (vwCl[ci]?).map (fun q => q.1) = some y.cls) (hM : ∀ q, r1 = some q → ja_M d0 y bytes maxL rt (.ref i :: as) h [.long q.1] q.2) (hlen : as.length = n) (hd : d0.1 + 1 ≤ M.2.2.2.1.1 ∧ 8 + (maxL + 11) + d0.2 ≤ M.2.2.2.1.2) (hst : stk = as.reverse ++ .ref i :: st) (hw : (st.map Value.category).sum ≤ 8) (d : ja_At M pc (.invokevirtual idx) 3 pc') (k : ∀ x h1, ja_D g M pc' lv (.long x :: st) h1 (K x h1)) : ja_D g M pc lv stk h (jk h i ci (jc_L r1 K)) := by
  subst hlen
  intro o e
  unfold jk at e
  split at e
  · next hs =>
    obtain ⟨q, h1, h2⟩ := Option.bind_eq_some_iff.mp e
    exact ja_callV g9 hin hsel hci hs hd (hM q h1) hst hw d (k q.1 q.2 o h2)
  · cases e
theorem jd_callSV {α : Type} {g : α → List Value × ja_H} {M : ja_Mt} {pc pc' : Nat} {lv : List (Option Value)} {st : List Value} {h : ja_H} {idx maxL n : Nat} {d0 : Nat × Nat} {y : MethodName} {bytes : ByteArray} {rt : Option FieldType} {nest : Option String} {stk as : List Value}  {r1 : Option (ja_H)} {K : ja_H → Option α} (g9 : ja_G M.1 idx y bytes maxL rt n nest) (hst9 : Cond.static y ∈ ja_all) (hM : ∀ q, r1 = some q → ja_M d0 y bytes maxL rt as h [] q) (hlen : as.length = n) (hd : d0.1 + 1 ≤ M.2.2.2.1.1 ∧ 8 + (maxL + 11) + d0.2 ≤ M.2.2.2.1.2) (hst : stk = as.reverse ++ st) (hw : (st.map Value.category).sum ≤ 8) (d : ja_At M pc (.invokestatic idx) 3 pc') (k : ∀ h1, ja_D g M pc' lv st h1 (K h1)) : ja_D g M pc lv stk h (jc_V r1 K) := by
  subst hlen
  intro o e
  obtain ⟨q, h1, h2⟩ := Option.bind_eq_some_iff.mp e
  exact ja_callS g9 hst9 hd (hM q h1) hst hw d (k q o h2)
theorem jd_callSI {α : Type} {g : α → List Value × ja_H} {M : ja_Mt} {pc pc' : Nat} {lv : List (Option Value)} {st : List Value} {h : ja_H} {idx maxL n : Nat} {d0 : Nat × Nat} {y : MethodName} {bytes : ByteArray} {rt : Option FieldType} {nest : Option String} {stk as : List Value}  {r1 : Option (Int32 × ja_H)} {K : Int32 → ja_H → Option α} (g9 : ja_G M.1 idx y bytes maxL rt n nest) (hst9 : Cond.static y ∈ ja_all) (hM : ∀ q, r1 = some q → ja_M d0 y bytes maxL rt as h [.int q.1] q.2) (hlen : as.length = n) (hd : d0.1 + 1 ≤ M.2.2.2.1.1 ∧ 8 + (maxL + 11) + d0.2 ≤ M.2.2.2.1.2) (hst : stk = as.reverse ++ st) (hw : (st.map Value.category).sum ≤ 8) (d : ja_At M pc (.invokestatic idx) 3 pc') (k : ∀ x h1, ja_D g M pc' lv (.int x :: st) h1 (K x h1)) : ja_D g M pc lv stk h (jc_I r1 K) := by
  subst hlen
  intro o e
  obtain ⟨q, h1, h2⟩ := Option.bind_eq_some_iff.mp e
  exact ja_callS g9 hst9 hd (hM q h1) hst hw d (k q.1 q.2 o h2)
theorem jd_callSL {α : Type} {g : α → List Value × ja_H} {M : ja_Mt} {pc pc' : Nat} {lv : List (Option Value)} {st : List Value} {h : ja_H} {idx maxL n : Nat} {d0 : Nat × Nat} {y : MethodName} {bytes : ByteArray} {rt : Option FieldType} {nest : Option String} {stk as : List Value}  {r1 : Option (Int64 × ja_H)} {K : Int64 → ja_H → Option α} (g9 : ja_G M.1 idx y bytes maxL rt n nest) (hst9 : Cond.static y ∈ ja_all) (hM : ∀ q, r1 = some q → ja_M d0 y bytes maxL rt as h [.long q.1] q.2) (hlen : as.length = n) (hd : d0.1 + 1 ≤ M.2.2.2.1.1 ∧ 8 + (maxL + 11) + d0.2 ≤ M.2.2.2.1.2) (hst : stk = as.reverse ++ st) (hw : (st.map Value.category).sum ≤ 8) (d : ja_At M pc (.invokestatic idx) 3 pc') (k : ∀ x h1, ja_D g M pc' lv (.long x :: st) h1 (K x h1)) : ja_D g M pc lv stk h (jc_L r1 K) := by
  subst hlen
  intro o e
  obtain ⟨q, h1, h2⟩ := Option.bind_eq_some_iff.mp e
  exact ja_callS g9 hst9 hd (hM q h1) hst hw d (k q.1 q.2 o h2)
theorem jd_callIV {α : Type} {g : α → List Value × ja_H} {M : ja_Mt} {pc pc' : Nat} {lv : List (Option Value)} {st : List Value} {h : ja_H} {idx maxL n : Nat} {d0 : Nat × Nat} {y : MethodName} {bytes : ByteArray} {rt : Option FieldType} {nest : Option String} {stk as : List Value} {i : Nat} {r1 : Option (ja_H)} {K : ja_H → Option α} (g9 : ja_G M.1 idx y bytes maxL rt n nest) (hin : Cond.instanceMethod y ∈ ja_all) (hyi : y.name = "<init>") (hrt : rt = none) (hM : ∀ q, r1 = some q → ja_M d0 y bytes maxL rt (.ref i :: as) h [] q) (hlen : as.length = n) (hd : d0.1 + 1 ≤ M.2.2.2.1.1 ∧ 8 + (maxL + 11) + d0.2 ≤ M.2.2.2.1.2) (hst : stk = as.reverse ++ .ref i :: st) (hw : (st.map Value.category).sum ≤ 8) (d : ja_At M pc (.invokespecial idx) 3 pc') (k : ∀ h1, ja_D g M pc' lv st h1 (K h1)) : ja_D g M pc lv stk h (jc_V r1 K) := by
  subst hlen
  intro o e
  obtain ⟨q, h1, h2⟩ := Option.bind_eq_some_iff.mp e
  exact ja_callI g9 hin hyi hrt hd (hM q h1) hst hw d (k q o h2)
theorem jd_return {M : ja_Mt} {pc pc' : Nat} {lv : List (Option Value)} {h : ja_H} (d : ja_At M pc .return_ 1 pc') (hm : M.2.2.2.2.2.1 = none) : ja_D ja_gV M pc lv [] h (some h) := by
  intro o e
  cases e
  exact ja_return d hm rfl
theorem jd_ireturn {M : ja_Mt} {pc pc' : Nat} {lv : List (Option Value)} {h : ja_H} {x : Int32} (d : ja_At M pc .ireturn 1 pc') (hm : M.2.2.2.2.2.1 = some .int) : ja_D ja_gI M pc lv [.int x] h (some (x, h)) := by
  intro o e
  cases e
  exact ja_ireturn d hm rfl rfl rfl
theorem jd_zreturn {M : ja_Mt} {pc pc' : Nat} {lv : List (Option Value)} {h : ja_H} {x : Int32} (d : ja_At M pc .ireturn 1 pc') (hm : M.2.2.2.2.2.1 = some .boolean) : ja_D ja_gI M pc lv [.int x] h (jb x (some (x, h))) := by
  intro o e
  unfold jb at e
  split at e
  · next hx =>
    cases e
    exact ja_ireturn (y := x) d hm (by rcases hx with rfl | rfl <;> decide) rfl rfl
  · cases e
theorem jd_lreturn {M : ja_Mt} {pc pc' : Nat} {lv : List (Option Value)} {h : ja_H} {x : Int64} (d : ja_At M pc .lreturn 1 pc') (hm : M.2.2.2.2.2.1 = some .long) : ja_D ja_gL M pc lv [.long x] h (some (x, h)) := by
  intro o e
  cases e
  exact ja_lreturn d hm rfl rfl
theorem jd_returnX {M : ja_Mt} {pc pc' : Nat} {lv : List (Option Value)} {h : ja_H} (d : ja_At M pc .return_ 1 pc') (hm : M.2.2.2.2.2.1 = none) : ja_D ja_gX M pc lv [] h (some ([], h)) := by
  intro o e
  cases e
  exact ja_return d hm rfl
theorem jd_ireturnX {M : ja_Mt} {pc pc' : Nat} {lv : List (Option Value)} {h : ja_H} {x : Int32} (d : ja_At M pc .ireturn 1 pc') (hm : M.2.2.2.2.2.1 = some .int) : ja_D ja_gX M pc lv [.int x] h (some ([.int x], h)) := by
  intro o e
  cases e
  exact ja_ireturn d hm rfl rfl rfl
theorem jd_lreturnX {M : ja_Mt} {pc pc' : Nat} {lv : List (Option Value)} {h : ja_H} {x : Int64} (d : ja_At M pc .lreturn 1 pc') (hm : M.2.2.2.2.2.1 = some .long) : ja_D ja_gX M pc lv [.long x] h (some ([.long x], h)) := by
  intro o e
  cases e
  exact ja_lreturn d hm rfl rfl
theorem jd_throw {M : ja_Mt} {pc : Nat} {lv : List (Option Value)} {h : ja_H} : ja_D ja_gX M pc lv [] h (some ([.retAddr pc], h)) := by
  intro o e
  cases e
  exact ja_throw rfl
def ja_ways {α : Type} (g : α → List Value × ja_H) (M : ja_Mt) (lv : List (Option Value)) (st : List Value) (h : ja_H) : List Nat → List (Option α) → Prop
  | t :: ts, a :: as => ja_D g M t lv st h a ∧ ja_ways g M lv st h ts as
  | [], [] => True
  | _, _ => False
theorem jsw_cases {α : Type} {g : α → List Value × ja_H} {M : ja_Mt} {lv : List (Option Value)} {st : List Value} {h : ja_H} {x : Int32} {o : α} {d : Option α} : ∀ (vs : List Int32) (ts : List Nat) (as : List (Option α)), vs.length = ts.length → ja_ways g M lv st h ts as → jsw x vs as d = some o → (∃ (j t : Nat), vs[j]? = some x ∧ ts[j]? = some t ∧ ja_J M t lv st h (g o).1 (g o).2) ∨ ((∀ v ∈ vs, x ≠ v) ∧ d = some o)
  | [], _, as, _, _, e => by
    right
    refine ⟨by simp, ?_⟩
    cases as <;> exact e
  | v :: vs, [], as, hl, _, _ => by simp at hl
  | v :: vs, t :: ts, [], _, hw, _ => by cases hw
  | v :: vs, t :: ts, a :: as, hl, hw, e => by
    simp only [jsw] at e
    split at e
    · next hx =>
      left
      exact ⟨0, t, by simp [hx], by simp, hw.1 o e⟩
    · next hx =>
      rcases jsw_cases vs ts as (by simpa using hl) hw.2 e with ⟨j, t', h1, h2, h3⟩ | ⟨h1, h2⟩
      · left
        exact ⟨j + 1, t', by simpa using h1, by simpa using h2, h3⟩
      · right
        refine ⟨fun u hu => ?_, h2⟩
        rcases List.mem_cons.mp hu with rfl | hu
        · exact hx
        · exact h1 u hu
theorem jd_ts {α : Type} {g : α → List Value × ja_H} {M : ja_Mt} {pc pc' : Nat} {lv : List (Option Value)} {st : List Value} {h : ja_H} {dflt lo hi : Int} {offs : Array Int} {len : Nat} {x : Int32} {D0 : Option α} {as : List (Option α)} (tgt : Nat) (vs : List Int32) (ts : List Nat) (d : ja_At M pc (.tableswitch dflt lo hi offs) len pc') (hl : vs.length = ts.length) (hv0 : ∀ j : Fin vs.length, vs[j.val].toInt = lo + (j.val : Int) ∧ offs[j.val]? = (ts[j.val]?).map (fun t => (t : Int) - (pc : Int))) (hn : lo + vs.length = hi + 1) (ht : (pc : Int) + dflt = (tgt : Int)) (kd : ja_D g M tgt lv st h D0) (kw : ja_ways g M lv st h ts as) : ja_D g M pc lv (.int x :: st) h (jsw x vs as D0) := by
  have hv : ∀ j : Nat, j < vs.length → ∀ v t, vs[j]? = some v → ts[j]? = some t → v.toInt = lo + j ∧ offs[j]? = some ((t : Int) - pc) := by
    intro j hj v t h1 h2
    obtain ⟨a1, a2⟩ := hv0 ⟨j, hj⟩
    rw [List.getElem?_eq_getElem hj] at h1
    cases h1
    rw [h2] at a2
    exact ⟨a1, a2⟩
  intro o e
  rcases jsw_cases vs ts as hl kw e with ⟨j, t, h1, h2, h3⟩ | ⟨h1, h2⟩
  · have hj := (List.getElem?_eq_some_iff.mp h1).1
    obtain ⟨a1, a2⟩ := hv j hj x t h1 h2
    refine ja_tsIn (off := (t : Int) - pc) d x rfl (by omega) (by omega) ?_ (by omega) h3
    rw [show (x.toInt - lo).toNat = j by omega]
    exact a2
  · refine ja_tsOut d ?_ ht (kd o h2)
    apply Classical.byContradiction
    intro hx
    have hx1 : ¬ x.toInt < lo := fun q => hx (Or.inl q)
    have hx2 : ¬ hi < x.toInt := fun q => hx (Or.inr q)
    have hj : (x.toInt - lo).toNat < vs.length := by omega
    have hjt : (x.toInt - lo).toNat < ts.length := by omega
    obtain ⟨a1, a2⟩ := hv _ hj _ _ (List.getElem?_eq_getElem hj) (List.getElem?_eq_getElem hjt)
    have e1 : x = vs[(x.toInt - lo).toNat] := Int32.toInt_inj.mp (by rw [a1]; omega)
    exact h1 _ (List.getElem_mem hj) e1
theorem ja_ls_none {z d : Int} : ∀ {l : List (Int × Int)}, (∀ q ∈ l, q.1 ≠ z) → Op.lookupswitch.offset l d z = d
  | [], _ => rfl
  | (a, o) :: r, h => by
    rw [Op.lookupswitch.offset_cons, if_neg (h (a, o) List.mem_cons_self)]
    exact ja_ls_none (fun q hq => h q (List.mem_cons_of_mem _ hq))
theorem jd_ls {α : Type} {g : α → List Value × ja_H} {M : ja_Mt} {pc pc' : Nat} {lv : List (Option Value)} {st : List Value} {h : ja_H} {dflt : Int} {ps : Array (Int × Int)} {len : Nat} {x : Int32} {D0 : Option α} {as : List (Option α)} (tgt : Nat) (vs : List Int32) (ts : List Nat) (d : ja_At M pc (.lookupswitch dflt ps) len pc') (hp : (ps.toList.zip (ps.toList.drop 1)).all (fun (a, next) => a.1 < next.1) = true) (hl : vs.length = ts.length) (hv0 : ∀ j : Fin vs.length, (ts[j.val]?).map (fun t => (t : Int) - (pc : Int)) = some (Op.lookupswitch.offset ps.toList dflt vs[j.val].toInt)) (hks : ps.toList.map (fun q => q.1) = vs.map Int32.toInt) (ht : (pc : Int) + dflt = (tgt : Int)) (kd : ja_D g M tgt lv st h D0) (kw : ja_ways g M lv st h ts as) : ja_D g M pc lv (.int x :: st) h (jsw x vs as D0) := by
  have hv : ∀ j : Nat, j < vs.length → ∀ v t, vs[j]? = some v → ts[j]? = some t → Op.lookupswitch.offset ps.toList dflt v.toInt = (t : Int) - pc := by
    intro j hj v t h1 h2
    have a2 := hv0 ⟨j, hj⟩
    rw [List.getElem?_eq_getElem hj] at h1
    cases h1
    rw [h2] at a2
    exact (Option.some.inj a2).symm
  intro o e
  rcases jsw_cases vs ts as hl kw e with ⟨j, t, h1, h2, h3⟩ | ⟨h1, h2⟩
  · have hj := (List.getElem?_eq_some_iff.mp h1).1
    exact ja_lsw (off := (t : Int) - pc) d hp (hv j hj x t h1 h2) (by omega) h3
  · refine ja_lsw (off := dflt) d hp (ja_ls_none (fun q hq e9 => ?_)) ht (kd o h2)
    have : q.1 ∈ ps.toList.map (fun q => q.1) := List.mem_map.mpr ⟨q, hq, rfl⟩
    rw [hks] at this
    obtain ⟨v, hv1, hv2⟩ := List.mem_map.mp this
    exact h1 v hv1 (Int32.toInt_inj.mp (by rw [hv2, e9]))
theorem ja_copyI {M : ja_Mt} {pc pc' : Nat} {lv : List (Option Value)} {st : List Value} {h : ja_H} {ret : List Value} {hf : ja_H} {a b n0 n1 idx : Nat} {sp dp n : Int32} (hlk : Cond.methodLink M.1 idx arraycopyName ∈ ja_all) (hna : Cond.native arraycopyName ∈ ja_all) (hsc : Cond.static arraycopyName ∈ ja_all) (hin : Cond.initialized "java/lang/System" ∈ ja_all) (hd : 1 ≤ M.2.2.2.1.1 ∧ 26 ≤ M.2.2.2.1.2) (hw : (st.map Value.category).sum ≤ 8) (hnw : nativeFrameWords "java/lang/System" "arraycopy" 5 ≤ 7) (ha : h.1[a]? = some (.inr (0, n0))) (hb : h.1[b]? = some (.inr (0, n1))) (h1 : ¬ sp < 0) (h2 : ¬ dp < 0) (h3 : ¬ n < 0) (h4 : sp.toNatClampNeg + n.toNatClampNeg ≤ n0) (h5 : dp.toNatClampNeg + n.toNatClampNeg ≤ n1) (d : ja_At M pc (.invokestatic idx) 3 pc') (k : ja_J M pc' lv st (ja_cpI h a b sp.toNatClampNeg dp.toNatClampNeg n.toNatClampNeg) ret hf) : ja_J M pc lv (.int n :: .int dp :: .ref b :: .int sp :: .ref a :: st) h ret hf := by
  obtain ⟨d, rfl⟩ := d
  refine ⟨k.1, fun q => k.2.1 ⟨q.1, q.2.1, q.2.2.2.2⟩, fun p l e R s m args below meth c Q D aC A kc ks H ls locs cells slots ads hC hS hV hE => ?_⟩
  have hR := hC.2.2.2.2.2.2.2.2.1
  refine va_copyi hC.1 hC.2.1 (hC.2.2.1.trans hS.1.1.symm) hC.2.2.2.1 (hC.2.2.2.2.1 _ hlk) (hC.2.2.2.2.1 _ hna) (hC.2.2.2.2.1 _ hsc) (hC.2.2.2.2.1 _ hin) hC.2.2.2.2.2.1 hS.2.1 hS.2.2.1 hS.2.2.2.1 a b 0 0 (ja_wl_arr ha) (ja_wl_arr hb) rfl rfl rfl h1 h2 h3 h4 h5 (fun _ _ => rfl) (by omega) ?_ d (fun H1 locs1 hP hD hSS => ?_)
  · rw [ja_cv_sum]
    omega
  · have e1 : (ja_wl aC ads h).set b (ads b, .inl (aC 0, n1, .inl (va_cpy (h.2.1 a) (h.2.1 b) sp.toNatClampNeg dp.toNatClampNeg n.toNatClampNeg))) = ja_wl aC ads (ja_cpI h a b sp.toNatClampNeg dp.toNatClampNeg n.toNatClampNeg) := by
      refine ja_wl_set rfl (ja_lt hb) (fun j hj => ja_ce_congr rfl (by funext z; simp [ja_cpI, hj]) rfl rfl) ?_
      simp only [ja_ce, ja_cpI, hb, ja_ar, if_pos]
    rw [e1] at hP hD
    exact k.2.2 p l e R s m args below meth c Q D aC A kc ks H1 ls locs1 cells slots ads hC ⟨hS.1, hP, hD, hSS, hS.2.2.2.2.1, hS.2.2.2.2.2⟩ ⟨hV.1, hV.2.1, hV.2.2.2.2⟩ hE
theorem jd_copyI {α : Type} {g : α → List Value × ja_H} {M : ja_Mt} {pc pc' : Nat} {lv : List (Option Value)} {st : List Value} {h : ja_H} {a b idx : Nat} {sp dp n : Int32} {K : ja_H → Option α} (hlk : Cond.methodLink M.1 idx arraycopyName ∈ ja_all) (hna : Cond.native arraycopyName ∈ ja_all) (hsc : Cond.static arraycopyName ∈ ja_all) (hin : Cond.initialized "java/lang/System" ∈ ja_all) (hd : 1 ≤ M.2.2.2.1.1 ∧ 26 ≤ M.2.2.2.1.2) (hw : (st.map Value.category).sum ≤ 8) (d : ja_At M pc (.invokestatic idx) 3 pc') (k : ∀ h1, ja_D g M pc' lv st h1 (K h1)) : ja_D g M pc lv (.int n :: .int dp :: .ref b :: .int sp :: .ref a :: st) h (jy_I h a sp b dp n K) := by
  intro o e
  unfold jy_I jy_ok at e
  obtain ⟨n0, q1, e⟩ := Option.bind_eq_some_iff.mp e
  obtain ⟨n1, q2, e⟩ := Option.bind_eq_some_iff.mp e
  split at e
  · next hx =>
    obtain ⟨h1, h2, h3, h4, h5⟩ := hx
    exact ja_copyI hlk hna hsc hin hd hw (by decide) (jn_some q1) (jn_some q2) h1 h2 h3 h4 h5 d (k _ o e)
  · cases e
theorem ja_copyL {M : ja_Mt} {pc pc' : Nat} {lv : List (Option Value)} {st : List Value} {h : ja_H} {ret : List Value} {hf : ja_H} {a b n0 n1 idx : Nat} {sp dp n : Int32} (hlk : Cond.methodLink M.1 idx arraycopyName ∈ ja_all) (hna : Cond.native arraycopyName ∈ ja_all) (hsc : Cond.static arraycopyName ∈ ja_all) (hin : Cond.initialized "java/lang/System" ∈ ja_all) (hd : 1 ≤ M.2.2.2.1.1 ∧ 26 ≤ M.2.2.2.1.2) (hw : (st.map Value.category).sum ≤ 8) (hnw : nativeFrameWords "java/lang/System" "arraycopy" 5 ≤ 7) (ha : h.1[a]? = some (.inr (1, n0))) (hb : h.1[b]? = some (.inr (1, n1))) (h1 : ¬ sp < 0) (h2 : ¬ dp < 0) (h3 : ¬ n < 0) (h4 : sp.toNatClampNeg + n.toNatClampNeg ≤ n0) (h5 : dp.toNatClampNeg + n.toNatClampNeg ≤ n1) (d : ja_At M pc (.invokestatic idx) 3 pc') (k : ja_J M pc' lv st (ja_cpL h a b sp.toNatClampNeg dp.toNatClampNeg n.toNatClampNeg) ret hf) : ja_J M pc lv (.int n :: .int dp :: .ref b :: .int sp :: .ref a :: st) h ret hf := by
  obtain ⟨d, rfl⟩ := d
  refine ⟨k.1, fun q => k.2.1 ⟨q.1, q.2.1, q.2.2.2.2⟩, fun p l e R s m args below meth c Q D aC A kc ks H ls locs cells slots ads hC hS hV hE => ?_⟩
  have hR := hC.2.2.2.2.2.2.2.2.1
  refine va_copyl hC.1 hC.2.1 (hC.2.2.1.trans hS.1.1.symm) hC.2.2.2.1 (hC.2.2.2.2.1 _ hlk) (hC.2.2.2.2.1 _ hna) (hC.2.2.2.2.1 _ hsc) (hC.2.2.2.2.1 _ hin) hC.2.2.2.2.2.1 hS.2.1 hS.2.2.1 hS.2.2.2.1 a b 1 1 (ja_wl_arr ha) (ja_wl_arr hb) rfl rfl rfl h1 h2 h3 h4 h5 (fun _ _ => rfl) (by omega) ?_ d (fun H1 locs1 hP hD hSS => ?_)
  · rw [ja_cv_sum]
    omega
  · have e1 : (ja_wl aC ads h).set b (ads b, .inl (aC 1, n1, .inr (.inl (va_cpy (h.2.2.1 a) (h.2.2.1 b) sp.toNatClampNeg dp.toNatClampNeg n.toNatClampNeg)))) = ja_wl aC ads (ja_cpL h a b sp.toNatClampNeg dp.toNatClampNeg n.toNatClampNeg) := by
      refine ja_wl_set rfl (ja_lt hb) (fun j hj => ja_ce_congr rfl rfl (by funext z; simp [ja_cpL, hj]) rfl) ?_
      simp only [ja_ce, ja_cpL, hb, ja_ar, if_pos]
    rw [e1] at hP hD
    exact k.2.2 p l e R s m args below meth c Q D aC A kc ks H1 ls locs1 cells slots ads hC ⟨hS.1, hP, hD, hSS, hS.2.2.2.2.1, hS.2.2.2.2.2⟩ ⟨hV.1, hV.2.1, hV.2.2.2.2⟩ hE
theorem jd_copyL {α : Type} {g : α → List Value × ja_H} {M : ja_Mt} {pc pc' : Nat} {lv : List (Option Value)} {st : List Value} {h : ja_H} {a b idx : Nat} {sp dp n : Int32} {K : ja_H → Option α} (hlk : Cond.methodLink M.1 idx arraycopyName ∈ ja_all) (hna : Cond.native arraycopyName ∈ ja_all) (hsc : Cond.static arraycopyName ∈ ja_all) (hin : Cond.initialized "java/lang/System" ∈ ja_all) (hd : 1 ≤ M.2.2.2.1.1 ∧ 26 ≤ M.2.2.2.1.2) (hw : (st.map Value.category).sum ≤ 8) (d : ja_At M pc (.invokestatic idx) 3 pc') (k : ∀ h1, ja_D g M pc' lv st h1 (K h1)) : ja_D g M pc lv (.int n :: .int dp :: .ref b :: .int sp :: .ref a :: st) h (jy_L h a sp b dp n K) := by
  intro o e
  unfold jy_L jy_ok at e
  obtain ⟨n0, q1, e⟩ := Option.bind_eq_some_iff.mp e
  obtain ⟨n1, q2, e⟩ := Option.bind_eq_some_iff.mp e
  split at e
  · next hx =>
    obtain ⟨h1, h2, h3, h4, h5⟩ := hx
    exact ja_copyL hlk hna hsc hin hd hw (by decide) (jn_some q1) (jn_some q2) h1 h2 h3 h4 h5 d (k _ o e)
  · cases e
theorem jc_of {α : Type} {g : α → List Value × ja_H} {d : Nat × Nat} {y : MethodName} {bytes : ByteArray} {maxL : Nat} {rt : Option FieldType} {args : List Value} {h : ja_H} {r : Option α} {o : α} (ini : Bool) (lv : List (Option Value)) (e : r = some o) (hj : ja_D g (y.cls, bytes, maxL, d, ini, rt, none, none) 0 lv [] h r) (hlv : ja_l0 args maxL = lv) (hy : plainFor y = true) (hini : ini = true → y.name = "<init>") (hlen : (lg_sl (args.map (ja_cv (fun i => i)))).length ≤ maxL) (hno : ∀ k, (g o).1 ≠ [.retAddr k]) (hret : (g o).1.length ≤ 1) : ja_M d y bytes maxL rt args h (g o).1 (g o).2 :=
  ja_M_of ini lv hlv hy hini hlen hno hret (hj o e)
