
def ja_u {α : Type} (f : Nat → Nat → α) (i k : Nat) (x : α) : Nat → Nat → α := fun a b => if a = i ∧ b = k then x else f a b
def ja_sI (h : ja_H) (i k : Nat) (x : Int32) : ja_H := (h.1, ja_u h.2.1 i k x, h.2.2)
def ja_sL (h : ja_H) (i k : Nat) (x : Int64) : ja_H := (h.1, h.2.1, ja_u h.2.2.1 i k x, h.2.2.2)
def ja_sR (h : ja_H) (i k : Nat) (x : Option Nat) : ja_H := (h.1, h.2.1, h.2.2.1, ja_u h.2.2.2.1 i k x, h.2.2.2.2)
def ja_nw (h : ja_H) (z : ja_S) : ja_H := (h.1 ++ [z], (fun a b => if a = h.1.length then 0 else h.2.1 a b), (fun a b => if a = h.1.length then 0 else h.2.2.1 a b), (fun a b => if a = h.1.length then none else h.2.2.2.1 a b), h.2.2.2.2)
def ja_lost (h : ja_H) (c n : Nat) : ja_H := (h.1, h.2.1, h.2.2.1, h.2.2.2.1, h.2.2.2.2.1 + c, h.2.2.2.2.2 + n)
def ja_nf (c : Nat) : Nat := match vwCl[c]? with
  | some q => q.2.2
  | none => 0
def ja_at (t : Nat) : FieldType := match t with
  | 0 => .int
  | 1 => .long
  | 2 => .boolean
  | 3 => .byte
  | _ => .object ja_elem
def ja_tys (aC : Nat → ClassId) : List (ClassId × FieldType) := [(aC 0, .int), (aC 1, .long), (aC 2, .boolean), (aC 3, .byte), (aC 4, .object ja_elem)]
def ja_sl (z : ja_S) : Nat := match z with
  | .inl c => ja_nf c
  | .inr q => q.2
def ja_nc (h : ja_H) : Nat := h.1.length + h.2.2.2.2.1
def ja_ns (h : ja_H) : Nat := (h.1.map ja_sl).sum + h.2.2.2.2.2
def ja_cv (ads : Nat → Nat) (v : Value) : Value := match v with
  | .ref i => .ref (ads i)
  | .retAddr n => .ref n
  | v => v
def ja_fv (ads : Nat → Nat) (h : ja_H) (i k kd : Nat) : Value := match kd with
  | 1 => .long (h.2.2.1 i k)
  | 2 => va_rf ((h.2.2.2.1 i k).map ads)
  | _ => .int (h.2.1 i k)
def ja_fs (ads : Nat → Nat) (h : ja_H) (i c : Nat) : List Value := (List.range (ja_nf c)).map (fun k => ja_fv ads h i k (ja_kk c k))
def ja_ar (ads : Nat → Nat) (h : ja_H) (i t n : Nat) : vp_A := match t with
  | 1 => (n, .inr (.inl (h.2.2.1 i)))
  | 4 => (n, .inr (.inr (.inr (.inr (fun j => (h.2.2.2.1 i j).map ads)))))
  | _ => (n, .inl (h.2.1 i))
def ja_ce (aC : Nat → ClassId) (ads : Nat → Nat) (h : ja_H) (i : Nat) : va_E := match h.1[i]? with
  | some (.inl c) => .inr (c, ja_fs ads h i c)
  | some (.inr q) => .inl (aC q.1, ja_ar ads h i q.1 q.2)
  | none => .inr (0, [])
def ja_wl (aC : Nat → ClassId) (ads : Nat → Nat) (h : ja_H) : va_W := (List.range h.1.length).map (fun i => (ads i, ja_ce aC ads h i))
theorem ja_u_ne {α : Type} {f : Nat → Nat → α} {i k a : Nat} {x : α} (h : a ≠ i) : ja_u f i k x a = f a := by
  funext b
  simp [ja_u, h]
theorem ja_u_upd {f : Nat → Nat → Int32} {i k : Nat} {x : Int32} : ja_u f i k x i = upd (f i) k x := by
  funext b
  simp [ja_u, upd]
theorem ja_u_updL {f : Nat → Nat → Int64} {i k : Nat} {x : Int64} : ja_u f i k x i = vp_updL (f i) k x := by
  funext b
  simp [ja_u, vp_updL]
theorem ja_lt {h : ja_H} {i : Nat} {z : ja_S} (hs : h.1[i]? = some z) : i < h.1.length := (List.getElem?_eq_some_iff.mp hs).1
theorem ja_wl_get {aC : Nat → ClassId} {ads : Nat → Nat} {h : ja_H} {i : Nat} (hi : i < h.1.length) : (ja_wl aC ads h)[i]? = some (ads i, ja_ce aC ads h i) := by
  simp [ja_wl, List.getElem?_map, List.getElem?_range hi]
theorem ja_wl_obj {aC : Nat → ClassId} {ads : Nat → Nat} {h : ja_H} {i c : Nat} (hs : h.1[i]? = some (.inl c)) : (ja_wl aC ads h)[i]? = some (ads i, .inr (c, ja_fs ads h i c)) := by
  rw [ja_wl_get (ja_lt hs)]
  simp [ja_ce, hs]
theorem ja_wl_arr {aC : Nat → ClassId} {ads : Nat → Nat} {h : ja_H} {i t n : Nat} (hs : h.1[i]? = some (.inr (t, n))) : (ja_wl aC ads h)[i]? = some (ads i, .inl (aC t, ja_ar ads h i t n)) := by
  rw [ja_wl_get (ja_lt hs)]
  simp [ja_ce, hs]
theorem ja_wl_set {aC : Nat → ClassId} {ads : Nat → Nat} {h h' : ja_H} {i : Nat} {x : va_E} (hl : h'.1 = h.1) (hi : i < h.1.length) (ho : ∀ j, j ≠ i → ja_ce aC ads h' j = ja_ce aC ads h j) (hx : ja_ce aC ads h' i = x) : (ja_wl aC ads h).set i (ads i, x) = ja_wl aC ads h' := by
  apply List.ext_getElem?
  intro j
  rw [List.getElem?_set]
  by_cases hj : i = j
  · subst hj
    have h1 : i < (ja_wl aC ads h).length := by simp [ja_wl, hi]
    rw [if_pos rfl, if_pos h1, ja_wl_get (by rw [hl]; exact hi), hx]
  · rw [if_neg hj]
    by_cases h2 : j < h.1.length
    · rw [ja_wl_get h2, ja_wl_get (by rw [hl]; exact h2), ho j (fun q => hj q.symm)]
    · have h3 : (ja_wl aC ads h)[j]? = none := by simp [ja_wl]; omega
      have h4 : (ja_wl aC ads h')[j]? = none := by simp [ja_wl, hl]; omega
      rw [h3, h4]
theorem ja_ce_congr {aC : Nat → ClassId} {ads : Nat → Nat} {h h' : ja_H} {i : Nat} (hl : h'.1 = h.1) (h1 : h'.2.1 i = h.2.1 i) (h2 : h'.2.2.1 i = h.2.2.1 i) (h3 : h'.2.2.2.1 i = h.2.2.2.1 i) : ja_ce aC ads h' i = ja_ce aC ads h i := by
  have e1 : ∀ c, ja_fs ads h' i c = ja_fs ads h i c := by
    intro c
    simp only [ja_fs]
    apply List.map_congr_left
    intro k _
    simp only [ja_fv, h1, h2, h3]
  have e2 : ∀ t n, ja_ar ads h' i t n = ja_ar ads h i t n := by
    intro t n
    simp only [ja_ar, h1, h2, h3]
  simp only [ja_ce, hl]
  cases h.1[i]? with
  | none => rfl
  | some z => cases z with
    | inl c => simp only [e1]
    | inr q => simp only [e2]
theorem ja_map_set {α : Type} {n k : Nat} {f g : Nat → α} {y : α} (hg : ∀ j, j ≠ k → g j = f j) (hk : g k = y) : ((List.range n).map f).set k y = (List.range n).map g := by
  apply List.ext_getElem?
  intro j
  rw [List.getElem?_set]
  by_cases hj : k = j
  · subst hj
    rw [if_pos rfl]
    by_cases h : k < n
    · simp [h, hk]
    · simp [h]
  · rw [if_neg hj]
    by_cases h : j < n
    · simp [h, hg j (fun q => hj q.symm)]
    · simp [h]
theorem ja_fs_get {ads : Nat → Nat} {h : ja_H} {i c k : Nat} (hk : k < ja_nf c) : (ja_fs ads h i c)[k]? = some (ja_fv ads h i k (ja_kk c k)) := by
  simp [ja_fs, List.getElem?_map, List.getElem?_range hk]
theorem ja_fs_len {ads : Nat → Nat} {h : ja_H} {i c : Nat} : (ja_fs ads h i c).length = ja_nf c := by
  simp [ja_fs]
theorem ja_fs_setI {ads : Nat → Nat} {h : ja_H} {i c k : Nat} {x : Int32} (hk : ja_kk c k = 0) : (ja_fs ads h i c).set k (.int x) = ja_fs ads (ja_sI h i k x) i c := by
  refine ja_map_set (fun j hj => ?_) ?_
  · simp [ja_fv, ja_sI, ja_u, hj]
  · simp [ja_fv, ja_sI, ja_u, hk]
theorem ja_fs_setL {ads : Nat → Nat} {h : ja_H} {i c k : Nat} {x : Int64} (hk : ja_kk c k = 1) : (ja_fs ads h i c).set k (.long x) = ja_fs ads (ja_sL h i k x) i c := by
  refine ja_map_set (fun j hj => ?_) ?_
  · simp [ja_fv, ja_sL, ja_u, hj]
  · simp [ja_fv, ja_sL, ja_u, hk]
theorem ja_fs_setR {ads : Nat → Nat} {h : ja_H} {i c k : Nat} {x : Option Nat} (hk : ja_kk c k = 2) : (ja_fs ads h i c).set k (va_rf (x.map ads)) = ja_fs ads (ja_sR h i k x) i c := by
  refine ja_map_set (fun j hj => ?_) ?_
  · simp [ja_fv, ja_sR, ja_u, hj]
  · simp [ja_fv, ja_sR, ja_u, hk]
theorem ja_wl_setI {aC : Nat → ClassId} {ads : Nat → Nat} {h : ja_H} {i k : Nat} {x : Int32} {y : va_E} (hi : i < h.1.length) (hx : ja_ce aC ads (ja_sI h i k x) i = y) : (ja_wl aC ads h).set i (ads i, y) = ja_wl aC ads (ja_sI h i k x) :=
  ja_wl_set rfl hi (fun _ hj => ja_ce_congr rfl (ja_u_ne hj) rfl rfl) hx
theorem ja_wl_setL {aC : Nat → ClassId} {ads : Nat → Nat} {h : ja_H} {i k : Nat} {x : Int64} {y : va_E} (hi : i < h.1.length) (hx : ja_ce aC ads (ja_sL h i k x) i = y) : (ja_wl aC ads h).set i (ads i, y) = ja_wl aC ads (ja_sL h i k x) :=
  ja_wl_set rfl hi (fun _ hj => ja_ce_congr rfl rfl (ja_u_ne hj) rfl) hx
theorem ja_wl_setR {aC : Nat → ClassId} {ads : Nat → Nat} {h : ja_H} {i k : Nat} {x : Option Nat} {y : va_E} (hi : i < h.1.length) (hx : ja_ce aC ads (ja_sR h i k x) i = y) : (ja_wl aC ads h).set i (ads i, y) = ja_wl aC ads (ja_sR h i k x) :=
  ja_wl_set rfl hi (fun _ hj => ja_ce_congr rfl rfl rfl (ja_u_ne hj)) hx
def ja_vs (n : Nat) : List Value → Prop
  | [] => True
  | .ref r :: st => r < n ∧ ja_vs n st
  | .int _ :: st => ja_vs n st
  | .long _ :: st => ja_vs n st
  | .float _ :: st => ja_vs n st
  | .double _ :: st => ja_vs n st
  | .null :: st => ja_vs n st
  | .retAddr _ :: st => ja_vs n st
def ja_V (h : ja_H) (lv : List (Option Value)) (st : List Value) : Prop := (∀ i k r, h.2.2.2.1 i k = some r → r < h.1.length) ∧ (∀ (i r : Nat), lv[i]? = some (some (.ref r)) → r < h.1.length) ∧ ja_vs h.1.length st
theorem ja_vs_iff {n : Nat} {st : List Value} : ja_vs n st ↔ ∀ r, Value.ref r ∈ st → r < n := by
  induction st with
  | nil => simp [ja_vs]
  | cons v t ih => cases v <;> simp [ja_vs, ih]
theorem ja_vs_mono {n n' : Nat} {st : List Value} (hn : n ≤ n') (h : ja_vs n st) : ja_vs n' st := ja_vs_iff.mpr (fun r hr => Nat.lt_of_lt_of_le (ja_vs_iff.mp h r hr) hn)
theorem ja_vs_app {n : Nat} {a b : List Value} : ja_vs n (a ++ b) ↔ ja_vs n a ∧ ja_vs n b := by
  simp only [ja_vs_iff, List.mem_append]
  constructor
  · exact fun h => ⟨fun r hr => h r (Or.inl hr), fun r hr => h r (Or.inr hr)⟩
  · rintro ⟨h1, h2⟩ r (hr | hr)
    · exact h1 r hr
    · exact h2 r hr
theorem ja_vs_rev {n : Nat} {a : List Value} : ja_vs n a.reverse ↔ ja_vs n a := by
  simp only [ja_vs_iff, List.mem_reverse]
theorem ja_cv_map {ads ads' : Nat → Nat} {n : Nat} (ha : ∀ i, i < n → ads' i = ads i) {st : List Value} (h : ja_vs n st) : st.map (ja_cv ads') = st.map (ja_cv ads) := by
  apply List.map_congr_left
  intro v hv
  cases v with
  | ref r => simp only [ja_cv]; rw [ha r (ja_vs_iff.mp h r hv)]
  | _ => rfl
theorem ja_cv_cat {ads : Nat → Nat} {v : Value} : (ja_cv ads v).category = v.category := by cases v <;> rfl
theorem ja_cv_sum {ads : Nat → Nat} {st : List Value} : ((st.map (ja_cv ads)).map fun v => v.category).sum = (st.map Value.category).sum := by
  rw [List.map_map]
  congr 1
  apply List.map_congr_left
  intro v _
  exact ja_cv_cat
def ja_lp (ads : Nat → Nat) (lv : List (Option Value)) : List (Nat × Value) := (List.range lv.length).filterMap (fun i => match lv[i]? with
  | some (some v) => some (i, ja_cv ads v)
  | _ => none)
def ja_lv (ads : Nat → Nat) (ls : Array Slot) (nL : Nat) (lv : List (Option Value)) : Prop := ls.size = nL ∧ lv_wf ls ∧ ∀ (i : Nat) (v : Value), lv[i]? = some (some v) → ls[i]? = some (.val (ja_cv ads v))
theorem ja_lp_mem {ads : Nat → Nat} {lv : List (Option Value)} {i : Nat} {v : Value} (h : lv[i]? = some (some v)) : (i, ja_cv ads v) ∈ ja_lp ads lv := by
  refine List.mem_filterMap.mpr ⟨i, List.mem_range.mpr (List.getElem?_eq_some_iff.mp h).1, ?_⟩
  simp [h]
theorem ja_lp_of {ads : Nat → Nat} {lv : List (Option Value)} {q : Nat × Value} (h : q ∈ ja_lp ads lv) : ∃ v, lv[q.1]? = some (some v) ∧ q.2 = ja_cv ads v := by
  obtain ⟨i, -, hi⟩ := List.mem_filterMap.mp h
  split at hi
  · next v hv =>
    cases hi
    exact ⟨v, hv, rfl⟩
  · cases hi
theorem ja_lv_has {ads : Nat → Nat} {ls : Array Slot} {nL : Nat} {lv : List (Option Value)} (h : ja_lv ads ls nL lv) : lv_has ls nL (ja_lp ads lv) := by
  refine ⟨h.1, h.2.1, fun q hq => ?_⟩
  obtain ⟨v, hv, e⟩ := ja_lp_of hq
  rw [e]
  exact h.2.2 q.1 v hv
def ja_ok (lv : List (Option Value)) (i : Nat) : Bool := match i with
  | 0 => true
  | j + 1 => match lv[j]? with
    | some (some v) => v.category != 2
    | _ => true
theorem ja_ok_ne {lv : List (Option Value)} {i j : Nat} {v : Value} (h : ja_ok lv i = true) (hj : j + 1 = i) (hv : lv[j]? = some (some v)) : ¬ v.category = 2 := by
  subst hj
  simp only [ja_ok, hv] at h
  simpa using h
theorem ja_lv_set1 {ads : Nat → Nat} {ls' : Array Slot} {nL i : Nat} {lv : List (Option Value)} {x : Value} (hok : ja_ok lv i = true) (h : lv_has ls' nL ((i, ja_cv ads x) :: (ja_lp ads lv).filter (fun q => !(q.1 == i) && !(q.1 + 1 == i && q.2.category == 2)))) : ja_lv ads ls' nL (lv.set i (some x)) := by
  refine ⟨h.1, h.2.1, fun j v hj => ?_⟩
  rw [List.getElem?_set] at hj
  by_cases e : i = j
  · subst e
    rw [if_pos rfl] at hj
    split at hj
    · cases hj
      exact h.2.2 (i, ja_cv ads x) List.mem_cons_self
    · cases hj
  · rw [if_neg e] at hj
    refine h.2.2 (j, ja_cv ads v) (List.mem_cons_of_mem _ (List.mem_filter.mpr ⟨ja_lp_mem hj, ?_⟩))
    have h1 : ¬ j = i := fun q => e q.symm
    simp only [Bool.and_eq_true, Bool.not_eq_true', beq_eq_false_iff_ne, ne_eq, Bool.and_eq_false_iff, ja_cv_cat]
    refine ⟨h1, ?_⟩
    by_cases h2 : j + 1 = i
    · exact Or.inr (ja_ok_ne hok h2 hj)
    · exact Or.inl h2
theorem ja_lv_set2 {ads : Nat → Nat} {ls' : Array Slot} {nL i : Nat} {lv : List (Option Value)} {x : Value} (hok : ja_ok lv i = true) (h : lv_has ls' nL ((i, ja_cv ads x) :: (ja_lp ads lv).filter (fun q => !(q.1 == i) && (!(q.1 == i + 1) && !(q.1 + 1 == i && q.2.category == 2))))) : ja_lv ads ls' nL ((lv.set i (some x)).set (i + 1) none) := by
  refine ⟨h.1, h.2.1, fun j v hj => ?_⟩
  rw [List.getElem?_set] at hj
  by_cases e2 : i + 1 = j
  · subst e2
    rw [if_pos rfl] at hj
    split at hj <;> cases hj
  rw [if_neg e2, List.getElem?_set] at hj
  by_cases e : i = j
  · subst e
    rw [if_pos rfl] at hj
    split at hj
    · cases hj
      exact h.2.2 (i, ja_cv ads x) List.mem_cons_self
    · cases hj
  · rw [if_neg e] at hj
    refine h.2.2 (j, ja_cv ads v) (List.mem_cons_of_mem _ (List.mem_filter.mpr ⟨ja_lp_mem hj, ?_⟩))
    have h1 : ¬ j = i := fun q => e q.symm
    have h3 : ¬ j = i + 1 := fun q => e2 q.symm
    simp only [Bool.and_eq_true, Bool.not_eq_true', beq_eq_false_iff_ne, ne_eq, Bool.and_eq_false_iff, ja_cv_cat]
    refine ⟨h1, h3, ?_⟩
    by_cases h2 : j + 1 = i
    · exact Or.inr (ja_ok_ne hok h2 hj)
    · exact Or.inl h2
theorem ja_lv_ads {ads ads' : Nat → Nat} {ls : Array Slot} {nL n : Nat} {lv : List (Option Value)} (ha : ∀ i, i < n → ads' i = ads i) (hv : ∀ (i r : Nat), lv[i]? = some (some (.ref r)) → r < n) (h : ja_lv ads ls nL lv) : ja_lv ads' ls nL lv := by
  refine ⟨h.1, h.2.1, fun i v hi => ?_⟩
  rw [h.2.2 i v hi]
  cases v with
  | ref r => simp only [ja_cv]; rw [ha r (hv i r hi)]
  | _ => rfl
theorem ja_lvv_set {lv : List (Option Value)} {i n : Nat} {x : Option Value} (hx : ∀ r, x = some (.ref r) → r < n) (h : ∀ (i r : Nat), lv[i]? = some (some (.ref r)) → r < n) : ∀ (j r : Nat), (lv.set i x)[j]? = some (some (.ref r)) → r < n := by
  intro j r hj
  rw [List.getElem?_set] at hj
  by_cases e : i = j
  · rw [if_pos e] at hj
    split at hj
    · exact hx r (Option.some.inj hj)
    · cases hj
  · rw [if_neg e] at hj
    exact h j r hj
def ja_N (U : State) : Prop := (∀ q ∈ ja_nfl, va_Nw (.fieldLinkNest q.1 q.2.1 q.2.2.1 q.2.2.2.1 q.2.2.2.2.1 q.2.2.2.2.2) U) ∧ (∀ q ∈ ja_nml, va_Nw (.methodLinkNest q.1 q.2.1 q.2.2.1 q.2.2.2) U) ∧ va_AO ja_elem U
theorem ja_N.same {u U : State} (h : u.vm = U.vm) (hN : ja_N u) : ja_N U := ⟨fun q hq => va_Nw.same rfl h (hN.1 q hq), fun q hq => va_Nw.same rfl h (hN.2.1 q hq), va_AO.moved (by rw [h]; exact Vm.Alike.refl _) hN.2.2⟩
theorem ja_N.warm {u U : State} (h : u.WarmedH U.vm) (hN : ja_N u) : ja_N U := ⟨fun q hq => va_Nw.warmF h (hN.1 q hq), fun q hq => va_Nw.warmM h (hN.2.1 q hq), va_AO.moved h.alike hN.2.2⟩
def ja_x1 : String := "java/lang/IndexOutOfBoundsException"
def ja_x2 : String := "java/lang/IllegalArgumentException"
def ja_x3 : String := "java/lang/IllegalStateException"
def ja_isr : List Cond := [.isRef (.static Bundle.tN "UNASSIGNED_STACK" Bundle.steD), .isRef (.static Bundle.tN "SUPPRESSED_SENTINEL" Bundle.listD), .laysStatic Bundle.tN "UNASSIGNED_STACK" Bundle.steD, .laysStatic Bundle.tN "SUPPRESSED_SENTINEL" Bundle.listD, .not (.castable ja_x2 ja_x1), .not (.castable ja_x3 ja_x1), .not (.castable ja_x1 ja_x2), .not (.castable ja_x3 ja_x2), .not (.castable ja_x1 ja_x3), .not (.castable ja_x2 ja_x3), .declares (Bundle.initS "java/lang/RuntimeException"), .declares (Bundle.initS "java/lang/Exception"), .declares (Bundle.initS Bundle.tN), .castable ja_x1 ja_x1, .castable ja_x2 ja_x2, .castable ja_x3 ja_x3]
def ja_strs : List (Nat × String) := [(57, "no such word"), (66, "there are not so many words"), (70, "the context has 0 to 256 octets"), (78, "no such octet of the context"), (85, "there are no words"), (97, "no such register, or nothing that is told of it"), (99, "the code is not verified"), (105, "nothing comes to such a word"), (124, "nothing is counted under this number")]
def ja_Zx (A : Nat → Prop) (s : State) : Prop := ∀ U : State, s.WarmedH U.vm → s.heap.size ≤ U.heap.size → (∀ q, q < s.heap.size → ¬ A q → U.heap[q]? = s.heap[q]?) → (∀ (args : Array Value), ∀ w ∈ ja_isr, w.before args U = true) ∧ ∀ q ∈ ja_strs, ∃ a, vk_R "WordJudge" q.1 q.2 a U
def ja_Cx (M : ja_Mt) (p : Program) (l : Launch) (R : Room) (s : State) (m : MethodId) (args : Array Value) (meth : Method) (c : Code) (D : va_G) (aC : Nat → ClassId) (A : Nat → Prop) (kc ks : Nat) (hf : ja_H) : Prop :=
  p.tables.exec = Jvm.exec ∧ c.code = M.2.1 ∧ c.maxLocals = M.2.2.1 ∧ s.vm.findClass M.1 = some m.cls ∧ (∀ w ∈ ja_all, w.before args s = true) ∧ va_K D vwCl (ja_tys aC) s ∧ ja_N s ∧ (∀ q, s.heap.size ≤ q → A q) ∧ (M.2.2.2.1.1 ≤ R.frames ∧ M.2.2.2.1.2 ≤ R.locals) ∧ (M.2.2.2.2.1 = true → meth.name = "<init>") ∧ (ja_nc hf ≤ R.cells + kc ∧ ja_ns hf ≤ R.slots + ks) ∧
  (∀ b L xs, M.2.2.2.2.2.2.1 = some (b, L, xs) → va_X b L xs s s.heap ∧ b < s.heap.size ∧ ¬ A b) ∧ (∀ hh, M.2.2.2.2.2.2.2 = some hh → c.exceptionTable.toList.map (fun x => (x.startPc, x.endPc, x.handlerPc, x.catchType)) = hh) ∧ ja_Zx A s ∧ l.stackTraces = false
def ja_St (M : ja_Mt) (s : State) (D : va_G) (aC : Nat → ClassId) (A : Nat → Prop) (kc ks : Nat) (H : Heap) (ls : Array Slot) (locs : List Loc) (cells slots : Nat) (ads : Nat → Nat) (lv : List (Option Value)) (h : ja_H) : Prop :=
  ja_lv ads ls M.2.2.1 lv ∧ va_P D vwCl (ja_wl aC ads h) H ∧ va_D A (ja_wl aC ads h) ∧ va_S A s.heap H locs ∧ cells + kc = ja_nc h ∧ slots + ks = ja_ns h
def ja_os (ads : Nat → Nat) (ret : List Value) : List Value := match ret with
  | [.retAddr _] => []
  | r => r.map (ja_cv ads)
def ja_rt (M : ja_Mt) (pc : Nat) (ret : List Value) : Prop := match ret with
  | [] => decode M.2.1 pc = .ok (.return_, 1) ∧ M.2.2.2.2.2.1 = none
  | [.int v] => decode M.2.1 pc = .ok (.ireturn, 1) ∧ ∃ ty, M.2.2.2.2.2.1 = some ty ∧ narrow ty (.int v) = .int v
  | [.long _] => decode M.2.1 pc = .ok (.lreturn, 1) ∧ M.2.2.2.2.2.1 = some .long
  | [.retAddr k] => pc = k
  | _ => False
def ja_Ex (M : ja_Mt) (p : Program) (l : Launch) (e : Env) (R : Room) (s : State) (m : MethodId) (args : Array Value) (below : List Frame) (meth : Method) (c : Code) (Q : State → Prop) (D : va_G) (aC : Nat → ClassId) (A : Nat → Prop) (kc ks : Nat) (ads : Nat → Nat) (n : Nat) (ret : List Value) (hf : ja_H) : Prop :=
  ∀ (pc : Nat) (H : Heap) (ls : Array Slot) (locs : List Loc) (cells slots : Nat) (ads' : Nat → Nat), ja_rt M pc ret → ls.size = M.2.2.1 → (∀ i, i < n → ads' i = ads i) → va_P D vwCl (ja_wl aC ads' hf) H → va_D A (ja_wl aC ads' hf) → va_S A s.heap H locs → cells + kc = ja_nc hf → slots + ks = ja_ns hf →
    W p l e R s m args below meth c H locs cells slots Q (F0 m pc ls (ja_os ads' ret))
def ja_J (M : ja_Mt) (pc : Nat) (lv : List (Option Value)) (st : List Value) (h : ja_H) (ret : List Value) (hf : ja_H) : Prop :=
  (ja_nc h ≤ ja_nc hf ∧ ja_ns h ≤ ja_ns hf ∧ h.1.length ≤ hf.1.length) ∧ (ja_V h lv st → ja_V hf [] ret) ∧
  ∀ (p : Program) (l : Launch) (e : Env) (R : Room) (s : State) (m : MethodId) (args : Array Value) (below : List Frame) (meth : Method) (c : Code) (Q : State → Prop) (D : va_G) (aC : Nat → ClassId) (A : Nat → Prop) (kc ks : Nat) (H : Heap) (ls : Array Slot) (locs : List Loc) (cells slots : Nat) (ads : Nat → Nat), ja_Cx M p l R s m args meth c D aC A kc ks hf → ja_St M s D aC A kc ks H ls locs cells slots ads lv h → ja_V h lv st → ja_Ex M p l e R s m args below meth c Q D aC A kc ks ads h.1.length ret hf →
    W p l e R s m args below meth c H locs cells slots Q (F0 m pc ls (st.map (ja_cv ads)))
theorem ja_iconst {M : ja_Mt} {pc pc' : Nat} {lv : List (Option Value)} {st : List Value} {h : ja_H} {ret : List Value} {hf : ja_H} {n : Int} {v : Int32} (d : ja_At M pc (.iconst n) 1 pc') (hv : Int32.ofInt n = v) (k : ja_J M pc' lv (.int v :: st) h ret hf) : ja_J M pc lv (st) h ret hf := by
  obtain ⟨d, rfl⟩ := d
  exact ⟨k.1, k.2.1, fun p l e R s m args below meth c Q D aC A kc ks H ls locs cells slots ads hC hS hV hE => lv_iconst hC.1 hC.2.1 d hv (k.2.2 p l e R s m args below meth c Q D aC A kc ks H ls locs cells slots ads hC hS hV hE)⟩
theorem ja_bipush {M : ja_Mt} {pc pc' : Nat} {lv : List (Option Value)} {st : List Value} {h : ja_H} {ret : List Value} {hf : ja_H} {n : Int} {v : Int32} (d : ja_At M pc (.bipush n) 2 pc') (hv : (Int8.ofInt n).toInt32 = v) (k : ja_J M pc' lv (.int v :: st) h ret hf) : ja_J M pc lv (st) h ret hf := by
  obtain ⟨d, rfl⟩ := d
  exact ⟨k.1, k.2.1, fun p l e R s m args below meth c Q D aC A kc ks H ls locs cells slots ads hC hS hV hE => lv_bipush hC.1 hC.2.1 d hv (k.2.2 p l e R s m args below meth c Q D aC A kc ks H ls locs cells slots ads hC hS hV hE)⟩
theorem ja_sipush {M : ja_Mt} {pc pc' : Nat} {lv : List (Option Value)} {st : List Value} {h : ja_H} {ret : List Value} {hf : ja_H} {n : Int} {v : Int32} (d : ja_At M pc (.sipush n) 3 pc') (hv : (Int16.ofInt n).toInt32 = v) (k : ja_J M pc' lv (.int v :: st) h ret hf) : ja_J M pc lv (st) h ret hf := by
  obtain ⟨d, rfl⟩ := d
  exact ⟨k.1, k.2.1, fun p l e R s m args below meth c Q D aC A kc ks H ls locs cells slots ads hC hS hV hE => lv_sipush hC.1 hC.2.1 d hv (k.2.2 p l e R s m args below meth c Q D aC A kc ks H ls locs cells slots ads hC hS hV hE)⟩
theorem ja_lconst {M : ja_Mt} {pc pc' : Nat} {lv : List (Option Value)} {st : List Value} {h : ja_H} {ret : List Value} {hf : ja_H} {n : Fin 2} {v : Int64} (d : ja_At M pc (.lconst n) 1 pc') (hv : Int64.ofNat (n : Nat) = v) (k : ja_J M pc' lv (.long v :: st) h ret hf) : ja_J M pc lv (st) h ret hf := by
  obtain ⟨d, rfl⟩ := d
  exact ⟨k.1, k.2.1, fun p l e R s m args below meth c Q D aC A kc ks H ls locs cells slots ads hC hS hV hE => lv_lconst hC.1 hC.2.1 d hv (k.2.2 p l e R s m args below meth c Q D aC A kc ks H ls locs cells slots ads hC hS hV hE)⟩
theorem ja_ldc {M : ja_Mt} {pc pc' : Nat} {lv : List (Option Value)} {st : List Value} {h : ja_H} {ret : List Value} {hf : ja_H} {index : Nat} {v : Int32} (d : ja_At M pc (.ldc index) 2 pc') (hc : Cond.constant M.1 index v ∈ ja_all) (k : ja_J M pc' lv (.int v :: st) h ret hf) : ja_J M pc lv st h ret hf := by
  obtain ⟨d, rfl⟩ := d
  exact ⟨k.1, k.2.1, fun p l e R s m args below meth c Q D aC A kc ks H ls locs cells slots ads hC hS hV hE => lv_ldc hC.1 hC.2.1 hC.2.2.2.1 (hC.2.2.2.2.1 _ hc) d (k.2.2 p l e R s m args below meth c Q D aC A kc ks H ls locs cells slots ads hC hS hV hE)⟩
theorem ja_ldcw {M : ja_Mt} {pc pc' : Nat} {lv : List (Option Value)} {st : List Value} {h : ja_H} {ret : List Value} {hf : ja_H} {index : Nat} {v : Int32} (d : ja_At M pc (.ldc_w index) 3 pc') (hc : Cond.constant M.1 index v ∈ ja_all) (k : ja_J M pc' lv (.int v :: st) h ret hf) : ja_J M pc lv st h ret hf := by
  obtain ⟨d, rfl⟩ := d
  exact ⟨k.1, k.2.1, fun p l e R s m args below meth c Q D aC A kc ks H ls locs cells slots ads hC hS hV hE => lv_ldcw hC.1 hC.2.1 hC.2.2.2.1 (hC.2.2.2.2.1 _ hc) d (k.2.2 p l e R s m args below meth c Q D aC A kc ks H ls locs cells slots ads hC hS hV hE)⟩
theorem ja_ldc2 {M : ja_Mt} {pc pc' : Nat} {lv : List (Option Value)} {st : List Value} {h : ja_H} {ret : List Value} {hf : ja_H} {index : Nat} {v : Int64} (d : ja_At M pc (.ldc2_w index) 3 pc') (hc : Cond.constantLong M.1 index v ∈ ja_all) (k : ja_J M pc' lv (.long v :: st) h ret hf) : ja_J M pc lv st h ret hf := by
  obtain ⟨d, rfl⟩ := d
  exact ⟨k.1, k.2.1, fun p l e R s m args below meth c Q D aC A kc ks H ls locs cells slots ads hC hS hV hE => lv_ldc2 hC.1 hC.2.1 hC.2.2.2.1 (hC.2.2.2.2.1 _ hc) d (k.2.2 p l e R s m args below meth c Q D aC A kc ks H ls locs cells slots ads hC hS hV hE)⟩
theorem ja_iload {M : ja_Mt} {pc pc' : Nat} {lv : List (Option Value)} {st : List Value} {h : ja_H} {ret : List Value} {hf : ja_H} {i : Nat} {x : Int32} (d : ja_At M pc (.iload i) 2 pc') (hl : lv[i]? = some (some (.int x))) (k : ja_J M pc' lv (.int x :: st) h ret hf) : ja_J M pc lv st h ret hf := by
  obtain ⟨d, rfl⟩ := d
  exact ⟨k.1, k.2.1, fun p l e R s m args below meth c Q D aC A kc ks H ls locs cells slots ads hC hS hV hE => lv_iload hC.1 hC.2.1 d (hS.1.2.2 _ _ hl) (k.2.2 p l e R s m args below meth c Q D aC A kc ks H ls locs cells slots ads hC hS hV hE)⟩
theorem ja_iload_n {M : ja_Mt} {pc pc' : Nat} {lv : List (Option Value)} {st : List Value} {h : ja_H} {ret : List Value} {hf : ja_H} {n : Fin 4} {x : Int32} (d : ja_At M pc (.iload_n n) 1 pc') (hl : lv[(n : Nat)]? = some (some (.int x))) (k : ja_J M pc' lv (.int x :: st) h ret hf) : ja_J M pc lv st h ret hf := by
  obtain ⟨d, rfl⟩ := d
  exact ⟨k.1, k.2.1, fun p l e R s m args below meth c Q D aC A kc ks H ls locs cells slots ads hC hS hV hE => lv_iload_n hC.1 hC.2.1 d rfl (hS.1.2.2 _ _ hl) (k.2.2 p l e R s m args below meth c Q D aC A kc ks H ls locs cells slots ads hC hS hV hE)⟩
theorem ja_lload {M : ja_Mt} {pc pc' : Nat} {lv : List (Option Value)} {st : List Value} {h : ja_H} {ret : List Value} {hf : ja_H} {i : Nat} {x : Int64} (d : ja_At M pc (.lload i) 2 pc') (hl : lv[i]? = some (some (.long x))) (k : ja_J M pc' lv (.long x :: st) h ret hf) : ja_J M pc lv st h ret hf := by
  obtain ⟨d, rfl⟩ := d
  exact ⟨k.1, k.2.1, fun p l e R s m args below meth c Q D aC A kc ks H ls locs cells slots ads hC hS hV hE => lv_lload hC.1 hC.2.1 d (hS.1.2.2 _ _ hl) (k.2.2 p l e R s m args below meth c Q D aC A kc ks H ls locs cells slots ads hC hS hV hE)⟩
theorem ja_lload_n {M : ja_Mt} {pc pc' : Nat} {lv : List (Option Value)} {st : List Value} {h : ja_H} {ret : List Value} {hf : ja_H} {n : Fin 4} {x : Int64} (d : ja_At M pc (.lload_n n) 1 pc') (hl : lv[(n : Nat)]? = some (some (.long x))) (k : ja_J M pc' lv (.long x :: st) h ret hf) : ja_J M pc lv st h ret hf := by
  obtain ⟨d, rfl⟩ := d
  exact ⟨k.1, k.2.1, fun p l e R s m args below meth c Q D aC A kc ks H ls locs cells slots ads hC hS hV hE => lv_lload_n hC.1 hC.2.1 d rfl (hS.1.2.2 _ _ hl) (k.2.2 p l e R s m args below meth c Q D aC A kc ks H ls locs cells slots ads hC hS hV hE)⟩
theorem ja_aload {M : ja_Mt} {pc pc' : Nat} {lv : List (Option Value)} {st : List Value} {h : ja_H} {ret : List Value} {hf : ja_H} {i : Nat} {x : Nat} (d : ja_At M pc (.aload i) 2 pc') (hl : lv[i]? = some (some (.ref x))) (k : ja_J M pc' lv (.ref x :: st) h ret hf) : ja_J M pc lv st h ret hf := by
  obtain ⟨d, rfl⟩ := d
  exact ⟨k.1, fun v => k.2.1 ⟨v.1, v.2.1, v.2.1 _ _ hl, v.2.2⟩, fun p l e R s m args below meth c Q D aC A kc ks H ls locs cells slots ads hC hS hV hE => lv_aload hC.1 hC.2.1 d (hS.1.2.2 _ _ hl) (k.2.2 p l e R s m args below meth c Q D aC A kc ks H ls locs cells slots ads hC hS ⟨hV.1, hV.2.1, hV.2.1 _ _ hl, hV.2.2⟩ hE)⟩
theorem ja_aloadX {M : ja_Mt} {pc pc' : Nat} {lv : List (Option Value)} {st : List Value} {h : ja_H} {ret : List Value} {hf : ja_H} {i : Nat} {x : Nat} (d : ja_At M pc (.aload i) 2 pc') (hl : lv[i]? = some (some (.retAddr x))) (k : ja_J M pc' lv (.retAddr x :: st) h ret hf) : ja_J M pc lv st h ret hf := by
  obtain ⟨d, rfl⟩ := d
  exact ⟨k.1, k.2.1, fun p l e R s m args below meth c Q D aC A kc ks H ls locs cells slots ads hC hS hV hE => lv_aload hC.1 hC.2.1 d (hS.1.2.2 _ _ hl) (k.2.2 p l e R s m args below meth c Q D aC A kc ks H ls locs cells slots ads hC hS hV hE)⟩
theorem ja_aload_n {M : ja_Mt} {pc pc' : Nat} {lv : List (Option Value)} {st : List Value} {h : ja_H} {ret : List Value} {hf : ja_H} {n : Fin 4} {x : Nat} (d : ja_At M pc (.aload_n n) 1 pc') (hl : lv[(n : Nat)]? = some (some (.ref x))) (k : ja_J M pc' lv (.ref x :: st) h ret hf) : ja_J M pc lv st h ret hf := by
  obtain ⟨d, rfl⟩ := d
  exact ⟨k.1, fun v => k.2.1 ⟨v.1, v.2.1, v.2.1 _ _ hl, v.2.2⟩, fun p l e R s m args below meth c Q D aC A kc ks H ls locs cells slots ads hC hS hV hE => lv_aload_n hC.1 hC.2.1 d rfl (hS.1.2.2 _ _ hl) (k.2.2 p l e R s m args below meth c Q D aC A kc ks H ls locs cells slots ads hC hS ⟨hV.1, hV.2.1, hV.2.1 _ _ hl, hV.2.2⟩ hE)⟩
theorem ja_aload_nX {M : ja_Mt} {pc pc' : Nat} {lv : List (Option Value)} {st : List Value} {h : ja_H} {ret : List Value} {hf : ja_H} {n : Fin 4} {x : Nat} (d : ja_At M pc (.aload_n n) 1 pc') (hl : lv[(n : Nat)]? = some (some (.retAddr x))) (k : ja_J M pc' lv (.retAddr x :: st) h ret hf) : ja_J M pc lv st h ret hf := by
  obtain ⟨d, rfl⟩ := d
  exact ⟨k.1, k.2.1, fun p l e R s m args below meth c Q D aC A kc ks H ls locs cells slots ads hC hS hV hE => lv_aload_n hC.1 hC.2.1 d rfl (hS.1.2.2 _ _ hl) (k.2.2 p l e R s m args below meth c Q D aC A kc ks H ls locs cells slots ads hC hS hV hE)⟩
theorem ja_istore {M : ja_Mt} {pc pc' : Nat} {lv : List (Option Value)} {st : List Value} {h : ja_H} {ret : List Value} {hf : ja_H} {i : Nat} {x : Int32} (d : ja_At M pc (.istore i) 2 pc') (hn : i < M.2.2.1) (hok : ja_ok lv i = true) (k : ja_J M pc' (lv.set i (some (.int x))) st h ret hf) : ja_J M pc lv (.int x :: st) h ret hf := by
  obtain ⟨d, rfl⟩ := d
  refine ⟨k.1, fun v => k.2.1 ⟨v.1, ja_lvv_set (fun r e => by cases e) v.2.1, v.2.2⟩, fun p l e R s m args below meth c Q D aC A kc ks H ls locs cells slots ads hC hS hV hE => ?_⟩
  refine lv_istore hC.1 hC.2.1 d (ja_lv_has hS.1) hn rfl (fun ls' hl' => ?_)
  exact k.2.2 p l e R s m args below meth c Q D aC A kc ks H ls' locs cells slots ads hC ⟨ja_lv_set1 hok hl', hS.2⟩ ⟨hV.1, ja_lvv_set (fun r e => by cases e) hV.2.1, hV.2.2⟩ hE
theorem ja_istore_n {M : ja_Mt} {pc pc' : Nat} {lv : List (Option Value)} {st : List Value} {h : ja_H} {ret : List Value} {hf : ja_H} {n : Fin 4} {x : Int32} (d : ja_At M pc (.istore_n n) 1 pc') (hn : (n : Nat) < M.2.2.1) (hok : ja_ok lv (n : Nat) = true) (k : ja_J M pc' (lv.set (n : Nat) (some (.int x))) st h ret hf) : ja_J M pc lv (.int x :: st) h ret hf := by
  obtain ⟨d, rfl⟩ := d
  refine ⟨k.1, fun v => k.2.1 ⟨v.1, ja_lvv_set (fun r e => by cases e) v.2.1, v.2.2⟩, fun p l e R s m args below meth c Q D aC A kc ks H ls locs cells slots ads hC hS hV hE => ?_⟩
  refine lv_istore_n hC.1 hC.2.1 d rfl (ja_lv_has hS.1) hn rfl (fun ls' hl' => ?_)
  exact k.2.2 p l e R s m args below meth c Q D aC A kc ks H ls' locs cells slots ads hC ⟨ja_lv_set1 hok hl', hS.2⟩ ⟨hV.1, ja_lvv_set (fun r e => by cases e) hV.2.1, hV.2.2⟩ hE
theorem ja_lstore {M : ja_Mt} {pc pc' : Nat} {lv : List (Option Value)} {st : List Value} {h : ja_H} {ret : List Value} {hf : ja_H} {i : Nat} {x : Int64} (d : ja_At M pc (.lstore i) 2 pc') (hn : i + 1 < M.2.2.1) (hok : ja_ok lv i = true) (k : ja_J M pc' ((lv.set i (some (.long x))).set (i + 1) none) st h ret hf) : ja_J M pc lv (.long x :: st) h ret hf := by
  obtain ⟨d, rfl⟩ := d
  refine ⟨k.1, fun v => k.2.1 ⟨v.1, ja_lvv_set (fun r e => by cases e) (ja_lvv_set (fun r e => by cases e) v.2.1), v.2.2⟩, fun p l e R s m args below meth c Q D aC A kc ks H ls locs cells slots ads hC hS hV hE => ?_⟩
  refine lv_lstore hC.1 hC.2.1 d (ja_lv_has hS.1) hn rfl (fun ls' hl' => ?_)
  exact k.2.2 p l e R s m args below meth c Q D aC A kc ks H ls' locs cells slots ads hC ⟨ja_lv_set2 hok hl', hS.2⟩ ⟨hV.1, ja_lvv_set (fun r e => by cases e) (ja_lvv_set (fun r e => by cases e) hV.2.1), hV.2.2⟩ hE
theorem ja_lstore_n {M : ja_Mt} {pc pc' : Nat} {lv : List (Option Value)} {st : List Value} {h : ja_H} {ret : List Value} {hf : ja_H} {n : Fin 4} {x : Int64} (d : ja_At M pc (.lstore_n n) 1 pc') (hn : (n : Nat) + 1 < M.2.2.1) (hok : ja_ok lv (n : Nat) = true) (k : ja_J M pc' ((lv.set (n : Nat) (some (.long x))).set ((n : Nat) + 1) none) st h ret hf) : ja_J M pc lv (.long x :: st) h ret hf := by
  obtain ⟨d, rfl⟩ := d
  refine ⟨k.1, fun v => k.2.1 ⟨v.1, ja_lvv_set (fun r e => by cases e) (ja_lvv_set (fun r e => by cases e) v.2.1), v.2.2⟩, fun p l e R s m args below meth c Q D aC A kc ks H ls locs cells slots ads hC hS hV hE => ?_⟩
  refine lv_lstore_n hC.1 hC.2.1 d rfl (ja_lv_has hS.1) hn rfl (fun ls' hl' => ?_)
  exact k.2.2 p l e R s m args below meth c Q D aC A kc ks H ls' locs cells slots ads hC ⟨ja_lv_set2 hok hl', hS.2⟩ ⟨hV.1, ja_lvv_set (fun r e => by cases e) (ja_lvv_set (fun r e => by cases e) hV.2.1), hV.2.2⟩ hE
theorem ja_astore {M : ja_Mt} {pc pc' : Nat} {lv : List (Option Value)} {st : List Value} {h : ja_H} {ret : List Value} {hf : ja_H} {i : Nat} {x : Nat} (d : ja_At M pc (.astore i) 2 pc') (hn : i < M.2.2.1) (hok : ja_ok lv i = true) (k : ja_J M pc' (lv.set i (some (.ref x))) st h ret hf) : ja_J M pc lv (.ref x :: st) h ret hf := by
  obtain ⟨d, rfl⟩ := d
  refine ⟨k.1, fun v => k.2.1 ⟨v.1, ja_lvv_set (fun r e => by cases e; exact v.2.2.1) v.2.1, v.2.2.2⟩, fun p l e R s m args below meth c Q D aC A kc ks H ls locs cells slots ads hC hS hV hE => ?_⟩
  refine lv_astore hC.1 hC.2.1 d (ja_lv_has hS.1) hn rfl (fun ls' hl' => ?_)
  exact k.2.2 p l e R s m args below meth c Q D aC A kc ks H ls' locs cells slots ads hC ⟨ja_lv_set1 hok hl', hS.2⟩ ⟨hV.1, ja_lvv_set (fun r e => by cases e; exact hV.2.2.1) hV.2.1, hV.2.2.2⟩ hE
theorem ja_astore_n {M : ja_Mt} {pc pc' : Nat} {lv : List (Option Value)} {st : List Value} {h : ja_H} {ret : List Value} {hf : ja_H} {n : Fin 4} {x : Nat} (d : ja_At M pc (.astore_n n) 1 pc') (hn : (n : Nat) < M.2.2.1) (hok : ja_ok lv (n : Nat) = true) (k : ja_J M pc' (lv.set (n : Nat) (some (.ref x))) st h ret hf) : ja_J M pc lv (.ref x :: st) h ret hf := by
  obtain ⟨d, rfl⟩ := d
  refine ⟨k.1, fun v => k.2.1 ⟨v.1, ja_lvv_set (fun r e => by cases e; exact v.2.2.1) v.2.1, v.2.2.2⟩, fun p l e R s m args below meth c Q D aC A kc ks H ls locs cells slots ads hC hS hV hE => ?_⟩
  refine lv_astore_n hC.1 hC.2.1 d rfl (ja_lv_has hS.1) hn rfl (fun ls' hl' => ?_)
  exact k.2.2 p l e R s m args below meth c Q D aC A kc ks H ls' locs cells slots ads hC ⟨ja_lv_set1 hok hl', hS.2⟩ ⟨hV.1, ja_lvv_set (fun r e => by cases e; exact hV.2.2.1) hV.2.1, hV.2.2.2⟩ hE
theorem ja_astoreX {M : ja_Mt} {pc pc' : Nat} {lv : List (Option Value)} {st : List Value} {h : ja_H} {ret : List Value} {hf : ja_H} {i : Nat} {x : Nat} (d : ja_At M pc (.astore i) 2 pc') (hn : i < M.2.2.1) (hok : ja_ok lv i = true) (k : ja_J M pc' (lv.set i (some (.retAddr x))) st h ret hf) : ja_J M pc lv (.retAddr x :: st) h ret hf := by
  obtain ⟨d, rfl⟩ := d
  refine ⟨k.1, fun v => k.2.1 ⟨v.1, ja_lvv_set (fun r e => by cases e) v.2.1, v.2.2⟩, fun p l e R s m args below meth c Q D aC A kc ks H ls locs cells slots ads hC hS hV hE => ?_⟩
  refine lv_astore hC.1 hC.2.1 d (ja_lv_has hS.1) hn rfl (fun ls' hl' => ?_)
  exact k.2.2 p l e R s m args below meth c Q D aC A kc ks H ls' locs cells slots ads hC ⟨ja_lv_set1 hok hl', hS.2⟩ ⟨hV.1, ja_lvv_set (fun r e => by cases e) hV.2.1, hV.2.2⟩ hE
theorem ja_astore_nX {M : ja_Mt} {pc pc' : Nat} {lv : List (Option Value)} {st : List Value} {h : ja_H} {ret : List Value} {hf : ja_H} {n : Fin 4} {x : Nat} (d : ja_At M pc (.astore_n n) 1 pc') (hn : (n : Nat) < M.2.2.1) (hok : ja_ok lv (n : Nat) = true) (k : ja_J M pc' (lv.set (n : Nat) (some (.retAddr x))) st h ret hf) : ja_J M pc lv (.retAddr x :: st) h ret hf := by
  obtain ⟨d, rfl⟩ := d
  refine ⟨k.1, fun v => k.2.1 ⟨v.1, ja_lvv_set (fun r e => by cases e) v.2.1, v.2.2⟩, fun p l e R s m args below meth c Q D aC A kc ks H ls locs cells slots ads hC hS hV hE => ?_⟩
  refine lv_astore_n hC.1 hC.2.1 d rfl (ja_lv_has hS.1) hn rfl (fun ls' hl' => ?_)
  exact k.2.2 p l e R s m args below meth c Q D aC A kc ks H ls' locs cells slots ads hC ⟨ja_lv_set1 hok hl', hS.2⟩ ⟨hV.1, ja_lvv_set (fun r e => by cases e) hV.2.1, hV.2.2⟩ hE
theorem ja_iinc {M : ja_Mt} {pc pc' : Nat} {lv : List (Option Value)} {st : List Value} {h : ja_H} {ret : List Value} {hf : ja_H} {i : Nat} {n : Int} {x v : Int32} (d : ja_At M pc (.iinc i n) 3 pc') (hl : lv[i]? = some (some (.int x))) (hv : x + Int32.ofInt n = v) (hn : i < M.2.2.1) (hok : ja_ok lv i = true) (k : ja_J M pc' (lv.set i (some (.int v))) st h ret hf) : ja_J M pc lv st h ret hf := by
  obtain ⟨d, rfl⟩ := d
  refine ⟨k.1, fun v => k.2.1 ⟨v.1, ja_lvv_set (fun r e => by cases e) v.2.1, v.2.2⟩, fun p l e R s m args below meth c Q D aC A kc ks H ls locs cells slots ads hC hS hV hE => ?_⟩
  obtain ⟨q, hq⟩ := List.mem_iff_getElem?.mp (ja_lp_mem (ads := ads) hl)
  refine lv_iinc hC.1 hC.2.1 d (ja_lv_has hS.1) hq hv hn rfl (fun ls' hl' => ?_)
  exact k.2.2 p l e R s m args below meth c Q D aC A kc ks H ls' locs cells slots ads hC ⟨ja_lv_set1 (x := .int v) hok hl', hS.2⟩ ⟨hV.1, ja_lvv_set (fun r e => by cases e) hV.2.1, hV.2.2⟩ hE
theorem ja_less {M : ja_Mt} {pc : Nat} {lv lv' : List (Option Value)} {st : List Value} {h : ja_H} {ret : List Value} {hf : ja_H} (hl : ∀ (i : Nat) (v : Value), lv'[i]? = some (some v) → lv[i]? = some (some v)) (k : ja_J M pc lv' st h ret hf) : ja_J M pc lv st h ret hf :=
  ⟨k.1, fun v => k.2.1 ⟨v.1, fun i r hi => v.2.1 i r (hl i _ hi), v.2.2⟩, fun p l e R s m args below meth c Q D aC A kc ks H ls locs cells slots ads hC hS hV hE => k.2.2 p l e R s m args below meth c Q D aC A kc ks H ls locs cells slots ads hC ⟨⟨hS.1.1, hS.1.2.1, fun i v hi => hS.1.2.2 i v (hl i v hi)⟩, hS.2⟩ ⟨hV.1, fun i r hi => hV.2.1 i r (hl i _ hi), hV.2.2⟩ hE⟩
theorem ja_iadd {M : ja_Mt} {pc pc' : Nat} {lv : List (Option Value)} {st : List Value} {h : ja_H} {ret : List Value} {hf : ja_H} {x y : Int32} (d : ja_At M pc .iadd 1 pc')  (k : ja_J M pc' lv (.int (x + y) :: st) h ret hf) : ja_J M pc lv (.int y :: .int x :: st) h ret hf := by
  obtain ⟨d, rfl⟩ := d
  exact ⟨k.1, k.2.1, fun p l e R s m args below meth c Q D aC A kc ks H ls locs cells slots ads hC hS hV hE => lv_iadd hC.1 hC.2.1 d  (k.2.2 p l e R s m args below meth c Q D aC A kc ks H ls locs cells slots ads hC hS hV hE)⟩
theorem ja_isub {M : ja_Mt} {pc pc' : Nat} {lv : List (Option Value)} {st : List Value} {h : ja_H} {ret : List Value} {hf : ja_H} {x y : Int32} (d : ja_At M pc .isub 1 pc')  (k : ja_J M pc' lv (.int (x - y) :: st) h ret hf) : ja_J M pc lv (.int y :: .int x :: st) h ret hf := by
  obtain ⟨d, rfl⟩ := d
  exact ⟨k.1, k.2.1, fun p l e R s m args below meth c Q D aC A kc ks H ls locs cells slots ads hC hS hV hE => lv_isub hC.1 hC.2.1 d  (k.2.2 p l e R s m args below meth c Q D aC A kc ks H ls locs cells slots ads hC hS hV hE)⟩
theorem ja_imul {M : ja_Mt} {pc pc' : Nat} {lv : List (Option Value)} {st : List Value} {h : ja_H} {ret : List Value} {hf : ja_H} {x y : Int32} (d : ja_At M pc .imul 1 pc')  (k : ja_J M pc' lv (.int (x * y) :: st) h ret hf) : ja_J M pc lv (.int y :: .int x :: st) h ret hf := by
  obtain ⟨d, rfl⟩ := d
  exact ⟨k.1, k.2.1, fun p l e R s m args below meth c Q D aC A kc ks H ls locs cells slots ads hC hS hV hE => lv_imul hC.1 hC.2.1 d  (k.2.2 p l e R s m args below meth c Q D aC A kc ks H ls locs cells slots ads hC hS hV hE)⟩
theorem ja_iand {M : ja_Mt} {pc pc' : Nat} {lv : List (Option Value)} {st : List Value} {h : ja_H} {ret : List Value} {hf : ja_H} {x y : Int32} (d : ja_At M pc .iand 1 pc')  (k : ja_J M pc' lv (.int (x &&& y) :: st) h ret hf) : ja_J M pc lv (.int y :: .int x :: st) h ret hf := by
  obtain ⟨d, rfl⟩ := d
  exact ⟨k.1, k.2.1, fun p l e R s m args below meth c Q D aC A kc ks H ls locs cells slots ads hC hS hV hE => lv_iand hC.1 hC.2.1 d  (k.2.2 p l e R s m args below meth c Q D aC A kc ks H ls locs cells slots ads hC hS hV hE)⟩
theorem ja_ior {M : ja_Mt} {pc pc' : Nat} {lv : List (Option Value)} {st : List Value} {h : ja_H} {ret : List Value} {hf : ja_H} {x y : Int32} (d : ja_At M pc .ior 1 pc')  (k : ja_J M pc' lv (.int (x ||| y) :: st) h ret hf) : ja_J M pc lv (.int y :: .int x :: st) h ret hf := by
  obtain ⟨d, rfl⟩ := d
  exact ⟨k.1, k.2.1, fun p l e R s m args below meth c Q D aC A kc ks H ls locs cells slots ads hC hS hV hE => lv_ior hC.1 hC.2.1 d  (k.2.2 p l e R s m args below meth c Q D aC A kc ks H ls locs cells slots ads hC hS hV hE)⟩
theorem ja_ixor {M : ja_Mt} {pc pc' : Nat} {lv : List (Option Value)} {st : List Value} {h : ja_H} {ret : List Value} {hf : ja_H} {x y : Int32} (d : ja_At M pc .ixor 1 pc')  (k : ja_J M pc' lv (.int (x ^^^ y) :: st) h ret hf) : ja_J M pc lv (.int y :: .int x :: st) h ret hf := by
  obtain ⟨d, rfl⟩ := d
  exact ⟨k.1, k.2.1, fun p l e R s m args below meth c Q D aC A kc ks H ls locs cells slots ads hC hS hV hE => lv_ixor hC.1 hC.2.1 d  (k.2.2 p l e R s m args below meth c Q D aC A kc ks H ls locs cells slots ads hC hS hV hE)⟩
theorem ja_ishl {M : ja_Mt} {pc pc' : Nat} {lv : List (Option Value)} {st : List Value} {h : ja_H} {ret : List Value} {hf : ja_H} {x y : Int32} (d : ja_At M pc .ishl 1 pc')  (k : ja_J M pc' lv (.int (x <<< (y &&& 31)) :: st) h ret hf) : ja_J M pc lv (.int y :: .int x :: st) h ret hf := by
  obtain ⟨d, rfl⟩ := d
  exact ⟨k.1, k.2.1, fun p l e R s m args below meth c Q D aC A kc ks H ls locs cells slots ads hC hS hV hE => lv_ishl hC.1 hC.2.1 d  (k.2.2 p l e R s m args below meth c Q D aC A kc ks H ls locs cells slots ads hC hS hV hE)⟩
theorem ja_ishr {M : ja_Mt} {pc pc' : Nat} {lv : List (Option Value)} {st : List Value} {h : ja_H} {ret : List Value} {hf : ja_H} {x y : Int32} (d : ja_At M pc .ishr 1 pc')  (k : ja_J M pc' lv (.int (x >>> (y &&& 31)) :: st) h ret hf) : ja_J M pc lv (.int y :: .int x :: st) h ret hf := by
  obtain ⟨d, rfl⟩ := d
  exact ⟨k.1, k.2.1, fun p l e R s m args below meth c Q D aC A kc ks H ls locs cells slots ads hC hS hV hE => lv_ishr hC.1 hC.2.1 d  (k.2.2 p l e R s m args below meth c Q D aC A kc ks H ls locs cells slots ads hC hS hV hE)⟩
theorem ja_idiv {M : ja_Mt} {pc pc' : Nat} {lv : List (Option Value)} {st : List Value} {h : ja_H} {ret : List Value} {hf : ja_H} {x y : Int32} (d : ja_At M pc .idiv 1 pc') (hne : ¬ y = 0) (k : ja_J M pc' lv (.int (x / y) :: st) h ret hf) : ja_J M pc lv (.int y :: .int x :: st) h ret hf := by
  obtain ⟨d, rfl⟩ := d
  exact ⟨k.1, k.2.1, fun p l e R s m args below meth c Q D aC A kc ks H ls locs cells slots ads hC hS hV hE => lv_idiv hC.1 hC.2.1 d hne (k.2.2 p l e R s m args below meth c Q D aC A kc ks H ls locs cells slots ads hC hS hV hE)⟩
theorem ja_irem {M : ja_Mt} {pc pc' : Nat} {lv : List (Option Value)} {st : List Value} {h : ja_H} {ret : List Value} {hf : ja_H} {x y : Int32} (d : ja_At M pc .irem 1 pc') (hne : ¬ y = 0) (k : ja_J M pc' lv (.int (x - x / y * y) :: st) h ret hf) : ja_J M pc lv (.int y :: .int x :: st) h ret hf := by
  obtain ⟨d, rfl⟩ := d
  exact ⟨k.1, k.2.1, fun p l e R s m args below meth c Q D aC A kc ks H ls locs cells slots ads hC hS hV hE => lv_irem hC.1 hC.2.1 d hne (k.2.2 p l e R s m args below meth c Q D aC A kc ks H ls locs cells slots ads hC hS hV hE)⟩
theorem ja_ineg {M : ja_Mt} {pc pc' : Nat} {lv : List (Option Value)} {st : List Value} {h : ja_H} {ret : List Value} {hf : ja_H} {x : Int32} (d : ja_At M pc .ineg 1 pc')  (k : ja_J M pc' lv (.int (-x) :: st) h ret hf) : ja_J M pc lv (.int x :: st) h ret hf := by
  obtain ⟨d, rfl⟩ := d
  exact ⟨k.1, k.2.1, fun p l e R s m args below meth c Q D aC A kc ks H ls locs cells slots ads hC hS hV hE => lv_ineg hC.1 hC.2.1 d  (k.2.2 p l e R s m args below meth c Q D aC A kc ks H ls locs cells slots ads hC hS hV hE)⟩
theorem ja_ladd {M : ja_Mt} {pc pc' : Nat} {lv : List (Option Value)} {st : List Value} {h : ja_H} {ret : List Value} {hf : ja_H} {x y : Int64} (d : ja_At M pc .ladd 1 pc')  (k : ja_J M pc' lv (.long (x + y) :: st) h ret hf) : ja_J M pc lv (.long y :: .long x :: st) h ret hf := by
  obtain ⟨d, rfl⟩ := d
  exact ⟨k.1, k.2.1, fun p l e R s m args below meth c Q D aC A kc ks H ls locs cells slots ads hC hS hV hE => lv_ladd hC.1 hC.2.1 d  (k.2.2 p l e R s m args below meth c Q D aC A kc ks H ls locs cells slots ads hC hS hV hE)⟩
theorem ja_lsub {M : ja_Mt} {pc pc' : Nat} {lv : List (Option Value)} {st : List Value} {h : ja_H} {ret : List Value} {hf : ja_H} {x y : Int64} (d : ja_At M pc .lsub 1 pc')  (k : ja_J M pc' lv (.long (x - y) :: st) h ret hf) : ja_J M pc lv (.long y :: .long x :: st) h ret hf := by
  obtain ⟨d, rfl⟩ := d
  exact ⟨k.1, k.2.1, fun p l e R s m args below meth c Q D aC A kc ks H ls locs cells slots ads hC hS hV hE => lv_lsub hC.1 hC.2.1 d  (k.2.2 p l e R s m args below meth c Q D aC A kc ks H ls locs cells slots ads hC hS hV hE)⟩
theorem ja_lmul {M : ja_Mt} {pc pc' : Nat} {lv : List (Option Value)} {st : List Value} {h : ja_H} {ret : List Value} {hf : ja_H} {x y : Int64} (d : ja_At M pc .lmul 1 pc')  (k : ja_J M pc' lv (.long (x * y) :: st) h ret hf) : ja_J M pc lv (.long y :: .long x :: st) h ret hf := by
  obtain ⟨d, rfl⟩ := d
  exact ⟨k.1, k.2.1, fun p l e R s m args below meth c Q D aC A kc ks H ls locs cells slots ads hC hS hV hE => lv_lmul hC.1 hC.2.1 d  (k.2.2 p l e R s m args below meth c Q D aC A kc ks H ls locs cells slots ads hC hS hV hE)⟩
theorem ja_land {M : ja_Mt} {pc pc' : Nat} {lv : List (Option Value)} {st : List Value} {h : ja_H} {ret : List Value} {hf : ja_H} {x y : Int64} (d : ja_At M pc .land 1 pc')  (k : ja_J M pc' lv (.long (x &&& y) :: st) h ret hf) : ja_J M pc lv (.long y :: .long x :: st) h ret hf := by
  obtain ⟨d, rfl⟩ := d
  exact ⟨k.1, k.2.1, fun p l e R s m args below meth c Q D aC A kc ks H ls locs cells slots ads hC hS hV hE => lv_land hC.1 hC.2.1 d  (k.2.2 p l e R s m args below meth c Q D aC A kc ks H ls locs cells slots ads hC hS hV hE)⟩
theorem ja_lor {M : ja_Mt} {pc pc' : Nat} {lv : List (Option Value)} {st : List Value} {h : ja_H} {ret : List Value} {hf : ja_H} {x y : Int64} (d : ja_At M pc .lor 1 pc')  (k : ja_J M pc' lv (.long (x ||| y) :: st) h ret hf) : ja_J M pc lv (.long y :: .long x :: st) h ret hf := by
  obtain ⟨d, rfl⟩ := d
  exact ⟨k.1, k.2.1, fun p l e R s m args below meth c Q D aC A kc ks H ls locs cells slots ads hC hS hV hE => lv_lor hC.1 hC.2.1 d  (k.2.2 p l e R s m args below meth c Q D aC A kc ks H ls locs cells slots ads hC hS hV hE)⟩
theorem ja_lxor {M : ja_Mt} {pc pc' : Nat} {lv : List (Option Value)} {st : List Value} {h : ja_H} {ret : List Value} {hf : ja_H} {x y : Int64} (d : ja_At M pc .lxor 1 pc')  (k : ja_J M pc' lv (.long (x ^^^ y) :: st) h ret hf) : ja_J M pc lv (.long y :: .long x :: st) h ret hf := by
  obtain ⟨d, rfl⟩ := d
  exact ⟨k.1, k.2.1, fun p l e R s m args below meth c Q D aC A kc ks H ls locs cells slots ads hC hS hV hE => lv_lxor hC.1 hC.2.1 d  (k.2.2 p l e R s m args below meth c Q D aC A kc ks H ls locs cells slots ads hC hS hV hE)⟩
theorem ja_ldiv {M : ja_Mt} {pc pc' : Nat} {lv : List (Option Value)} {st : List Value} {h : ja_H} {ret : List Value} {hf : ja_H} {x y : Int64} (d : ja_At M pc .ldiv 1 pc') (hne : ¬ y = 0) (k : ja_J M pc' lv (.long (x / y) :: st) h ret hf) : ja_J M pc lv (.long y :: .long x :: st) h ret hf := by
  obtain ⟨d, rfl⟩ := d
  exact ⟨k.1, k.2.1, fun p l e R s m args below meth c Q D aC A kc ks H ls locs cells slots ads hC hS hV hE => lv_ldiv hC.1 hC.2.1 d hne (k.2.2 p l e R s m args below meth c Q D aC A kc ks H ls locs cells slots ads hC hS hV hE)⟩
theorem ja_lrem {M : ja_Mt} {pc pc' : Nat} {lv : List (Option Value)} {st : List Value} {h : ja_H} {ret : List Value} {hf : ja_H} {x y : Int64} (d : ja_At M pc .lrem 1 pc') (hne : ¬ y = 0) (k : ja_J M pc' lv (.long (x - x / y * y) :: st) h ret hf) : ja_J M pc lv (.long y :: .long x :: st) h ret hf := by
  obtain ⟨d, rfl⟩ := d
  exact ⟨k.1, k.2.1, fun p l e R s m args below meth c Q D aC A kc ks H ls locs cells slots ads hC hS hV hE => lv_lrem hC.1 hC.2.1 d hne (k.2.2 p l e R s m args below meth c Q D aC A kc ks H ls locs cells slots ads hC hS hV hE)⟩
theorem ja_lneg {M : ja_Mt} {pc pc' : Nat} {lv : List (Option Value)} {st : List Value} {h : ja_H} {ret : List Value} {hf : ja_H} {x : Int64} (d : ja_At M pc .lneg 1 pc')  (k : ja_J M pc' lv (.long (-x) :: st) h ret hf) : ja_J M pc lv (.long x :: st) h ret hf := by
  obtain ⟨d, rfl⟩ := d
  exact ⟨k.1, k.2.1, fun p l e R s m args below meth c Q D aC A kc ks H ls locs cells slots ads hC hS hV hE => lv_lneg hC.1 hC.2.1 d  (k.2.2 p l e R s m args below meth c Q D aC A kc ks H ls locs cells slots ads hC hS hV hE)⟩
theorem ja_i2l {M : ja_Mt} {pc pc' : Nat} {lv : List (Option Value)} {st : List Value} {h : ja_H} {ret : List Value} {hf : ja_H} {x : Int32} (d : ja_At M pc .i2l 1 pc')  (k : ja_J M pc' lv (.long x.toInt64 :: st) h ret hf) : ja_J M pc lv (.int x :: st) h ret hf := by
  obtain ⟨d, rfl⟩ := d
  exact ⟨k.1, k.2.1, fun p l e R s m args below meth c Q D aC A kc ks H ls locs cells slots ads hC hS hV hE => lv_i2l hC.1 hC.2.1 d rfl (k.2.2 p l e R s m args below meth c Q D aC A kc ks H ls locs cells slots ads hC hS hV hE)⟩
theorem ja_l2i {M : ja_Mt} {pc pc' : Nat} {lv : List (Option Value)} {st : List Value} {h : ja_H} {ret : List Value} {hf : ja_H} {x : Int64} (d : ja_At M pc .l2i 1 pc')  (k : ja_J M pc' lv (.int x.toInt32 :: st) h ret hf) : ja_J M pc lv (.long x :: st) h ret hf := by
  obtain ⟨d, rfl⟩ := d
  exact ⟨k.1, k.2.1, fun p l e R s m args below meth c Q D aC A kc ks H ls locs cells slots ads hC hS hV hE => lv_l2i hC.1 hC.2.1 d rfl (k.2.2 p l e R s m args below meth c Q D aC A kc ks H ls locs cells slots ads hC hS hV hE)⟩
theorem ja_i2b {M : ja_Mt} {pc pc' : Nat} {lv : List (Option Value)} {st : List Value} {h : ja_H} {ret : List Value} {hf : ja_H} {x : Int32} (d : ja_At M pc .i2b 1 pc')  (k : ja_J M pc' lv (.int x.toInt8.toInt32 :: st) h ret hf) : ja_J M pc lv (.int x :: st) h ret hf := by
  obtain ⟨d, rfl⟩ := d
  exact ⟨k.1, k.2.1, fun p l e R s m args below meth c Q D aC A kc ks H ls locs cells slots ads hC hS hV hE => lv_i2b hC.1 hC.2.1 d rfl (k.2.2 p l e R s m args below meth c Q D aC A kc ks H ls locs cells slots ads hC hS hV hE)⟩
theorem ja_i2s {M : ja_Mt} {pc pc' : Nat} {lv : List (Option Value)} {st : List Value} {h : ja_H} {ret : List Value} {hf : ja_H} {x : Int32} (d : ja_At M pc .i2s 1 pc')  (k : ja_J M pc' lv (.int x.toInt16.toInt32 :: st) h ret hf) : ja_J M pc lv (.int x :: st) h ret hf := by
  obtain ⟨d, rfl⟩ := d
  exact ⟨k.1, k.2.1, fun p l e R s m args below meth c Q D aC A kc ks H ls locs cells slots ads hC hS hV hE => lv_i2s hC.1 hC.2.1 d rfl (k.2.2 p l e R s m args below meth c Q D aC A kc ks H ls locs cells slots ads hC hS hV hE)⟩
theorem ja_iushr {M : ja_Mt} {pc pc' : Nat} {lv : List (Option Value)} {st : List Value} {h : ja_H} {ret : List Value} {hf : ja_H} {x y : Int32} (d : ja_At M pc .iushr 1 pc')  (k : ja_J M pc' lv (.int (x.toUInt32 >>> (y.toUInt32 &&& Int32.toUInt32 31)).toInt32 :: st) h ret hf) : ja_J M pc lv (.int y :: .int x :: st) h ret hf := by
  obtain ⟨d, rfl⟩ := d
  exact ⟨k.1, k.2.1, fun p l e R s m args below meth c Q D aC A kc ks H ls locs cells slots ads hC hS hV hE => lv_iushr hC.1 hC.2.1 d rfl (k.2.2 p l e R s m args below meth c Q D aC A kc ks H ls locs cells slots ads hC hS hV hE)⟩
theorem ja_lushr {M : ja_Mt} {pc pc' : Nat} {lv : List (Option Value)} {st : List Value} {h : ja_H} {ret : List Value} {hf : ja_H} {x : Int64} {y : Int32} (d : ja_At M pc .lushr 1 pc')  (k : ja_J M pc' lv (.long (x.toUInt64 >>> (y.toInt64.toUInt64 &&& Int64.toUInt64 63)).toInt64 :: st) h ret hf) : ja_J M pc lv (.int y :: .long x :: st) h ret hf := by
  obtain ⟨d, rfl⟩ := d
  exact ⟨k.1, k.2.1, fun p l e R s m args below meth c Q D aC A kc ks H ls locs cells slots ads hC hS hV hE => lv_lushr hC.1 hC.2.1 d rfl (k.2.2 p l e R s m args below meth c Q D aC A kc ks H ls locs cells slots ads hC hS hV hE)⟩
theorem ja_lshl {M : ja_Mt} {pc pc' : Nat} {lv : List (Option Value)} {st : List Value} {h : ja_H} {ret : List Value} {hf : ja_H} {x : Int64} {y : Int32} (d : ja_At M pc .lshl 1 pc')  (k : ja_J M pc' lv (.long (x <<< (y.toInt64 &&& 63)) :: st) h ret hf) : ja_J M pc lv (.int y :: .long x :: st) h ret hf := by
  obtain ⟨d, rfl⟩ := d
  exact ⟨k.1, k.2.1, fun p l e R s m args below meth c Q D aC A kc ks H ls locs cells slots ads hC hS hV hE => lv_lshl hC.1 hC.2.1 d rfl (k.2.2 p l e R s m args below meth c Q D aC A kc ks H ls locs cells slots ads hC hS hV hE)⟩
theorem ja_lshr {M : ja_Mt} {pc pc' : Nat} {lv : List (Option Value)} {st : List Value} {h : ja_H} {ret : List Value} {hf : ja_H} {x : Int64} {y : Int32} (d : ja_At M pc .lshr 1 pc')  (k : ja_J M pc' lv (.long (x >>> (y.toInt64 &&& 63)) :: st) h ret hf) : ja_J M pc lv (.int y :: .long x :: st) h ret hf := by
  obtain ⟨d, rfl⟩ := d
  exact ⟨k.1, k.2.1, fun p l e R s m args below meth c Q D aC A kc ks H ls locs cells slots ads hC hS hV hE => lv_lshr hC.1 hC.2.1 d rfl (k.2.2 p l e R s m args below meth c Q D aC A kc ks H ls locs cells slots ads hC hS hV hE)⟩
theorem ja_dupI {M : ja_Mt} {pc pc' : Nat} {lv : List (Option Value)} {st : List Value} {h : ja_H} {ret : List Value} {hf : ja_H} {x : Int32} (d : ja_At M pc .dup 1 pc')  (k : ja_J M pc' lv (.int x :: .int x :: st) h ret hf) : ja_J M pc lv (.int x :: st) h ret hf := by
  obtain ⟨d, rfl⟩ := d
  exact ⟨k.1, k.2.1, fun p l e R s m args below meth c Q D aC A kc ks H ls locs cells slots ads hC hS hV hE => lv_dup hC.1 hC.2.1 d rfl (k.2.2 p l e R s m args below meth c Q D aC A kc ks H ls locs cells slots ads hC hS hV hE)⟩
theorem ja_dupR {M : ja_Mt} {pc pc' : Nat} {lv : List (Option Value)} {st : List Value} {h : ja_H} {ret : List Value} {hf : ja_H} {x : Nat} (d : ja_At M pc .dup 1 pc') (k : ja_J M pc' lv (.ref x :: .ref x :: st) h ret hf) : ja_J M pc lv (.ref x :: st) h ret hf := by
  obtain ⟨d, rfl⟩ := d
  exact ⟨k.1, fun v => k.2.1 ⟨v.1, v.2.1, v.2.2.1, v.2.2⟩, fun p l e R s m args below meth c Q D aC A kc ks H ls locs cells slots ads hC hS hV hE => lv_dup hC.1 hC.2.1 d rfl (k.2.2 p l e R s m args below meth c Q D aC A kc ks H ls locs cells slots ads hC hS ⟨hV.1, hV.2.1, hV.2.2.1, hV.2.2⟩ hE)⟩
theorem ja_dup2 {M : ja_Mt} {pc pc' : Nat} {lv : List (Option Value)} {st : List Value} {h : ja_H} {ret : List Value} {hf : ja_H} {x : Int32} {a : Nat} (d : ja_At M pc .dup2 1 pc') (k : ja_J M pc' lv (.int x :: .ref a :: .int x :: .ref a :: st) h ret hf) : ja_J M pc lv (.int x :: .ref a :: st) h ret hf := by
  obtain ⟨d, rfl⟩ := d
  exact ⟨k.1, fun v => k.2.1 ⟨v.1, v.2.1, v.2.2.1, v.2.2⟩, fun p l e R s m args below meth c Q D aC A kc ks H ls locs cells slots ads hC hS hV hE => lv_dup2_11 hC.1 hC.2.1 d rfl rfl (k.2.2 p l e R s m args below meth c Q D aC A kc ks H ls locs cells slots ads hC hS ⟨hV.1, hV.2.1, hV.2.2.1, hV.2.2⟩ hE)⟩
theorem ja_popI {M : ja_Mt} {pc pc' : Nat} {lv : List (Option Value)} {st : List Value} {h : ja_H} {ret : List Value} {hf : ja_H} {x : Int32} (d : ja_At M pc .pop 1 pc') (k : ja_J M pc' lv st h ret hf) : ja_J M pc lv (.int x :: st) h ret hf := by
  obtain ⟨d, rfl⟩ := d
  exact ⟨k.1, k.2.1, fun p l e R s m args below meth c Q D aC A kc ks H ls locs cells slots ads hC hS hV hE => lv_pop hC.1 hC.2.1 d rfl (k.2.2 p l e R s m args below meth c Q D aC A kc ks H ls locs cells slots ads hC hS hV hE)⟩
theorem ja_if_eq {M : ja_Mt} {pc pc' : Nat} {lv : List (Option Value)} {st : List Value} {h : ja_H} {ret : List Value} {hf : ja_H} {x : Int32} {off : Int} {tgt : Nat} (d : ja_At M pc (.ifCond .eq off) 3 pc') (ht : (pc : Int) + off = (tgt : Int)) (kt : x = 0 → ja_J M tgt lv st h ret hf) (kf : ¬ x = 0 → ja_J M pc' lv st h ret hf) : ja_J M pc lv (.int x :: st) h ret hf := by
  obtain ⟨d, rfl⟩ := d
  have k : ja_J M tgt lv st h ret hf ∨ ja_J M (pc + 3) lv st h ret hf := by
    by_cases hc : x = 0
    · exact Or.inl (kt hc)
    · exact Or.inr (kf (by first | exact hc | exact Classical.not_not.mp hc))
  exact ⟨k.elim (fun k => k.1) (fun k => k.1), k.elim (fun k => k.2.1) (fun k => k.2.1), fun p l e R s m args below meth c Q D aC A kc ks H ls locs cells slots ads hC hS hV hE => lv_if_eq hC.1 hC.2.1 d ht (fun q => (kt q).2.2 p l e R s m args below meth c Q D aC A kc ks H ls locs cells slots ads hC hS hV hE) (fun q => (kf q).2.2 p l e R s m args below meth c Q D aC A kc ks H ls locs cells slots ads hC hS hV hE)⟩
theorem ja_icmp_eq {M : ja_Mt} {pc pc' : Nat} {lv : List (Option Value)} {st : List Value} {h : ja_H} {ret : List Value} {hf : ja_H} {x y : Int32} {off : Int} {tgt : Nat} (d : ja_At M pc (.if_icmp .eq off) 3 pc') (ht : (pc : Int) + off = (tgt : Int)) (kt : x = y → ja_J M tgt lv st h ret hf) (kf : ¬ x = y → ja_J M pc' lv st h ret hf) : ja_J M pc lv (.int y :: .int x :: st) h ret hf := by
  obtain ⟨d, rfl⟩ := d
  have k : ja_J M tgt lv st h ret hf ∨ ja_J M (pc + 3) lv st h ret hf := by
    by_cases hc : x = y
    · exact Or.inl (kt hc)
    · exact Or.inr (kf (by first | exact hc | exact Classical.not_not.mp hc))
  exact ⟨k.elim (fun k => k.1) (fun k => k.1), k.elim (fun k => k.2.1) (fun k => k.2.1), fun p l e R s m args below meth c Q D aC A kc ks H ls locs cells slots ads hC hS hV hE => lv_icmp_eq hC.1 hC.2.1 d ht (fun q => (kt q).2.2 p l e R s m args below meth c Q D aC A kc ks H ls locs cells slots ads hC hS hV hE) (fun q => (kf q).2.2 p l e R s m args below meth c Q D aC A kc ks H ls locs cells slots ads hC hS hV hE)⟩
theorem ja_if_ne {M : ja_Mt} {pc pc' : Nat} {lv : List (Option Value)} {st : List Value} {h : ja_H} {ret : List Value} {hf : ja_H} {x : Int32} {off : Int} {tgt : Nat} (d : ja_At M pc (.ifCond .ne off) 3 pc') (ht : (pc : Int) + off = (tgt : Int)) (kt : ¬ x = 0 → ja_J M tgt lv st h ret hf) (kf : x = 0 → ja_J M pc' lv st h ret hf) : ja_J M pc lv (.int x :: st) h ret hf := by
  obtain ⟨d, rfl⟩ := d
  have k : ja_J M tgt lv st h ret hf ∨ ja_J M (pc + 3) lv st h ret hf := by
    by_cases hc : ¬ x = 0
    · exact Or.inl (kt hc)
    · exact Or.inr (kf (by first | exact hc | exact Classical.not_not.mp hc))
  exact ⟨k.elim (fun k => k.1) (fun k => k.1), k.elim (fun k => k.2.1) (fun k => k.2.1), fun p l e R s m args below meth c Q D aC A kc ks H ls locs cells slots ads hC hS hV hE => lv_if_ne hC.1 hC.2.1 d ht (fun q => (kt q).2.2 p l e R s m args below meth c Q D aC A kc ks H ls locs cells slots ads hC hS hV hE) (fun q => (kf q).2.2 p l e R s m args below meth c Q D aC A kc ks H ls locs cells slots ads hC hS hV hE)⟩
theorem ja_icmp_ne {M : ja_Mt} {pc pc' : Nat} {lv : List (Option Value)} {st : List Value} {h : ja_H} {ret : List Value} {hf : ja_H} {x y : Int32} {off : Int} {tgt : Nat} (d : ja_At M pc (.if_icmp .ne off) 3 pc') (ht : (pc : Int) + off = (tgt : Int)) (kt : ¬ x = y → ja_J M tgt lv st h ret hf) (kf : x = y → ja_J M pc' lv st h ret hf) : ja_J M pc lv (.int y :: .int x :: st) h ret hf := by
  obtain ⟨d, rfl⟩ := d
  have k : ja_J M tgt lv st h ret hf ∨ ja_J M (pc + 3) lv st h ret hf := by
    by_cases hc : ¬ x = y
    · exact Or.inl (kt hc)
    · exact Or.inr (kf (by first | exact hc | exact Classical.not_not.mp hc))
  exact ⟨k.elim (fun k => k.1) (fun k => k.1), k.elim (fun k => k.2.1) (fun k => k.2.1), fun p l e R s m args below meth c Q D aC A kc ks H ls locs cells slots ads hC hS hV hE => lv_icmp_ne hC.1 hC.2.1 d ht (fun q => (kt q).2.2 p l e R s m args below meth c Q D aC A kc ks H ls locs cells slots ads hC hS hV hE) (fun q => (kf q).2.2 p l e R s m args below meth c Q D aC A kc ks H ls locs cells slots ads hC hS hV hE)⟩
theorem ja_if_lt {M : ja_Mt} {pc pc' : Nat} {lv : List (Option Value)} {st : List Value} {h : ja_H} {ret : List Value} {hf : ja_H} {x : Int32} {off : Int} {tgt : Nat} (d : ja_At M pc (.ifCond .lt off) 3 pc') (ht : (pc : Int) + off = (tgt : Int)) (kt : x < 0 → ja_J M tgt lv st h ret hf) (kf : ¬ x < 0 → ja_J M pc' lv st h ret hf) : ja_J M pc lv (.int x :: st) h ret hf := by
  obtain ⟨d, rfl⟩ := d
  have k : ja_J M tgt lv st h ret hf ∨ ja_J M (pc + 3) lv st h ret hf := by
    by_cases hc : x < 0
    · exact Or.inl (kt hc)
    · exact Or.inr (kf (by first | exact hc | exact Classical.not_not.mp hc))
  exact ⟨k.elim (fun k => k.1) (fun k => k.1), k.elim (fun k => k.2.1) (fun k => k.2.1), fun p l e R s m args below meth c Q D aC A kc ks H ls locs cells slots ads hC hS hV hE => lv_if_lt hC.1 hC.2.1 d ht (fun q => (kt q).2.2 p l e R s m args below meth c Q D aC A kc ks H ls locs cells slots ads hC hS hV hE) (fun q => (kf q).2.2 p l e R s m args below meth c Q D aC A kc ks H ls locs cells slots ads hC hS hV hE)⟩
theorem ja_icmp_lt {M : ja_Mt} {pc pc' : Nat} {lv : List (Option Value)} {st : List Value} {h : ja_H} {ret : List Value} {hf : ja_H} {x y : Int32} {off : Int} {tgt : Nat} (d : ja_At M pc (.if_icmp .lt off) 3 pc') (ht : (pc : Int) + off = (tgt : Int)) (kt : x < y → ja_J M tgt lv st h ret hf) (kf : ¬ x < y → ja_J M pc' lv st h ret hf) : ja_J M pc lv (.int y :: .int x :: st) h ret hf := by
  obtain ⟨d, rfl⟩ := d
  have k : ja_J M tgt lv st h ret hf ∨ ja_J M (pc + 3) lv st h ret hf := by
    by_cases hc : x < y
    · exact Or.inl (kt hc)
    · exact Or.inr (kf (by first | exact hc | exact Classical.not_not.mp hc))
  exact ⟨k.elim (fun k => k.1) (fun k => k.1), k.elim (fun k => k.2.1) (fun k => k.2.1), fun p l e R s m args below meth c Q D aC A kc ks H ls locs cells slots ads hC hS hV hE => lv_icmp_lt hC.1 hC.2.1 d ht (fun q => (kt q).2.2 p l e R s m args below meth c Q D aC A kc ks H ls locs cells slots ads hC hS hV hE) (fun q => (kf q).2.2 p l e R s m args below meth c Q D aC A kc ks H ls locs cells slots ads hC hS hV hE)⟩
theorem ja_if_ge {M : ja_Mt} {pc pc' : Nat} {lv : List (Option Value)} {st : List Value} {h : ja_H} {ret : List Value} {hf : ja_H} {x : Int32} {off : Int} {tgt : Nat} (d : ja_At M pc (.ifCond .ge off) 3 pc') (ht : (pc : Int) + off = (tgt : Int)) (kt : 0 ≤ x → ja_J M tgt lv st h ret hf) (kf : ¬ 0 ≤ x → ja_J M pc' lv st h ret hf) : ja_J M pc lv (.int x :: st) h ret hf := by
  obtain ⟨d, rfl⟩ := d
  have k : ja_J M tgt lv st h ret hf ∨ ja_J M (pc + 3) lv st h ret hf := by
    by_cases hc : 0 ≤ x
    · exact Or.inl (kt hc)
    · exact Or.inr (kf (by first | exact hc | exact Classical.not_not.mp hc))
  exact ⟨k.elim (fun k => k.1) (fun k => k.1), k.elim (fun k => k.2.1) (fun k => k.2.1), fun p l e R s m args below meth c Q D aC A kc ks H ls locs cells slots ads hC hS hV hE => lv_if_ge hC.1 hC.2.1 d ht (fun q => (kt q).2.2 p l e R s m args below meth c Q D aC A kc ks H ls locs cells slots ads hC hS hV hE) (fun q => (kf q).2.2 p l e R s m args below meth c Q D aC A kc ks H ls locs cells slots ads hC hS hV hE)⟩
theorem ja_icmp_ge {M : ja_Mt} {pc pc' : Nat} {lv : List (Option Value)} {st : List Value} {h : ja_H} {ret : List Value} {hf : ja_H} {x y : Int32} {off : Int} {tgt : Nat} (d : ja_At M pc (.if_icmp .ge off) 3 pc') (ht : (pc : Int) + off = (tgt : Int)) (kt : y ≤ x → ja_J M tgt lv st h ret hf) (kf : ¬ y ≤ x → ja_J M pc' lv st h ret hf) : ja_J M pc lv (.int y :: .int x :: st) h ret hf := by
  obtain ⟨d, rfl⟩ := d
  have k : ja_J M tgt lv st h ret hf ∨ ja_J M (pc + 3) lv st h ret hf := by
    by_cases hc : y ≤ x
    · exact Or.inl (kt hc)
    · exact Or.inr (kf (by first | exact hc | exact Classical.not_not.mp hc))
  exact ⟨k.elim (fun k => k.1) (fun k => k.1), k.elim (fun k => k.2.1) (fun k => k.2.1), fun p l e R s m args below meth c Q D aC A kc ks H ls locs cells slots ads hC hS hV hE => lv_icmp_ge hC.1 hC.2.1 d ht (fun q => (kt q).2.2 p l e R s m args below meth c Q D aC A kc ks H ls locs cells slots ads hC hS hV hE) (fun q => (kf q).2.2 p l e R s m args below meth c Q D aC A kc ks H ls locs cells slots ads hC hS hV hE)⟩
theorem ja_if_gt {M : ja_Mt} {pc pc' : Nat} {lv : List (Option Value)} {st : List Value} {h : ja_H} {ret : List Value} {hf : ja_H} {x : Int32} {off : Int} {tgt : Nat} (d : ja_At M pc (.ifCond .gt off) 3 pc') (ht : (pc : Int) + off = (tgt : Int)) (kt : 0 < x → ja_J M tgt lv st h ret hf) (kf : ¬ 0 < x → ja_J M pc' lv st h ret hf) : ja_J M pc lv (.int x :: st) h ret hf := by
  obtain ⟨d, rfl⟩ := d
  have k : ja_J M tgt lv st h ret hf ∨ ja_J M (pc + 3) lv st h ret hf := by
    by_cases hc : 0 < x
    · exact Or.inl (kt hc)
    · exact Or.inr (kf (by first | exact hc | exact Classical.not_not.mp hc))
  exact ⟨k.elim (fun k => k.1) (fun k => k.1), k.elim (fun k => k.2.1) (fun k => k.2.1), fun p l e R s m args below meth c Q D aC A kc ks H ls locs cells slots ads hC hS hV hE => lv_if_gt hC.1 hC.2.1 d ht (fun q => (kt q).2.2 p l e R s m args below meth c Q D aC A kc ks H ls locs cells slots ads hC hS hV hE) (fun q => (kf q).2.2 p l e R s m args below meth c Q D aC A kc ks H ls locs cells slots ads hC hS hV hE)⟩
theorem ja_icmp_gt {M : ja_Mt} {pc pc' : Nat} {lv : List (Option Value)} {st : List Value} {h : ja_H} {ret : List Value} {hf : ja_H} {x y : Int32} {off : Int} {tgt : Nat} (d : ja_At M pc (.if_icmp .gt off) 3 pc') (ht : (pc : Int) + off = (tgt : Int)) (kt : y < x → ja_J M tgt lv st h ret hf) (kf : ¬ y < x → ja_J M pc' lv st h ret hf) : ja_J M pc lv (.int y :: .int x :: st) h ret hf := by
  obtain ⟨d, rfl⟩ := d
  have k : ja_J M tgt lv st h ret hf ∨ ja_J M (pc + 3) lv st h ret hf := by
    by_cases hc : y < x
    · exact Or.inl (kt hc)
    · exact Or.inr (kf (by first | exact hc | exact Classical.not_not.mp hc))
  exact ⟨k.elim (fun k => k.1) (fun k => k.1), k.elim (fun k => k.2.1) (fun k => k.2.1), fun p l e R s m args below meth c Q D aC A kc ks H ls locs cells slots ads hC hS hV hE => lv_icmp_gt hC.1 hC.2.1 d ht (fun q => (kt q).2.2 p l e R s m args below meth c Q D aC A kc ks H ls locs cells slots ads hC hS hV hE) (fun q => (kf q).2.2 p l e R s m args below meth c Q D aC A kc ks H ls locs cells slots ads hC hS hV hE)⟩
theorem ja_if_le {M : ja_Mt} {pc pc' : Nat} {lv : List (Option Value)} {st : List Value} {h : ja_H} {ret : List Value} {hf : ja_H} {x : Int32} {off : Int} {tgt : Nat} (d : ja_At M pc (.ifCond .le off) 3 pc') (ht : (pc : Int) + off = (tgt : Int)) (kt : x ≤ 0 → ja_J M tgt lv st h ret hf) (kf : ¬ x ≤ 0 → ja_J M pc' lv st h ret hf) : ja_J M pc lv (.int x :: st) h ret hf := by
  obtain ⟨d, rfl⟩ := d
  have k : ja_J M tgt lv st h ret hf ∨ ja_J M (pc + 3) lv st h ret hf := by
    by_cases hc : x ≤ 0
    · exact Or.inl (kt hc)
    · exact Or.inr (kf (by first | exact hc | exact Classical.not_not.mp hc))
  exact ⟨k.elim (fun k => k.1) (fun k => k.1), k.elim (fun k => k.2.1) (fun k => k.2.1), fun p l e R s m args below meth c Q D aC A kc ks H ls locs cells slots ads hC hS hV hE => lv_if_le hC.1 hC.2.1 d ht (fun q => (kt q).2.2 p l e R s m args below meth c Q D aC A kc ks H ls locs cells slots ads hC hS hV hE) (fun q => (kf q).2.2 p l e R s m args below meth c Q D aC A kc ks H ls locs cells slots ads hC hS hV hE)⟩
theorem ja_icmp_le {M : ja_Mt} {pc pc' : Nat} {lv : List (Option Value)} {st : List Value} {h : ja_H} {ret : List Value} {hf : ja_H} {x y : Int32} {off : Int} {tgt : Nat} (d : ja_At M pc (.if_icmp .le off) 3 pc') (ht : (pc : Int) + off = (tgt : Int)) (kt : x ≤ y → ja_J M tgt lv st h ret hf) (kf : ¬ x ≤ y → ja_J M pc' lv st h ret hf) : ja_J M pc lv (.int y :: .int x :: st) h ret hf := by
  obtain ⟨d, rfl⟩ := d
  have k : ja_J M tgt lv st h ret hf ∨ ja_J M (pc + 3) lv st h ret hf := by
    by_cases hc : x ≤ y
    · exact Or.inl (kt hc)
    · exact Or.inr (kf (by first | exact hc | exact Classical.not_not.mp hc))
  exact ⟨k.elim (fun k => k.1) (fun k => k.1), k.elim (fun k => k.2.1) (fun k => k.2.1), fun p l e R s m args below meth c Q D aC A kc ks H ls locs cells slots ads hC hS hV hE => lv_icmp_le hC.1 hC.2.1 d ht (fun q => (kt q).2.2 p l e R s m args below meth c Q D aC A kc ks H ls locs cells slots ads hC hS hV hE) (fun q => (kf q).2.2 p l e R s m args below meth c Q D aC A kc ks H ls locs cells slots ads hC hS hV hE)⟩
theorem ja_goto {M : ja_Mt} {pc pc' : Nat} {lv : List (Option Value)} {st : List Value} {h : ja_H} {ret : List Value} {hf : ja_H} {off : Int} {tgt : Nat} (d : ja_At M pc (.goto off) 3 pc') (ht : (pc : Int) + off = (tgt : Int)) (k : ja_J M tgt lv st h ret hf) : ja_J M pc lv st h ret hf :=
  ⟨k.1, k.2.1, fun p l e R s m args below meth c Q D aC A kc ks H ls locs cells slots ads hC hS hV hE => lv_goto hC.1 hC.2.1 d.1 ht (k.2.2 p l e R s m args below meth c Q D aC A kc ks H ls locs cells slots ads hC hS hV hE)⟩
theorem ja_ifnull {M : ja_Mt} {pc pc' : Nat} {lv : List (Option Value)} {st : List Value} {h : ja_H} {ret : List Value} {hf : ja_H} {x : Nat} {off : Int} (d : ja_At M pc (.ifnull off) 3 pc') (k : ja_J M pc' lv st h ret hf) : ja_J M pc lv (.ref x :: st) h ret hf := by
  obtain ⟨d, rfl⟩ := d
  exact ⟨k.1, fun v => k.2.1 ⟨v.1, v.2.1, v.2.2.2⟩, fun p l e R s m args below meth c Q D aC A kc ks H ls locs cells slots ads hC hS hV hE => lv_ifnull hC.1 hC.2.1 d (k.2.2 p l e R s m args below meth c Q D aC A kc ks H ls locs cells slots ads hC hS ⟨hV.1, hV.2.1, hV.2.2.2⟩ hE)⟩
theorem ja_ifnullN {M : ja_Mt} {pc pc' : Nat} {lv : List (Option Value)} {st : List Value} {h : ja_H} {ret : List Value} {hf : ja_H} {off : Int} {tgt : Nat} (d : ja_At M pc (.ifnull off) 3 pc') (ht : (pc : Int) + off = (tgt : Int)) (k : ja_J M tgt lv st h ret hf) : ja_J M pc lv (.null :: st) h ret hf :=
  ⟨k.1, k.2.1, fun p l e R s m args below meth c Q D aC A kc ks H ls locs cells slots ads hC hS hV hE => lv_ifnullN hC.1 hC.2.1 d.1 ht (k.2.2 p l e R s m args below meth c Q D aC A kc ks H ls locs cells slots ads hC hS hV hE)⟩
theorem ja_ifnonnull {M : ja_Mt} {pc pc' : Nat} {lv : List (Option Value)} {st : List Value} {h : ja_H} {ret : List Value} {hf : ja_H} {x : Nat} {off : Int} {tgt : Nat} (d : ja_At M pc (.ifnonnull off) 3 pc') (ht : (pc : Int) + off = (tgt : Int)) (k : ja_J M tgt lv st h ret hf) : ja_J M pc lv (.ref x :: st) h ret hf :=
  ⟨k.1, fun v => k.2.1 ⟨v.1, v.2.1, v.2.2.2⟩, fun p l e R s m args below meth c Q D aC A kc ks H ls locs cells slots ads hC hS hV hE => lv_ifnonnull hC.1 hC.2.1 d.1 ht (k.2.2 p l e R s m args below meth c Q D aC A kc ks H ls locs cells slots ads hC hS ⟨hV.1, hV.2.1, hV.2.2.2⟩ hE)⟩
theorem ja_ifnonnullN {M : ja_Mt} {pc pc' : Nat} {lv : List (Option Value)} {st : List Value} {h : ja_H} {ret : List Value} {hf : ja_H} {off : Int} (d : ja_At M pc (.ifnonnull off) 3 pc') (k : ja_J M pc' lv st h ret hf) : ja_J M pc lv (.null :: st) h ret hf := by
  obtain ⟨d, rfl⟩ := d
  exact ⟨k.1, k.2.1, fun p l e R s m args below meth c Q D aC A kc ks H ls locs cells slots ads hC hS hV hE => lv_ifnonnullN hC.1 hC.2.1 d (k.2.2 p l e R s m args below meth c Q D aC A kc ks H ls locs cells slots ads hC hS hV hE)⟩
theorem ja_lcmp {M : ja_Mt} {pc pc' : Nat} {lv : List (Option Value)} {st : List Value} {h : ja_H} {ret : List Value} {hf : ja_H} {x y : Int64} (d : ja_At M pc .lcmp 1 pc')  (k : ja_J M pc' lv (.int (lg_cmp x y) :: st) h ret hf) : ja_J M pc lv (.long y :: .long x :: st) h ret hf := by
  obtain ⟨d, rfl⟩ := d
  exact ⟨k.1, k.2.1, fun p l e R s m args below meth c Q D aC A kc ks H ls locs cells slots ads hC hS hV hE => W.lcmp hC.1 hC.2.1 d  (k.2.2 p l e R s m args below meth c Q D aC A kc ks H ls locs cells slots ads hC hS hV hE)⟩
theorem ja_lcmp_lt {M : ja_Mt} {pc pc1 pc' tgt : Nat} {off : Int} {lv : List (Option Value)} {st : List Value} {h : ja_H} {ret : List Value} {hf : ja_H} {x y : Int64} (d : ja_At M pc .lcmp 1 pc1) (d2 : ja_At M pc1 (.ifCond .lt off) 3 pc') (ht : (pc1 : Int) + off = (tgt : Int)) (kt : x < y → ja_J M tgt lv st h ret hf) (kf : ¬ x < y → ja_J M pc' lv st h ret hf) : ja_J M pc lv (.long y :: .long x :: st) h ret hf :=
  ja_lcmp d (ja_if_lt d2 ht (fun q => kt ((lg_cmp_lt x y).mp q)) (fun q => kf (fun z => q ((lg_cmp_lt x y).mpr z))))
theorem ja_lcmp_ge {M : ja_Mt} {pc pc1 pc' tgt : Nat} {off : Int} {lv : List (Option Value)} {st : List Value} {h : ja_H} {ret : List Value} {hf : ja_H} {x y : Int64} (d : ja_At M pc .lcmp 1 pc1) (d2 : ja_At M pc1 (.ifCond .ge off) 3 pc') (ht : (pc1 : Int) + off = (tgt : Int)) (kt : y ≤ x → ja_J M tgt lv st h ret hf) (kf : ¬ y ≤ x → ja_J M pc' lv st h ret hf) : ja_J M pc lv (.long y :: .long x :: st) h ret hf :=
  ja_lcmp d (ja_if_ge d2 ht (fun q => kt ((lg_cmp_ge x y).mp q)) (fun q => kf (fun z => q ((lg_cmp_ge x y).mpr z))))
theorem ja_lcmp_gt {M : ja_Mt} {pc pc1 pc' tgt : Nat} {off : Int} {lv : List (Option Value)} {st : List Value} {h : ja_H} {ret : List Value} {hf : ja_H} {x y : Int64} (d : ja_At M pc .lcmp 1 pc1) (d2 : ja_At M pc1 (.ifCond .gt off) 3 pc') (ht : (pc1 : Int) + off = (tgt : Int)) (kt : y < x → ja_J M tgt lv st h ret hf) (kf : ¬ y < x → ja_J M pc' lv st h ret hf) : ja_J M pc lv (.long y :: .long x :: st) h ret hf :=
  ja_lcmp d (ja_if_gt d2 ht (fun q => kt ((lg_cmp_gt x y).mp q)) (fun q => kf (fun z => q ((lg_cmp_gt x y).mpr z))))
theorem ja_lcmp_le {M : ja_Mt} {pc pc1 pc' tgt : Nat} {off : Int} {lv : List (Option Value)} {st : List Value} {h : ja_H} {ret : List Value} {hf : ja_H} {x y : Int64} (d : ja_At M pc .lcmp 1 pc1) (d2 : ja_At M pc1 (.ifCond .le off) 3 pc') (ht : (pc1 : Int) + off = (tgt : Int)) (kt : x ≤ y → ja_J M tgt lv st h ret hf) (kf : ¬ x ≤ y → ja_J M pc' lv st h ret hf) : ja_J M pc lv (.long y :: .long x :: st) h ret hf :=
  ja_lcmp d (ja_if_le d2 ht (fun q => kt ((lg_cmp_le x y).mp q)) (fun q => kf (fun z => q ((lg_cmp_le x y).mpr z))))
theorem ja_lcmp_eq {M : ja_Mt} {pc pc1 pc' tgt : Nat} {off : Int} {lv : List (Option Value)} {st : List Value} {h : ja_H} {ret : List Value} {hf : ja_H} {x y : Int64} (d : ja_At M pc .lcmp 1 pc1) (d2 : ja_At M pc1 (.ifCond .eq off) 3 pc') (ht : (pc1 : Int) + off = (tgt : Int)) (kt : x = y → ja_J M tgt lv st h ret hf) (kf : ¬ x = y → ja_J M pc' lv st h ret hf) : ja_J M pc lv (.long y :: .long x :: st) h ret hf :=
  ja_lcmp d (ja_if_eq d2 ht (fun q => kt ((lg_cmp_eq x y).mp q)) (fun q => kf (fun z => q ((lg_cmp_eq x y).mpr z))))
theorem ja_lcmp_ne {M : ja_Mt} {pc pc1 pc' tgt : Nat} {off : Int} {lv : List (Option Value)} {st : List Value} {h : ja_H} {ret : List Value} {hf : ja_H} {x y : Int64} (d : ja_At M pc .lcmp 1 pc1) (d2 : ja_At M pc1 (.ifCond .ne off) 3 pc') (ht : (pc1 : Int) + off = (tgt : Int)) (kt : ¬ x = y → ja_J M tgt lv st h ret hf) (kf : x = y → ja_J M pc' lv st h ret hf) : ja_J M pc lv (.long y :: .long x :: st) h ret hf :=
  ja_lcmp d (ja_if_ne d2 ht (fun q => kt (fun z => q ((lg_cmp_eq x y).mpr z))) (fun q => kf ((lg_cmp_eq x y).mp q)))
theorem ja_tsIn {M : ja_Mt} {pc pc' : Nat} {lv : List (Option Value)} {st : List Value} {h : ja_H} {ret : List Value} {hf : ja_H} {dflt lo hi : Int} {offs : Array Int} {len : Nat} {x : Int32} {off : Int} {tgt : Nat} (d : ja_At M pc (.tableswitch dflt lo hi offs) len pc') (v : Int32) (hv : x = v) (h1 : ¬ v.toInt < lo) (h2 : ¬ hi < v.toInt) (ho : offs[(v.toInt - lo).toNat]? = some off) (ht : (pc : Int) + off = (tgt : Int)) (k : ja_J M tgt lv st h ret hf) : ja_J M pc lv (.int x :: st) h ret hf := by
  subst hv
  exact ⟨k.1, k.2.1, fun p l e R s m args below meth c Q D aC A kc ks H ls locs cells slots ads hC hS hV hE => lv_tableIn hC.1 hC.2.1 d.1 h1 h2 ho ht (k.2.2 p l e R s m args below meth c Q D aC A kc ks H ls locs cells slots ads hC hS hV hE)⟩
theorem ja_tsOut {M : ja_Mt} {pc pc' : Nat} {lv : List (Option Value)} {st : List Value} {h : ja_H} {ret : List Value} {hf : ja_H} {dflt lo hi : Int} {offs : Array Int} {len : Nat} {x : Int32} {tgt : Nat} (d : ja_At M pc (.tableswitch dflt lo hi offs) len pc') (hx : x.toInt < lo ∨ hi < x.toInt) (ht : (pc : Int) + dflt = (tgt : Int)) (k : ja_J M tgt lv st h ret hf) : ja_J M pc lv (.int x :: st) h ret hf :=
  ⟨k.1, k.2.1, fun p l e R s m args below meth c Q D aC A kc ks H ls locs cells slots ads hC hS hV hE => lv_tableOut hC.1 hC.2.1 d.1 hx ht (k.2.2 p l e R s m args below meth c Q D aC A kc ks H ls locs cells slots ads hC hS hV hE)⟩
theorem ja_lsw {M : ja_Mt} {pc pc' : Nat} {lv : List (Option Value)} {st : List Value} {h : ja_H} {ret : List Value} {hf : ja_H} {dflt : Int} {ps : Array (Int × Int)} {len : Nat} {x : Int32} {off : Int} {tgt : Nat} (d : ja_At M pc (.lookupswitch dflt ps) len pc') (hp : (ps.toList.zip (ps.toList.drop 1)).all (fun (a, next) => a.1 < next.1) = true) (ho : Op.lookupswitch.offset ps.toList dflt x.toInt = off) (ht : (pc : Int) + off = (tgt : Int)) (k : ja_J M tgt lv st h ret hf) : ja_J M pc lv (.int x :: st) h ret hf :=
  ⟨k.1, k.2.1, fun p l e R s m args below meth c Q D aC A kc ks H ls locs cells slots ads hC hS hV hE => lv_lookup hC.1 hC.2.1 d.1 hp ho ht (k.2.2 p l e R s m args below meth c Q D aC A kc ks H ls locs cells slots ads hC hS hV hE)⟩
theorem ja_nf_of {ci : Nat} {C : String} {T : u_T} {N : Nat} (hc : vwCl[ci]? = some (C, T, N)) : ja_nf ci = N := by
  simp [ja_nf, hc]
theorem ja_getV {M : ja_Mt} {pc pc' : Nat} {lv : List (Option Value)} {st : List Value} {h : ja_H} {ret : List Value} {hf : ja_H} {idx ci kf kd i : Nat} {nest : Option String} {v : Value} (F : ja_F M.1 idx ci kf kd nest) (hs : h.1[i]? = some (.inl ci)) (hv : ∀ ads, ja_fv ads h i kf kd = ja_cv ads v) (hvv : ja_V h lv (.ref i :: st) → ja_vs h.1.length (v :: st)) (d : ja_At M pc (.getfield idx) 3 pc') (k : ja_J M pc' lv (v :: st) h ret hf) : ja_J M pc lv (.ref i :: st) h ret hf := by
  obtain ⟨d, rfl⟩ := d
  refine ⟨k.1, fun q => k.2.1 ⟨q.1, q.2.1, hvv q⟩, fun p l e R s m args below meth c Q D aC A kc ks H ls locs cells slots ads hC hS hV hE => ?_⟩
  obtain ⟨C, T, N, hc, hk, hkd, hin, hl⟩ := F
  have hk2 := k.2.2 p l e R s m args below meth c Q D aC A kc ks H ls locs cells slots ads hC hS ⟨hV.1, hV.2.1, hvv hV⟩ hE
  have hg : (ja_fs ads h i ci)[kf]? = some (ja_cv ads v) := by
    rw [ja_fs_get (by rw [ja_nf_of hc]; exact hk), hkd, hv ads]
  cases nest with
  | none => exact va_get hC.1 hC.2.1 hC.2.2.2.2.1 hin hC.2.2.2.1 hC.2.2.2.2.2.1 hS.2.1 i (ja_wl_obj hs) hc kf hk (hC.2.2.2.2.1 _ hl) (fun _ h9 => h9) hg d hk2
  | some host => exact va_getN (host := host) hC.1 hC.2.1 hC.2.2.2.2.1 hin hC.2.2.2.1 hC.2.2.2.2.2.1 hS.2.1 i (ja_wl_obj hs) hc kf hk (va_Nw.use rfl (hC.2.2.2.2.2.2.1.1 _ hl)) (fun _ h9 => h9) hg d hk2
theorem ja_getI {M : ja_Mt} {pc pc' : Nat} {lv : List (Option Value)} {st : List Value} {h : ja_H} {ret : List Value} {hf : ja_H} {idx ci kf i : Nat} {nest : Option String} (F : ja_F M.1 idx ci kf 0 nest) (hs : h.1[i]? = some (.inl ci)) (d : ja_At M pc (.getfield idx) 3 pc') (k : ja_J M pc' lv (.int (h.2.1 i kf) :: st) h ret hf) : ja_J M pc lv (.ref i :: st) h ret hf :=
  ja_getV (v := .int (h.2.1 i kf)) F hs (fun _ => rfl) (fun q => q.2.2.2) d k
theorem ja_getL {M : ja_Mt} {pc pc' : Nat} {lv : List (Option Value)} {st : List Value} {h : ja_H} {ret : List Value} {hf : ja_H} {idx ci kf i : Nat} {nest : Option String} (F : ja_F M.1 idx ci kf 1 nest) (hs : h.1[i]? = some (.inl ci)) (d : ja_At M pc (.getfield idx) 3 pc') (k : ja_J M pc' lv (.long (h.2.2.1 i kf) :: st) h ret hf) : ja_J M pc lv (.ref i :: st) h ret hf :=
  ja_getV (v := .long (h.2.2.1 i kf)) F hs (fun _ => rfl) (fun q => q.2.2.2) d k
theorem ja_getR {M : ja_Mt} {pc pc' : Nat} {lv : List (Option Value)} {st : List Value} {h : ja_H} {ret : List Value} {hf : ja_H} {idx ci kf i r : Nat} {nest : Option String} (F : ja_F M.1 idx ci kf 2 nest) (hs : h.1[i]? = some (.inl ci)) (hr : h.2.2.2.1 i kf = some r) (d : ja_At M pc (.getfield idx) 3 pc') (k : ja_J M pc' lv (.ref r :: st) h ret hf) : ja_J M pc lv (.ref i :: st) h ret hf :=
  ja_getV (v := .ref r) F hs (fun ads => by simp [ja_fv, hr, ja_cv, va_rf]) (fun q => ⟨q.1 _ _ _ hr, q.2.2.2⟩) d k
theorem ja_putV {M : ja_Mt} {pc pc' : Nat} {lv : List (Option Value)} {st : List Value} {h : ja_H} {ret : List Value} {hf : ja_H} {idx ci kf kd i : Nat} {nest : Option String} {ty : FieldType} {v : Value} {h' : ja_H} (F : ja_F M.1 idx ci kf kd nest) (P : ja_FP ci kf ty false) (hs : h.1[i]? = some (.inl ci)) (hn : ∀ ads, narrow ty (ja_cv ads v) = ja_cv ads v) (hfit : ∀ ads, fits ty (ja_cv ads v) = true) (h1 : h'.1 = h.1) (h5 : h'.2.2.2.2 = h.2.2.2.2) (hw : ∀ aC ads, (ja_wl aC ads h).set i (ads i, .inr (ci, (ja_fs ads h i ci).set kf (ja_cv ads v))) = ja_wl aC ads h') (hvv : ja_V h lv (v :: .ref i :: st) → ja_V h' lv st) (d : ja_At M pc (.putfield idx) 3 pc') (k : ja_J M pc' lv st h' ret hf) : ja_J M pc lv (v :: .ref i :: st) h ret hf := by
  obtain ⟨d, rfl⟩ := d
  have e1 : ja_nc h' = ja_nc h := by simp [ja_nc, h1, h5]
  have e2 : ja_ns h' = ja_ns h := by simp [ja_ns, h1, h5]
  refine ⟨by rw [← e1, ← e2, ← h1]; exact k.1, fun q => k.2.1 (hvv q), fun p l e R s m args below meth c Q D aC A kc ks H ls locs cells slots ads hC hS hV hE => ?_⟩
  obtain ⟨C, T, N, hc, hk, hkd, hin, hl⟩ := F
  obtain ⟨C', T', N', hc', hty, hnm, hd, hfin, -⟩ := P
  cases hc.symm.trans hc'
  have hlen : kf < (ja_fs ads h i ci).length := by rw [ja_fs_len, ja_nf_of hc]; exact hk
  have fin : ∀ (H1 : Heap) (locs1 : List Loc), va_P D vwCl ((ja_wl aC ads h).set i (ads i, .inr (ci, (ja_fs ads h i ci).set kf (ja_cv ads v)))) H1 → va_D A ((ja_wl aC ads h).set i (ads i, .inr (ci, (ja_fs ads h i ci).set kf (ja_cv ads v)))) → va_S A s.heap H1 locs1 → W p l e R s m args below meth c H1 locs1 cells slots Q (F0 m (pc + 3) ls (st.map (ja_cv ads))) := by
    intro H1 locs1 hP hD hSS
    rw [hw aC ads] at hP hD
    exact k.2.2 p l e R s m args below meth c Q D aC A kc ks H1 ls locs1 cells slots ads hC ⟨hS.1, hP, hD, hSS, by rw [e1]; exact hS.2.2.2.2.1, by rw [e2]; exact hS.2.2.2.2.2⟩ (hvv hV) (by rw [h1]; exact hE)
  cases nest with
  | none => exact va_put hC.1 hC.2.1 hC.2.2.2.2.1 hin (ja_ty ci) hty hnm hC.2.2.2.1 hC.2.2.2.2.2.1 hS.2.1 hS.2.2.1 hS.2.2.2.1 i (ja_wl_obj hs) hc kf hk (hC.2.2.2.2.1 _ hl) (fun _ h9 => h9) hfin hd (hn ads) (hfit ads) hlen d fin
  | some host => exact va_putN (host := host) hC.1 hC.2.1 hC.2.2.2.2.1 hin (ja_ty ci) hty hnm hC.2.2.2.1 hC.2.2.2.2.2.1 hS.2.1 hS.2.2.1 hS.2.2.2.1 i (ja_wl_obj hs) hc kf hk (va_Nw.use rfl (hC.2.2.2.2.2.2.1.1 _ hl)) (fun _ h9 => h9) hfin hd (hn ads) (hfit ads) hlen d fin
theorem ja_ce_setI {aC : Nat → ClassId} {ads : Nat → Nat} {h : ja_H} {i k c : Nat} {x : Int32} (hs : h.1[i]? = some (.inl c)) (hk : ja_kk c k = 0) : ja_ce aC ads (ja_sI h i k x) i = .inr (c, (ja_fs ads h i c).set k (.int x)) := by
  rw [ja_fs_setI hk]
  simp [ja_ce, ja_sI, hs]
theorem ja_ce_setL {aC : Nat → ClassId} {ads : Nat → Nat} {h : ja_H} {i k c : Nat} {x : Int64} (hs : h.1[i]? = some (.inl c)) (hk : ja_kk c k = 1) : ja_ce aC ads (ja_sL h i k x) i = .inr (c, (ja_fs ads h i c).set k (.long x)) := by
  rw [ja_fs_setL hk]
  simp [ja_ce, ja_sL, hs]
theorem ja_ce_setR {aC : Nat → ClassId} {ads : Nat → Nat} {h : ja_H} {i k c : Nat} {x : Option Nat} (hs : h.1[i]? = some (.inl c)) (hk : ja_kk c k = 2) : ja_ce aC ads (ja_sR h i k x) i = .inr (c, (ja_fs ads h i c).set k (va_rf (x.map ads))) := by
  rw [ja_fs_setR hk]
  simp [ja_ce, ja_sR, hs]
theorem ja_putI {M : ja_Mt} {pc pc' : Nat} {lv : List (Option Value)} {st : List Value} {h : ja_H} {ret : List Value} {hf : ja_H} {idx ci kf i : Nat} {nest : Option String} {ty : FieldType} {x : Int32} (F : ja_F M.1 idx ci kf 0 nest) (P : ja_FP ci kf ty false) (hs : h.1[i]? = some (.inl ci)) (hn : narrow ty (.int x) = .int x) (hfit : fits ty (.int x) = true) (d : ja_At M pc (.putfield idx) 3 pc') (k : ja_J M pc' lv st (ja_sI h i kf x) ret hf) : ja_J M pc lv (.int x :: .ref i :: st) h ret hf :=
  ja_putV (h' := ja_sI h i kf x) F P hs (fun _ => hn) (fun _ => hfit) rfl rfl (fun _ _ => ja_wl_setI (ja_lt hs) (ja_ce_setI hs (by obtain ⟨_, _, _, _, _, q, _⟩ := F; exact q))) (fun q => ⟨q.1, q.2.1, q.2.2.2⟩) d k
theorem ja_putL {M : ja_Mt} {pc pc' : Nat} {lv : List (Option Value)} {st : List Value} {h : ja_H} {ret : List Value} {hf : ja_H} {idx ci kf i : Nat} {nest : Option String} {ty : FieldType} {x : Int64} (F : ja_F M.1 idx ci kf 1 nest) (P : ja_FP ci kf ty false) (hs : h.1[i]? = some (.inl ci)) (hn : narrow ty (.long x) = .long x) (hfit : fits ty (.long x) = true) (d : ja_At M pc (.putfield idx) 3 pc') (k : ja_J M pc' lv st (ja_sL h i kf x) ret hf) : ja_J M pc lv (.long x :: .ref i :: st) h ret hf :=
  ja_putV (h' := ja_sL h i kf x) F P hs (fun _ => hn) (fun _ => hfit) rfl rfl (fun _ _ => ja_wl_setL (ja_lt hs) (ja_ce_setL hs (by obtain ⟨_, _, _, _, _, q, _⟩ := F; exact q))) (fun q => ⟨q.1, q.2.1, q.2.2.2⟩) d k
theorem ja_putF {M : ja_Mt} {pc pc' : Nat} {lv : List (Option Value)} {st : List Value} {h : ja_H} {ret : List Value} {hf : ja_H} {idx ci kf i r : Nat} {ty : FieldType} (F : ja_F M.1 idx ci kf 2 none) (P : ja_FP ci kf ty true) (hown : (vwCl[ci]?).map (fun q => q.1) = some M.1) (hini : M.2.2.2.2.1 = true) (hs : h.1[i]? = some (.inl ci)) (hn : ∀ a : Nat, narrow ty (.ref a) = .ref a) (hfit : ∀ a : Nat, fits ty (.ref a) = true) (d : ja_At M pc (.putfield idx) 3 pc') (k : ja_J M pc' lv st (ja_sR h i kf (some r)) ret hf) : ja_J M pc lv (.ref r :: .ref i :: st) h ret hf := by
  obtain ⟨d, rfl⟩ := d
  have hv : ∀ {lv st}, ja_V h lv (.ref r :: .ref i :: st) → ja_V (ja_sR h i kf (some r)) lv st := by
    intro lv st q
    refine ⟨fun a b z hz => ?_, q.2.1, q.2.2.2.2⟩
    show z < h.1.length
    simp only [ja_sR, ja_u] at hz
    split at hz
    · cases hz; exact q.2.2.1
    · exact q.1 a b z hz
  refine ⟨k.1, fun q => k.2.1 (hv q), fun p l e R s m args below meth c Q D aC A kc ks H ls locs cells slots ads hC hS hV hE => ?_⟩
  obtain ⟨C, T, N, hc, hk, hkd, hin, hl⟩ := F
  obtain ⟨C', T', N', hc', hty, hnm, hd, hfin, hC'⟩ := P
  cases hc.symm.trans hc'
  have hlen : kf < (ja_fs ads h i ci).length := by rw [ja_fs_len, ja_nf_of hc]; exact hk
  have hC1 : (T kf).1 = M.1 := by
    rw [hc] at hown
    rw [hC']
    exact Option.some.inj hown
  refine va_putF (v := .ref (ads r)) hC.1 hC.2.1 hC.2.2.2.2.1 hin (ja_ty ci) hty hnm hC.2.2.2.1 hC.2.2.2.2.2.1 hS.2.1 hS.2.2.1 hS.2.2.2.1 i (ja_wl_obj hs) hc kf hk (hC.2.2.2.2.1 _ hl) (fun _ h9 => h9) hfin (hC.2.2.2.2.2.2.2.2.2.1 hini) hC1 hd (hn _) (hfit _) hlen d (fun H1 locs1 hP hD hSS => ?_)
  have ee : (ja_wl aC ads h).set i (ads i, .inr (ci, (ja_fs ads h i ci).set kf (.ref (ads r)))) = ja_wl aC ads (ja_sR h i kf (some r)) := ja_wl_setR (ja_lt hs) (ja_ce_setR hs hkd)
  rw [ee] at hP hD
  exact k.2.2 p l e R s m args below meth c Q D aC A kc ks H1 ls locs1 cells slots ads hC ⟨hS.1, hP, hD, hSS, hS.2.2.2.2.1, hS.2.2.2.2.2⟩ (hv hV) hE
theorem ja_iald {M : ja_Mt} {pc pc' : Nat} {lv : List (Option Value)} {st : List Value} {h : ja_H} {ret : List Value} {hf : ja_H} {i n : Nat} {x : Int32} (hs : h.1[i]? = some (.inr (0, n))) (hin : vp_in x n) (d : ja_At M pc .iaload 1 pc') (k : ja_J M pc' lv (.int (h.2.1 i x.toNatClampNeg) :: st) h ret hf) : ja_J M pc lv (.int x :: .ref i :: st) h ret hf := by
  obtain ⟨d, rfl⟩ := d
  refine ⟨k.1, fun q => k.2.1 ⟨q.1, q.2.1, q.2.2.2⟩, fun p l e R s m args below meth c Q D aC A kc ks H ls locs cells slots ads hC hS hV hE => ?_⟩
  have h2 := k.2.2 p l e R s m args below meth c Q D aC A kc ks H ls locs cells slots ads hC hS ⟨hV.1, hV.2.1, hV.2.2.2⟩ hE
  exact va_iald hC.1 hC.2.1 hC.2.2.2.2.2.1 hS.2.1 i 0 (ja_wl_arr hs) rfl hin d h2
theorem ja_lald {M : ja_Mt} {pc pc' : Nat} {lv : List (Option Value)} {st : List Value} {h : ja_H} {ret : List Value} {hf : ja_H} {i n : Nat} {x : Int32} (hs : h.1[i]? = some (.inr (1, n))) (hin : vp_in x n) (d : ja_At M pc .laload 1 pc') (k : ja_J M pc' lv (.long (h.2.2.1 i x.toNatClampNeg) :: st) h ret hf) : ja_J M pc lv (.int x :: .ref i :: st) h ret hf := by
  obtain ⟨d, rfl⟩ := d
  refine ⟨k.1, fun q => k.2.1 ⟨q.1, q.2.1, q.2.2.2⟩, fun p l e R s m args below meth c Q D aC A kc ks H ls locs cells slots ads hC hS hV hE => ?_⟩
  have h2 := k.2.2 p l e R s m args below meth c Q D aC A kc ks H ls locs cells slots ads hC hS ⟨hV.1, hV.2.1, hV.2.2.2⟩ hE
  exact va_lald hC.1 hC.2.1 hC.2.2.2.2.2.1 hS.2.1 i 1 (ja_wl_arr hs) rfl hin d h2
theorem ja_zald {M : ja_Mt} {pc pc' : Nat} {lv : List (Option Value)} {st : List Value} {h : ja_H} {ret : List Value} {hf : ja_H} {i n : Nat} {x : Int32} (hs : h.1[i]? = some (.inr (2, n))) (hin : vp_in x n) (d : ja_At M pc .baload 1 pc') (k : ja_J M pc' lv (.int (h.2.1 i x.toNatClampNeg) :: st) h ret hf) : ja_J M pc lv (.int x :: .ref i :: st) h ret hf := by
  obtain ⟨d, rfl⟩ := d
  refine ⟨k.1, fun q => k.2.1 ⟨q.1, q.2.1, q.2.2.2⟩, fun p l e R s m args below meth c Q D aC A kc ks H ls locs cells slots ads hC hS hV hE => ?_⟩
  have h2 := k.2.2 p l e R s m args below meth c Q D aC A kc ks H ls locs cells slots ads hC hS ⟨hV.1, hV.2.1, hV.2.2.2⟩ hE
  exact va_zald hC.1 hC.2.1 hC.2.2.2.2.2.1 hS.2.1 i 2 (ja_wl_arr hs) rfl hin d h2
theorem ja_bald {M : ja_Mt} {pc pc' : Nat} {lv : List (Option Value)} {st : List Value} {h : ja_H} {ret : List Value} {hf : ja_H} {i n : Nat} {x : Int32} (hs : h.1[i]? = some (.inr (3, n))) (hin : vp_in x n) (d : ja_At M pc .baload 1 pc') (k : ja_J M pc' lv (.int (h.2.1 i x.toNatClampNeg) :: st) h ret hf) : ja_J M pc lv (.int x :: .ref i :: st) h ret hf := by
  obtain ⟨d, rfl⟩ := d
  refine ⟨k.1, fun q => k.2.1 ⟨q.1, q.2.1, q.2.2.2⟩, fun p l e R s m args below meth c Q D aC A kc ks H ls locs cells slots ads hC hS hV hE => ?_⟩
  have h2 := k.2.2 p l e R s m args below meth c Q D aC A kc ks H ls locs cells slots ads hC hS ⟨hV.1, hV.2.1, hV.2.2.2⟩ hE
  exact va_bald hC.1 hC.2.1 hC.2.2.2.2.2.1 hS.2.1 i 3 (ja_wl_arr hs) rfl hin d h2
theorem ja_aald {M : ja_Mt} {pc pc' : Nat} {lv : List (Option Value)} {st : List Value} {h : ja_H} {ret : List Value} {hf : ja_H} {i n r : Nat} {x : Int32} (hs : h.1[i]? = some (.inr (4, n))) (hin : vp_in x n) (hr : h.2.2.2.1 i x.toNatClampNeg = some r) (d : ja_At M pc .aaload 1 pc') (k : ja_J M pc' lv (.ref r :: st) h ret hf) : ja_J M pc lv (.int x :: .ref i :: st) h ret hf := by
  obtain ⟨d, rfl⟩ := d
  refine ⟨k.1, fun q => k.2.1 ⟨q.1, q.2.1, q.1 _ _ _ hr, q.2.2.2⟩, fun p l e R s m args below meth c Q D aC A kc ks H ls locs cells slots ads hC hS hV hE => ?_⟩
  have h2 := k.2.2 p l e R s m args below meth c Q D aC A kc ks H ls locs cells slots ads hC hS ⟨hV.1, hV.2.1, hV.1 _ _ _ hr, hV.2.2.2⟩ hE
  refine va_aldq hC.1 hC.2.1 hC.2.2.2.2.2.1 hS.2.1 i 4 (ja_wl_arr hs) rfl hin d ?_
  rw [hr]
  exact h2
theorem ja_aaldN {M : ja_Mt} {pc pc' : Nat} {lv : List (Option Value)} {st : List Value} {h : ja_H} {ret : List Value} {hf : ja_H} {i n : Nat} {x : Int32} (hs : h.1[i]? = some (.inr (4, n))) (hin : vp_in x n) (hr : h.2.2.2.1 i x.toNatClampNeg = none) (d : ja_At M pc .aaload 1 pc') (k : ja_J M pc' lv (.null :: st) h ret hf) : ja_J M pc lv (.int x :: .ref i :: st) h ret hf := by
  obtain ⟨d, rfl⟩ := d
  refine ⟨k.1, fun q => k.2.1 ⟨q.1, q.2.1, q.2.2.2⟩, fun p l e R s m args below meth c Q D aC A kc ks H ls locs cells slots ads hC hS hV hE => ?_⟩
  have h2 := k.2.2 p l e R s m args below meth c Q D aC A kc ks H ls locs cells slots ads hC hS ⟨hV.1, hV.2.1, hV.2.2.2⟩ hE
  refine va_aldq hC.1 hC.2.1 hC.2.2.2.2.2.1 hS.2.1 i 4 (ja_wl_arr hs) rfl hin d ?_
  rw [hr]
  exact h2
theorem ja_iast {M : ja_Mt} {pc pc' : Nat} {lv : List (Option Value)} {st : List Value} {h : ja_H} {ret : List Value} {hf : ja_H} {i n : Nat} {x : Int32} {y : Int32} (hs : h.1[i]? = some (.inr (0, n))) (hin : vp_in x n) (d : ja_At M pc .iastore 1 pc') (k : ja_J M pc' lv st (ja_sI h i x.toNatClampNeg y) ret hf) : ja_J M pc lv (.int y :: .int x :: .ref i :: st) h ret hf := by
  obtain ⟨d, rfl⟩ := d
  refine ⟨k.1, fun q => k.2.1 ⟨q.1, q.2.1, q.2.2.2⟩, fun p l e_1 R s m args below meth c Q D aC A kc ks H ls locs cells slots ads hC hS hV hE => ?_⟩
  refine va_iast hC.1 hC.2.1 hC.2.2.2.2.2.1 hS.2.1 hS.2.2.1 hS.2.2.2.1 i 0 (ja_wl_arr hs) rfl hin d (fun H1 locs1 hP hD hSS => ?_)
  have e := ja_wl_setI (aC := aC) (ads := ads) (h := h) (i := i) (k := x.toNatClampNeg) (x := y) (ja_lt hs) (by simp only [ja_ce, ja_sI, hs, ja_ar, ja_u_upd]; rfl)
  rw [e] at hP hD
  exact k.2.2 p l e_1 R s m args below meth c Q D aC A kc ks H1 ls locs1 cells slots ads hC ⟨hS.1, hP, hD, hSS, hS.2.2.2.2.1, hS.2.2.2.2.2⟩ ⟨hV.1, hV.2.1, hV.2.2.2⟩ hE
theorem ja_last {M : ja_Mt} {pc pc' : Nat} {lv : List (Option Value)} {st : List Value} {h : ja_H} {ret : List Value} {hf : ja_H} {i n : Nat} {x : Int32} {y : Int64} (hs : h.1[i]? = some (.inr (1, n))) (hin : vp_in x n) (d : ja_At M pc .lastore 1 pc') (k : ja_J M pc' lv st (ja_sL h i x.toNatClampNeg y) ret hf) : ja_J M pc lv (.long y :: .int x :: .ref i :: st) h ret hf := by
  obtain ⟨d, rfl⟩ := d
  refine ⟨k.1, fun q => k.2.1 ⟨q.1, q.2.1, q.2.2.2⟩, fun p l e_1 R s m args below meth c Q D aC A kc ks H ls locs cells slots ads hC hS hV hE => ?_⟩
  refine va_last hC.1 hC.2.1 hC.2.2.2.2.2.1 hS.2.1 hS.2.2.1 hS.2.2.2.1 i 1 (ja_wl_arr hs) rfl hin d (fun H1 locs1 hP hD hSS => ?_)
  have e := ja_wl_setL (aC := aC) (ads := ads) (h := h) (i := i) (k := x.toNatClampNeg) (x := y) (ja_lt hs) (by simp only [ja_ce, ja_sL, hs, ja_ar, ja_u_updL]; rfl)
  rw [e] at hP hD
  exact k.2.2 p l e_1 R s m args below meth c Q D aC A kc ks H1 ls locs1 cells slots ads hC ⟨hS.1, hP, hD, hSS, hS.2.2.2.2.1, hS.2.2.2.2.2⟩ ⟨hV.1, hV.2.1, hV.2.2.2⟩ hE
theorem ja_zast {M : ja_Mt} {pc pc' : Nat} {lv : List (Option Value)} {st : List Value} {h : ja_H} {ret : List Value} {hf : ja_H} {i n : Nat} {x : Int32} {y : Int32} (hs : h.1[i]? = some (.inr (2, n))) (hin : vp_in x n) (d : ja_At M pc .bastore 1 pc') (k : ja_J M pc' lv st (ja_sI h i x.toNatClampNeg (vp_nar .boolean y)) ret hf) : ja_J M pc lv (.int y :: .int x :: .ref i :: st) h ret hf := by
  obtain ⟨d, rfl⟩ := d
  refine ⟨k.1, fun q => k.2.1 ⟨q.1, q.2.1, q.2.2.2⟩, fun p l e_1 R s m args below meth c Q D aC A kc ks H ls locs cells slots ads hC hS hV hE => ?_⟩
  refine va_zast hC.1 hC.2.1 hC.2.2.2.2.2.1 hS.2.1 hS.2.2.1 hS.2.2.2.1 i 2 (ja_wl_arr hs) rfl hin d (fun H1 locs1 hP hD hSS => ?_)
  have e := ja_wl_setI (aC := aC) (ads := ads) (h := h) (i := i) (k := x.toNatClampNeg) (x := (vp_nar .boolean y)) (ja_lt hs) (by simp only [ja_ce, ja_sI, hs, ja_ar, ja_u_upd]; rfl)
  rw [e] at hP hD
  exact k.2.2 p l e_1 R s m args below meth c Q D aC A kc ks H1 ls locs1 cells slots ads hC ⟨hS.1, hP, hD, hSS, hS.2.2.2.2.1, hS.2.2.2.2.2⟩ ⟨hV.1, hV.2.1, hV.2.2.2⟩ hE
theorem ja_bast {M : ja_Mt} {pc pc' : Nat} {lv : List (Option Value)} {st : List Value} {h : ja_H} {ret : List Value} {hf : ja_H} {i n : Nat} {x : Int32} {y : Int32} (hs : h.1[i]? = some (.inr (3, n))) (hin : vp_in x n) (d : ja_At M pc .bastore 1 pc') (k : ja_J M pc' lv st (ja_sI h i x.toNatClampNeg (vp_nar .byte y)) ret hf) : ja_J M pc lv (.int y :: .int x :: .ref i :: st) h ret hf := by
  obtain ⟨d, rfl⟩ := d
  refine ⟨k.1, fun q => k.2.1 ⟨q.1, q.2.1, q.2.2.2⟩, fun p l e_1 R s m args below meth c Q D aC A kc ks H ls locs cells slots ads hC hS hV hE => ?_⟩
  refine va_bast hC.1 hC.2.1 hC.2.2.2.2.2.1 hS.2.1 hS.2.2.1 hS.2.2.2.1 i 3 (ja_wl_arr hs) rfl hin d (fun H1 locs1 hP hD hSS => ?_)
  have e := ja_wl_setI (aC := aC) (ads := ads) (h := h) (i := i) (k := x.toNatClampNeg) (x := (vp_nar .byte y)) (ja_lt hs) (by simp only [ja_ce, ja_sI, hs, ja_ar, ja_u_upd]; rfl)
  rw [e] at hP hD
  exact k.2.2 p l e_1 R s m args below meth c Q D aC A kc ks H1 ls locs1 cells slots ads hC ⟨hS.1, hP, hD, hSS, hS.2.2.2.2.1, hS.2.2.2.2.2⟩ ⟨hV.1, hV.2.1, hV.2.2.2⟩ hE
