theorem ja_end {M : ja_Mt} {pc : Nat} {lv : List (Option Value)} {st : List Value} {h : ja_H} {ret : List Value} {hf : ja_H} (e1 : st.map (ja_cv (fun i => i)) = ja_os (fun i => i) ret) (e2 : h = hf) (hst : ∀ ads, st.map (ja_cv ads) = ja_os ads ret) (hv : ja_vs h.1.length st → ja_vs h.1.length ret) (hr : ja_rt M pc ret) : ja_J M pc lv st h ret hf := by
  subst e2
  refine ⟨⟨Nat.le_refl _, Nat.le_refl _, Nat.le_refl _⟩, fun v => ⟨v.1, fun i r hi => by simp at hi, hv v.2.2⟩, fun p l e R s m args below meth c Q D aC A kc ks H ls locs cells slots ads hC hS hV hE => ?_⟩
  rw [hst ads]
  exact hE pc H ls locs cells slots ads hr hS.1.1 (fun _ _ => rfl) hS.2.1 hS.2.2.1 hS.2.2.2.1 hS.2.2.2.2.1 hS.2.2.2.2.2
theorem ja_return {M : ja_Mt} {pc pc' : Nat} {lv : List (Option Value)} {h hf : ja_H} (d : ja_At M pc .return_ 1 pc') (hm : M.2.2.2.2.2.1 = none) (e : h = hf) : ja_J M pc lv [] h [] hf :=
  ja_end rfl e (fun _ => rfl) (fun q => q) ⟨d.1, hm⟩
theorem ja_ireturn {M : ja_Mt} {pc pc' : Nat} {lv : List (Option Value)} {h hf : ja_H} {x y : Int32} {ty : FieldType} (d : ja_At M pc .ireturn 1 pc') (hm : M.2.2.2.2.2.1 = some ty) (hn : narrow ty (.int y) = .int y) (e1 : x = y) (e : h = hf) : ja_J M pc lv [.int x] h [.int y] hf := by
  subst e1
  exact ja_end rfl e (fun _ => rfl) (fun q => q) ⟨d.1, ty, hm, hn⟩
theorem ja_lreturn {M : ja_Mt} {pc pc' : Nat} {lv : List (Option Value)} {h hf : ja_H} {x y : Int64} (d : ja_At M pc .lreturn 1 pc') (hm : M.2.2.2.2.2.1 = some .long) (e1 : x = y) (e : h = hf) : ja_J M pc lv [.long x] h [.long y] hf := by
  subst e1
  exact ja_end rfl e (fun _ => rfl) (fun q => q) ⟨d.1, hm⟩
theorem ja_throw {M : ja_Mt} {pc : Nat} {lv : List (Option Value)} {h hf : ja_H} (e : h = hf) : ja_J M pc lv [] h [.retAddr pc] hf :=
  ja_end rfl e (fun _ => rfl) (fun q => q) rfl
def ja_ex (ads : Nat → Nat) (n q : Nat) : Nat → Nat := fun i => if i = n then q else ads i
theorem ja_ex_lt {ads : Nat → Nat} {n q i : Nat} (h : i < n) : ja_ex ads n q i = ads i := if_neg (by omega)
theorem ja_ex_at {ads : Nat → Nat} {n q : Nat} : ja_ex ads n q n = q := if_pos rfl
theorem ja_ce_congr2 {aC : Nat → ClassId} {ads ads' : Nat → Nat} {h h' : ja_H} {i : Nat} (hl : h'.1[i]? = h.1[i]?) (h1 : h'.2.1 i = h.2.1 i) (h2 : h'.2.2.1 i = h.2.2.1 i) (h3 : h'.2.2.2.1 i = h.2.2.2.1 i) (ha : ∀ k r, h.2.2.2.1 i k = some r → ads' r = ads r) : ja_ce aC ads' h' i = ja_ce aC ads h i := by
  have em : ∀ k, (h.2.2.2.1 i k).map ads' = (h.2.2.2.1 i k).map ads := by
    intro k
    cases hk : h.2.2.2.1 i k with
    | none => rfl
    | some r => simp only [Option.map]; rw [ha k r hk]
  have e1 : ∀ c, ja_fs ads' h' i c = ja_fs ads h i c := by
    intro c
    simp only [ja_fs]
    apply List.map_congr_left
    intro k _
    simp only [ja_fv, h1, h2, h3, em]
  have e2 : ∀ t n, ja_ar ads' h' i t n = ja_ar ads h i t n := by
    intro t n
    simp only [ja_ar, h1, h2, h3, em]
  simp only [ja_ce, hl]
  cases h.1[i]? with
  | none => rfl
  | some z => cases z with
    | inl c => simp only [e1]
    | inr q => simp only [e2]
theorem ja_wl_nw {aC : Nat → ClassId} {ads : Nat → Nat} {h : ja_H} {z : ja_S} {q : Nat} (hv : ∀ i k r, h.2.2.2.1 i k = some r → r < h.1.length) : ja_wl aC (ja_ex ads h.1.length q) (ja_nw h z) = ja_wl aC ads h ++ [(q, ja_ce aC (ja_ex ads h.1.length q) (ja_nw h z) h.1.length)] := by
  simp only [ja_wl]
  rw [show (ja_nw h z).1.length = h.1.length + 1 by simp [ja_nw], List.range_succ, List.map_append]
  congr 1
  · apply List.map_congr_left
    intro i hi
    have hi := List.mem_range.mp hi
    have hne : ¬ i = h.1.length := by omega
    rw [ja_ex_lt hi, ja_ce_congr2 (h := h) (ads := ads) (by simp [ja_nw, List.getElem?_append_left hi]) (by funext b; simp [ja_nw, hne]) (by funext b; simp [ja_nw, hne]) (by funext b; simp [ja_nw, hne]) (fun k r hr => ja_ex_lt (hv i k r hr))]
  · simp [ja_ex_at]
theorem ja_nw_len {h : ja_H} {z : ja_S} : (ja_nw h z).1.length = h.1.length + 1 := by simp [ja_nw]
theorem ja_nw_nc {h : ja_H} {z : ja_S} : ja_nc (ja_nw h z) = ja_nc h + 1 := by simp [ja_nc, ja_nw]; omega
theorem ja_nw_ns {h : ja_H} {z : ja_S} : ja_ns (ja_nw h z) = ja_ns h + ja_sl z := by simp [ja_ns, ja_nw]; omega
theorem ja_nw_V {h : ja_H} {z : ja_S} {lv : List (Option Value)} {st : List Value} (v : ja_V h lv st) : ja_V (ja_nw h z) lv (.ref h.1.length :: st) := by
  have e : (ja_nw h z).1.length = h.1.length + 1 := ja_nw_len
  refine ⟨fun i k r hr => ?_, fun i r hi => ?_, ?_, ?_⟩
  · simp only [ja_nw] at hr
    split at hr
    · cases hr
    · have := v.1 i k r hr
      omega
  · have := v.2.1 i r hi
    omega
  · show h.1.length < _
    omega
  · exact ja_vs_mono (by omega) v.2.2
theorem ja_made {M : ja_Mt} {pc' : Nat} {lv : List (Option Value)} {st : List Value} {h : ja_H} {ret : List Value} {hf : ja_H} {z : ja_S} (k : ja_J M pc' lv (.ref h.1.length :: st) (ja_nw h z) ret hf)
    (p : Program) (l : Launch) (e : Env) (R : Room) (s : State) (m : MethodId) (args : Array Value) (below : List Frame) (meth : Method) (c : Code) (Q : State → Prop) (D : va_G) (aC : Nat → ClassId) (A : Nat → Prop) (kc ks : Nat) (H H1 : Heap) (ls : Array Slot) (locs : List Loc) (cells slots q : Nat) (ads : Nat → Nat)
    (hC : ja_Cx M p l R s m args meth c D aC A kc ks hf) (hS : ja_St M s D aC A kc ks H ls locs cells slots ads lv h) (hV : ja_V h lv st) (hE : ja_Ex M p l e R s m args below meth c Q D aC A kc ks ads h.1.length ret hf)
    (hP : va_P D vwCl (ja_wl aC ads h ++ [(q, ja_ce aC (ja_ex ads h.1.length q) (ja_nw h z) h.1.length)]) H1) (hD : va_D A (ja_wl aC ads h ++ [(q, ja_ce aC (ja_ex ads h.1.length q) (ja_nw h z) h.1.length)])) (hSS : va_S A s.heap H1 locs) :
    W p l e R s m args below meth c H1 locs (cells + 1) (slots + ja_sl z) Q (F0 m pc' ls (.ref q :: st.map (ja_cv ads))) := by
  have ha : ∀ i, i < h.1.length → ja_ex ads h.1.length q i = ads i := fun i hi => ja_ex_lt hi
  rw [← ja_wl_nw hV.1] at hP hD
  have h1 := k.2.2 p l e R s m args below meth c Q D aC A kc ks H1 ls locs (cells + 1) (slots + ja_sl z) (ja_ex ads h.1.length q) hC ⟨ja_lv_ads ha hV.2.1 hS.1, hP, hD, hSS, by rw [ja_nw_nc]; have := hS.2.2.2.2.1; omega, by rw [ja_nw_ns]; have := hS.2.2.2.2.2; omega⟩ (ja_nw_V hV)
    (fun pc H ls locs cells slots ads' q1 q2 q3 q4 q5 q6 q7 q8 => hE pc H ls locs cells slots ads' q1 q2 (fun i hi => (q3 i (by rw [ja_nw_len]; omega)).trans (ha i hi)) q4 q5 q6 q7 q8)
  have e1 : (Value.ref h.1.length :: st).map (ja_cv (ja_ex ads h.1.length q)) = .ref q :: st.map (ja_cv ads) := by
    rw [List.map_cons, ja_cv_map ha hV.2.2]
    simp only [ja_cv, ja_ex_at]
  rw [e1] at h1
  exact h1
def ja_f0 (c : Nat) : List Value := (List.range (ja_nf c)).map (fun k => defaultValue (ja_ty c k))
theorem ja_fv0 {ads : Nat → Nat} {h : ja_H} {z : ja_S} {k : Nat} {t : FieldType} (hk : ja_kd t ≠ 3) : ja_fv ads (ja_nw h z) h.1.length k (ja_kd t) = defaultValue t := by
  cases t <;> simp [ja_kd] at hk <;> simp [ja_kd, ja_fv, ja_nw, defaultValue, va_rf]
theorem ja_new {M : ja_Mt} {pc pc' : Nat} {lv : List (Option Value)} {st : List Value} {h : ja_H} {ret : List Value} {hf : ja_H} {idx ci : Nat} (g : ja_GN M.1 idx ci) (d : ja_At M pc (.new idx) 3 pc') (k : ja_J M pc' lv (.ref h.1.length :: st) (ja_nw h (.inl ci)) ret hf) : ja_J M pc lv st h ret hf := by
  obtain ⟨d, rfl⟩ := d
  have k1 := k.1
  rw [ja_nw_nc, ja_nw_ns, ja_nw_len] at k1
  refine ⟨⟨by omega, by omega, by omega⟩, fun v => k.2.1 (ja_nw_V v), fun p l e R s m args below meth c Q D aC A kc ks H ls locs cells slots ads hC hS hV hE => ?_⟩
  obtain ⟨C, T, N, hc, hin, hty, hcl, hins, hini, hkk⟩ := g
  have eN : ja_sl (.inl ci) = N := by show ja_nf ci = N; exact ja_nf_of hc
  have hr := hC.2.2.2.2.2.2.2.2.2.2.1
  have ef : ∀ q, ja_ce aC (ja_ex ads h.1.length q) (ja_nw h (.inl ci)) h.1.length = .inr (ci, ja_f0 ci) := by
    intro q
    have e1 : (ja_nw h (.inl ci)).1[h.1.length]? = some (.inl ci) := by simp [ja_nw]
    simp only [ja_ce, e1]
    congr 2
    simp only [ja_fs, ja_f0]
    apply List.map_congr_left
    intro j hj
    exact ja_fv0 (hkk j (by have := List.mem_range.mp hj; rw [ja_nf_of hc] at this; exact this))
  refine va_new (ci := ci) (fs := ja_f0 ci) hC.1 hC.2.1 hC.2.2.2.2.1 hin (ja_ty ci) hty hC.2.2.2.1 (hC.2.2.2.2.1 _ hcl) (hC.2.2.2.2.1 _ hins) (hC.2.2.2.2.1 _ hini) hC.2.2.2.2.2.1 hS.2.1 hS.2.2.1 hS.2.2.2.1 hC.2.2.2.2.2.2.2.1 hc (fun j hj => ?_) (by have := hS.2.2.2.2.1; omega) (by have := hS.2.2.2.2.2; omega) d (fun q H1 hP hD hSS => ?_)
  · simp [vp_V, ja_f0, List.getD, ja_nf_of hc, hj]
  · rw [← ef q] at hP hD
    have h1 := ja_made k p l e R s m args below meth c Q D aC A kc ks H H1 ls locs cells slots q ads hC hS hV hE hP hD hSS
    rw [eN] at h1
    exact h1
def ja_a0 (t n : Nat) : vp_A := match t with
  | 1 => (n, .inr (.inl (fun _ => 0)))
  | 4 => (n, .inr (.inr (.inr (.inr (fun _ => none)))))
  | _ => (n, .inl (fun _ => 0))
theorem ja_ce_a0 {aC : Nat → ClassId} {ads : Nat → Nat} {h : ja_H} {t n : Nat} : ja_ce aC ads (ja_nw h (.inr (t, n))) h.1.length = .inl (aC t, ja_a0 t n) := by
  have e1 : (ja_nw h (.inr (t, n))).1[h.1.length]? = some (.inr (t, n)) := by simp [ja_nw]
  simp only [ja_ce, e1]
  congr 2
  simp only [ja_ar, ja_a0]
  split <;> simp [ja_nw]
theorem ja_newa {M : ja_Mt} {pc pc' : Nat} {lv : List (Option Value)} {st : List Value} {h : ja_H} {ret : List Value} {hf : ja_H} {x : Int32} (t n : Nat) (ty : ArrayType) (hty : newarray.typeOf ty = ja_at t) (ht : t < 4) (hcl : Cond.arrayClass (ja_at t) ∈ ja_all) (hx : ¬ x < 0) (hxn : x.toNatClampNeg = n) (hn : n ≤ 16777216) (d : ja_At M pc (.newarray ty) 2 pc') (k : ja_J M pc' lv (.ref h.1.length :: st) (ja_nw h (.inr (t, n))) ret hf) : ja_J M pc lv (.int x :: st) h ret hf := by
  obtain ⟨d, rfl⟩ := d
  have k1 := k.1
  rw [ja_nw_nc, ja_nw_ns, ja_nw_len] at k1
  refine ⟨⟨by omega, by omega, by omega⟩, fun v => k.2.1 (ja_nw_V v), fun p l e R s m args below meth c Q D aC A kc ks H ls locs cells slots ads hC hS hV hE => ?_⟩
  have hr := hC.2.2.2.2.2.2.2.2.2.2.1
  have hK := hC.2.2.2.2.2.1
  have eN : ja_sl (.inr (t, n)) = n := rfl
  have htt : (ja_tys aC)[t]? = some (aC t, ja_at t) := by
    rcases (show t = 0 ∨ t = 1 ∨ t = 2 ∨ t = 3 by omega) with rfl | rfl | rfl | rfl <;> rfl
  have hcA : ∀ cA, va_K D vwCl (ja_tys aC ++ [(cA, ja_at t)]) s → cA = aC t := by
    intro cA h9
    have a1 := (h9.2 5 (cA, ja_at t) rfl).2
    have a2 := (hK.2 t _ htt).2
    rcases (show t = 0 ∨ t = 1 ∨ t = 2 ∨ t = 3 by omega) with rfl | rfl | rfl | rfl <;> exact Option.some.inj (a1.symm.trans a2)
  refine va_newa (ty := ja_at t) (a0 := ja_a0 t n) (N' := n) hC.1 hC.2.1 (by rw [hty]; exact hC.2.2.2.2.1 _ hcl) hty hK hS.2.1 hS.2.2.1 hS.2.2.2.1 hC.2.2.2.2.2.2.2.1 (fun cA => ?_) hx hxn ?_ (by have := hS.2.2.2.2.1; omega) (by have := hS.2.2.2.2.2; omega) d (fun q cA H1 hK1 hP hD hSS => ?_)
  · rcases (show t = 0 ∨ t = 1 ∨ t = 2 ∨ t = 3 by omega) with rfl | rfl | rfl | rfl <;> rfl
  · rcases (show t = 0 ∨ t = 1 ∨ t = 2 ∨ t = 3 by omega) with rfl | rfl | rfl | rfl <;> simp [ja_at, componentBytes] <;> omega
  · rw [hcA cA hK1, ← ja_ce_a0 (h := h) (ads := ja_ex ads h.1.length q)] at hP hD
    exact ja_made k p l e R s m args below meth c Q D aC A kc ks H H1 ls locs cells slots q ads hC hS ⟨hV.1, hV.2.1, hV.2.2⟩ hE hP hD hSS
theorem ja_newq {M : ja_Mt} {pc pc' : Nat} {lv : List (Option Value)} {st : List Value} {h : ja_H} {ret : List Value} {hf : ja_H} {x : Int32} (n : Nat) {idx : Nat} (hcl : Cond.classLink M.1 idx ja_elem ∈ ja_all) (hx : ¬ x < 0) (hxn : x.toNatClampNeg = n) (hn : n ≤ 16777216) (d : ja_At M pc (.anewarray idx) 3 pc') (k : ja_J M pc' lv (.ref h.1.length :: st) (ja_nw h (.inr (4, n))) ret hf) : ja_J M pc lv (.int x :: st) h ret hf := by
  obtain ⟨d, rfl⟩ := d
  have k1 := k.1
  rw [ja_nw_nc, ja_nw_ns, ja_nw_len] at k1
  refine ⟨⟨by omega, by omega, by omega⟩, fun v => k.2.1 (ja_nw_V v), fun p l e R s m args below meth c Q D aC A kc ks H ls locs cells slots ads hC hS hV hE => ?_⟩
  have hr := hC.2.2.2.2.2.2.2.2.2.2.1
  have hK := hC.2.2.2.2.2.1
  have eN : ja_sl (.inr (4, n)) = n := rfl
  have hcA : ∀ cA, va_K D vwCl (ja_tys aC ++ [(cA, .object ja_elem)]) s → cA = aC 4 := by
    intro cA h9
    obtain ⟨_, _, _, _, _, a1⟩ := (h9.2 5 (cA, .object ja_elem) rfl).2
    obtain ⟨_, _, _, _, _, a2⟩ := (hK.2 4 (aC 4, .object ja_elem) rfl).2
    exact Option.some.inj (a1.symm.trans a2)
  refine va_newq (N' := n) hC.1 hC.2.1 hC.2.2.2.1 (hC.2.2.2.2.1 _ hcl) hC.2.2.2.2.2.2.1.2.2 hK hS.2.1 hS.2.2.1 hS.2.2.2.1 hC.2.2.2.2.2.2.2.1 hx hxn (by omega) (by have := hS.2.2.2.2.1; omega) (by have := hS.2.2.2.2.2; omega) d (fun q cA H1 hK1 hP hD hSS => ?_)
  rw [hcA cA hK1] at hP hD
  have e9 := ja_ce_a0 (aC := aC) (h := h) (ads := ja_ex ads h.1.length q) (t := 4) (n := n)
  simp only [ja_a0] at e9
  rw [← e9] at hP hD
  exact ja_made k p l e R s m args below meth c Q D aC A kc ks H H1 ls locs cells slots q ads hC hS ⟨hV.1, hV.2.1, hV.2.2⟩ hE hP hD hSS
theorem ja_aast {M : ja_Mt} {pc pc' : Nat} {lv : List (Option Value)} {st : List Value} {h : ja_H} {ret : List Value} {hf : ja_H} {i n ci r : Nat} {x : Int32} (hs : h.1[i]? = some (.inr (4, n))) (hr : h.1[r]? = some (.inl ci)) (hci : (vwCl[ci]?).map (fun q => q.1) = some ja_elem) (hin : vp_in x n) (d : ja_At M pc .aastore 1 pc') (k : ja_J M pc' lv st (ja_sR h i x.toNatClampNeg (some r)) ret hf) : ja_J M pc lv (.ref r :: .int x :: .ref i :: st) h ret hf := by
  obtain ⟨d, rfl⟩ := d
  have hv : ∀ {lv st}, ja_V h lv (.ref r :: .int x :: .ref i :: st) → ja_V (ja_sR h i x.toNatClampNeg (some r)) lv st := by
    intro lv st q
    refine ⟨fun a b z hz => ?_, q.2.1, q.2.2.2.2⟩
    show z < h.1.length
    simp only [ja_sR, ja_u] at hz
    split at hz
    · cases hz; exact q.2.2.1
    · exact q.1 a b z hz
  refine ⟨k.1, fun q => k.2.1 (hv q), fun p l e R s m args below meth c Q D aC A kc ks H ls locs cells slots ads hC hS hV hE => ?_⟩
  cases hcc : vwCl[ci]? with
  | none => rw [hcc] at hci; cases hci
  | some rr =>
    rw [hcc] at hci
    have h9 : rr.1 = ja_elem := Option.some.inj hci
    refine va_astq (r := rr) hC.1 hC.2.1 hC.2.2.2.2.2.1 hS.2.1 hS.2.2.1 hS.2.2.2.1 i 4 r ci (ja_wl_arr hs) (by rw [h9]; rfl) (ja_wl_obj hr) hcc hin d (fun H1 locs1 hP hD hSS => ?_)
    have e1 := ja_wl_setR (aC := aC) (ads := ads) (h := h) (i := i) (k := x.toNatClampNeg) (x := some r) (y := .inl (aC 4, n, .inr (.inr (.inr (.inr (va_up (fun j => (h.2.2.2.1 i j).map ads) x.toNatClampNeg (some (ads r)))))))) (ja_lt hs) (by
      simp only [ja_ce, ja_sR, hs, ja_ar]
      congr 7
      funext b
      simp only [ja_u, va_up]
      by_cases hb : b = x.toNatClampNeg <;> simp [hb])
    rw [e1] at hP hD
    exact k.2.2 p l e R s m args below meth c Q D aC A kc ks H1 ls locs1 cells slots ads hC ⟨hS.1, hP, hD, hSS, hS.2.2.2.2.1, hS.2.2.2.2.2⟩ (hv hV) hE
def ja_rm (d : Nat × Nat) (c n : Nat) : Room := { frames := d.1, cells := c, slots := n, locals := d.2 }
def ja_ws (y : MethodName) (bytes : ByteArray) (maxL : Nat) (rt : Option FieldType) : List Cond := Cond.code y bytes maxL rt :: ja_all
def ja_B (D : va_G) (aC : Nat → ClassId) (ads : Nat → Nat) (h : ja_H) (sz : Nat) : State → Prop := fun U => U.heap.size = sz ∧ va_P D vwCl (ja_wl aC ads h) U.heap ∧ va_K D vwCl (ja_tys aC) U ∧ ja_N U ∧ va_D (fun _ => True) (ja_wl aC ads h) ∧ ja_Zx (va_A (ja_wl aC ads h) sz) U
def ja_Q (D : va_G) (aC : Nat → ClassId) (ads : Nat → Nat) (sz : Nat) (h : ja_H) (ret : List Value) (hf : ja_H) : Array Value → State → Outcome → State → Prop := fun _ st oc t =>
  (∃ ads' : Nat → Nat, (∀ i, i < h.1.length → ads' i = ads i) ∧ oc = .returned (ret.map (ja_cv ads')).head? ∧ va_P D vwCl (ja_wl aC ads' hf) t.heap ∧ va_D (va_A (ja_wl aC ads h) sz) (ja_wl aC ads' hf)) ∧ va_F (va_A (ja_wl aC ads h) sz) st t
def ja_M (d : Nat × Nat) (y : MethodName) (bytes : ByteArray) (maxL : Nat) (rt : Option FieldType) (args : List Value) (h : ja_H) (ret : List Value) (hf : ja_H) : Prop :=
  (ja_nc h ≤ ja_nc hf ∧ ja_ns h ≤ ja_ns hf ∧ h.1.length ≤ hf.1.length) ∧ (ja_V h [] args → ja_V hf [] ret) ∧ ret.length ≤ 1 ∧
  ∀ (l : Launch) (D : va_G) (aC : Nat → ClassId) (ads : Nat → Nat) (sz : Nat), l.stackTraces = false → ja_V h [] args →
    Met l y (ja_ws y bytes maxL rt) (ja_rm d (ja_nc hf - ja_nc h) (ja_ns hf - ja_ns h)) (va_Pc (args.map (ja_cv ads)) (ja_B D aC ads h sz)) (ja_Q D aC ads sz h ret hf) (ja_nc hf - ja_nc h) (ja_ns hf - ja_ns h) (va_A (ja_wl aC ads h) sz)
def ja_fl (args : List Value) : List (Option Value) := args.flatMap (fun v => if v.category = 2 then [some v, none] else [some v])
def ja_l0 (args : List Value) (n : Nat) : List (Option Value) := ja_fl args ++ List.replicate (n - (ja_fl args).length) none
theorem ja_fl_mem {ads : Nat → Nat} {args : List Value} : ∀ (off i : Nat) (v : Value), (ja_fl args)[i]? = some (some v) → (off + i, ja_cv ads v) ∈ lv_args off (args.map (ja_cv ads)) := by
  induction args with
  | nil => intro off i v hi; simp [ja_fl] at hi
  | cons a t ih =>
    intro off i v hi
    have e : ja_fl (a :: t) = (if a.category = 2 then [some a, none] else [some a]) ++ ja_fl t := by simp [ja_fl]
    rw [e] at hi
    simp only [List.map_cons, lv_args, ja_cv_cat]
    by_cases h2 : a.category = 2
    · rw [if_pos h2] at hi ⊢
      match i with
      | 0 => simp at hi; subst hi; exact List.mem_cons_self
      | 1 => simp at hi
      | j + 2 =>
        have hj : (ja_fl t)[j]? = some (some v) := by simpa using hi
        have := ih (off + 2) j v hj
        rw [show off + (j + 2) = off + 2 + j by omega]
        exact List.mem_cons_of_mem _ this
    · rw [if_neg h2] at hi ⊢
      match i with
      | 0 => simp at hi; subst hi; exact List.mem_cons_self
      | j + 1 =>
        have hj : (ja_fl t)[j]? = some (some v) := by simpa using hi
        have := ih (off + 1) j v hj
        rw [show off + (j + 1) = off + 1 + j by omega]
        exact List.mem_cons_of_mem _ this
theorem ja_l0_in {args : List Value} {n i : Nat} {v : Value} (hi : (ja_l0 args n)[i]? = some (some v)) : (ja_fl args)[i]? = some (some v) := by
  simp only [ja_l0, List.getElem?_append] at hi
  split at hi
  · exact hi
  · rw [List.getElem?_replicate] at hi
    split at hi <;> cases hi
theorem ja_fl_args {args : List Value} {v : Value} (h : some v ∈ ja_fl args) : v ∈ args := by
  simp only [ja_fl, List.mem_flatMap] at h
  obtain ⟨a, ha, hb⟩ := h
  split at hb <;> simp at hb <;> subst hb <;> exact ha
theorem ja_sl_len {ads ads' : Nat → Nat} {vs : List Value} : (lg_sl (vs.map (ja_cv ads))).length = (lg_sl (vs.map (ja_cv ads'))).length := by
  induction vs with
  | nil => rfl
  | cons a t ih =>
    simp only [List.map_cons, lg_sl, List.flatMap_cons, List.length_append] at ih ⊢
    have e : ∀ ad : Nat → Nat, (if (ja_cv ad a).category = 2 then [Slot.val (ja_cv ad a), Slot.second] else [Slot.val (ja_cv ad a)]).length = if a.category = 2 then 2 else 1 := by
      intro ad
      rw [ja_cv_cat]
      split <;> rfl
    rw [e ads, e ads', ih]
theorem ja_ofWF {l : Launch} {y : MethodName} {ws ws' : List Cond} {rm : Room} {Pc : Array Value → State → Prop} {Qc : Array Value → State → Outcome → State → Prop} {mc ms : Nat} {free : Addr → Prop} {cc : ByteArray} {maxL : Nat} {ret : Option FieldType}
    (hy : plainFor y = true) (hw : ws = Cond.code y cc maxL ret :: ws')
    (body : ∀ p e s m args below meth c s₁, BodyLoose p l y (headSpec ws rm) cc maxL ret e s m args below meth c s₁ → c.maxLocals = maxL → Pc args s →
      W p l e (headSpec ws rm).room s m args below meth c s.heap [] 0 0 (MQ below Qc args s mc ms free) (entryFrame m args maxL)) : Met l y ws rm Pc Qc mc ms free := by
  refine MetFree.of_bodySF (code := cc) (maxLocals := maxL) (ret := ret) hy ?_ ?_
  · intro args s m h hn
    obtain ⟨meth, c, h1, h2, h3, h4, h5, h6, -, -⟩ := Cond.code_spec hn (atoms_spec (ws := ws) h _ (by rw [hw]; exact List.mem_cons_self))
    exact ⟨meth, c, h1, h2, h3, h4, h5, h6⟩
  · intro p e s m args below meth c s₁ B hml hP _
    have hh0 : s₁.heap = s.heap := by rw [B.state]; rfl
    obtain ⟨t, a1, o, b1, b2, b3⟩ := body p e s m args below meth c s₁ B hml hP s₁ hh0 (Stand.of_body B)
    exact ⟨t, o, a1, b1, b2, ⟨b3.1, b3.2⟩⟩
theorem ja_M_of {d : Nat × Nat} {y : MethodName} {bytes : ByteArray} {maxL : Nat} {rt : Option FieldType} {args : List Value} {h : ja_H} {ret : List Value} {hf : ja_H} (ini : Bool) (lv : List (Option Value)) (hlv : ja_l0 args maxL = lv) (hy : plainFor y = true) (hini : ini = true → y.name = "<init>") (hlen : (lg_sl (args.map (ja_cv (fun i => i)))).length ≤ maxL) (hno : ∀ k, ret ≠ [.retAddr k]) (hret : ret.length ≤ 1) (hj : ja_J (y.cls, bytes, maxL, d, ini, rt, none, none) 0 lv [] h ret hf) : ja_M d y bytes maxL rt args h ret hf := by
  subst hlv
  have hlvv : ja_V h [] args → ja_V h (ja_l0 args maxL) [] := fun v => ⟨v.1, fun i r hi => ja_vs_iff.mp v.2.2 r (ja_fl_args (List.mem_of_getElem? (ja_l0_in hi))), trivial⟩
  refine ⟨hj.1, fun v => hj.2.1 (hlvv v), hret, fun l D aC ads sz htr hV => ?_⟩
  refine ja_ofWF (cc := bytes) (maxL := maxL) (ret := rt) hy rfl ?_
  intro p e s m args' below meth c s₁ B hml hv
  obtain ⟨rfl, hsz, hP, hK, hN, hD0, hZ⟩ := hv
  subst hsz
  have hts0 := atoms_spec (ws := ja_ws y bytes maxL rt) B.pre
  have hD := hD0.self (sz := s.heap.size)
  have hlen2 : (lg_sl (args.map (ja_cv ads))).length ≤ maxL := by
    have := ja_sl_len (ads := ads) (ads' := fun i => i) (vs := args)
    omega
  rw [lg_entry_eq]
  have hl := lv_entry (args.map (ja_cv ads)) hlen2
  refine hj.2.2 p l e _ s m _ below meth c _ D aC (va_A (ja_wl aC ads h) s.heap.size) (ja_nc h) (ja_ns h) s.heap _ [] 0 0 ads
    ⟨B.exec, B.bytes, hml, findClass_of_methodNamed B.named, fun w hw => hts0 w (List.mem_cons_of_mem _ hw), hK, hN, fun q hq => Or.inr hq, ⟨Nat.le_refl _, Nat.le_refl _⟩, fun hi => ((name_of_methodNamed B.named B.method).1).trans (hini hi), ⟨?_, ?_⟩, fun b L xs hq => (by cases hq), fun hh hq => (by cases hq), hZ, htr⟩
    ⟨⟨hl.1, hl.2.1, fun i v hi => hl.2.2 (i, ja_cv ads v) (by have := ja_fl_mem (ads := ads) 0 i v (ja_l0_in hi); rwa [Nat.zero_add] at this)⟩, hP, hD, va_S.rf, Nat.zero_add _, Nat.zero_add _⟩ (hlvv hV) ?_
  · show ja_nc hf ≤ (ja_nc hf - ja_nc h) + ja_nc h
    have := hj.1
    omega
  · show ja_ns hf ≤ (ja_ns hf - ja_ns h) + ja_ns h
    have := hj.1
    omega
  · intro pc H ls locs cells slots ads' hrt hls ha hP' hD' hS' hc hs
    have ec : cells = ja_nc hf - ja_nc h := by omega
    have es : slots = ja_ns hf - ja_ns h := by omega
    subst ec
    subst es
    have post : ∀ t : State, t.heap = H → s.WarmedH t.vm → ja_Q D aC ads s.heap.size h ret hf (args.map (ja_cv ads)).toArray s (.returned (ret.map (ja_cv ads')).head?) t := fun t ht hW => ⟨⟨ads', ha, rfl, by rw [ht]; exact hP', hD'⟩, hS'.F ht⟩
    match ret, hrt, hno, post with
    | [], hrt, _, post => exact W.vret B.exec B.bytes (B.returns.trans hrt.2) post hS'.2.2 hrt.1 B.notSynchronized
    | [.int v], hrt, _, post =>
      obtain ⟨h1, ty, h2, h3⟩ := hrt
      exact W.zret B.exec B.bytes (B.returns.trans h2) h3 post hS'.2.2 h1 B.notSynchronized
    | [.long v], hrt, _, post => exact W.lret B.exec B.bytes (B.returns.trans hrt.2) post hS'.2.2 hrt.1 B.notSynchronized
    | [.retAddr k], _, hno, _ => exact absurd rfl (hno k)
theorem ja_goodIn {y : MethodName} {bytes : ByteArray} {maxL : Nat} {rt : Option FieldType} (h : Cond.code y bytes maxL rt ∈ ja_all) : GoodIn ja_all (ja_ws y bytes maxL rt) := by
  intro w hw
  rcases List.mem_cons.mp hw with rfl | hw
  · exact ⟨h, good_of_word (ja_all_good _ h)⟩
  · exact ⟨hw, good_of_word (ja_all_good _ hw)⟩
theorem ja_Zx_call {M : ja_Mt} {p : Program} {l : Launch} {R : Room} {s : State} {m : MethodId} {args : Array Value} {meth : Method} {c : Code} {D : va_G} {aC : Nat → ClassId} {A : Nat → Prop} {kc ks : Nat} {hf h : ja_H} {H : Heap} {ls : Array Slot} {locs : List Loc} {cells slots : Nat} {ads : Nat → Nat} {lv : List (Option Value)} {U : State} (hC : ja_Cx M p l R s m args meth c D aC A kc ks hf) (hS : ja_St M s D aC A kc ks H ls locs cells slots ads lv h) (hU : U.heap = H) (hW : s.WarmedH U.vm) : ja_Zx (va_A (ja_wl aC ads h) H.size) U := by
  intro V hV hs hq
  refine hC.2.2.2.2.2.2.2.2.2.2.2.2.2.1 V (State.WarmedH.trans hW hV) ?_ ?_
  · have := hS.2.2.2.1.1
    rw [hU] at hs
    omega
  · intro q h1 h2
    have h3 : ¬ va_A (ja_wl aC ads h) H.size q := by
      intro h9
      rcases h9 with ⟨k9, e9, hk9⟩ | h9
      · exact h2 (hS.2.2.1.2 _ _ hk9)
      · exact h2 (hC.2.2.2.2.2.2.2.1 q (Nat.le_trans hS.2.2.2.1.1 h9))
    rw [hq q (by rw [hU]; exact Nat.lt_of_lt_of_le h1 hS.2.2.2.1.1) h3, hU]
    exact hS.2.2.2.1.2.1 q h1 h2
theorem ja_blind {args : List Value} {D : va_G} {aC : Nat → ClassId} {ads : Nat → Nat} {h : ja_H} {sz : Nat} : FrameBlind (va_Pc args (ja_B D aC ads h sz)) := by
  intro a U g mk q
  obtain ⟨q0, q1, qP, qK, qN, qD, qZ⟩ := q
  exact ⟨q0, q1, qP, va_K.moved (u := U) (U := U.calling g mk a) (Vm.Alike.refl U.vm) qK, ja_N.same (u := U) (U := U.calling g mk a) rfl qN, qD, qZ⟩
theorem ja_core {M : ja_Mt} {pc : Nat} {lv : List (Option Value)} {st as rv : List Value} {h h1 : ja_H} {ret : List Value} {hf : ja_H} (hM1 : ja_nc h ≤ ja_nc h1 ∧ ja_ns h ≤ ja_ns h1 ∧ h.1.length ≤ h1.1.length) (hM2 : ja_V h [] as → ja_V h1 [] rv) (hM3 : rv.length ≤ 1) (k : ja_J M (pc + 3) lv (rv ++ st) h1 ret hf)
    {p : Program} {l : Launch} {e : Env} {R : Room} {s : State} {m : MethodId} {args a : Array Value} {below : List Frame} {meth : Method} {c : Code} {Q : State → Prop} {D : va_G} {aC : Nat → ClassId} {A : Nat → Prop} {kc ks : Nat} {H : Heap} {ls : Array Slot} {locs : List Loc} {cells slots : Nat} {ads : Nat → Nat} {st0 : List Value}
    (hC : ja_Cx M p l R s m args meth c D aC A kc ks hf) (hS : ja_St M s D aC A kc ks H ls locs cells slots ads lv h) (hVl : ja_V h lv st) (hVa : ja_V h [] as) (hE : ja_Ex M p l e R s m args below meth c Q D aC A kc ks ads h.1.length ret hf)
    (hr : va_Run p l e R s m args below meth c H locs cells slots (ja_nc h1 - ja_nc h) (ja_ns h1 - ja_ns h) (F0 m pc ls st0) (st.map (ja_cv ads)) (ja_Q D aC ads H.size h rv h1 a) (va_A (ja_wl aC ads h) H.size)) :
    W p l e R s m args below meth c H locs cells slots Q (F0 m pc ls st0) := by
  intro T hT X
  obtain ⟨v, st₀, t, T', L, h0, X', hL, e1, e2, ⟨⟨ads', ha, hv, hP1, hD1⟩, hz, hk⟩, stp⟩ := hr T hT X
  cases hv
  rw [h0] at hz hk
  obtain ⟨m1, m2, m3⟩ := hM1
  have hA := hC.2.2.2.2.2.2.2.1
  have hF : ∀ q, va_A (ja_wl aC ads h) H.size q → A q := by
    intro q hq
    rcases hq with ⟨k9, e9, hk9⟩ | hq
    · exact hS.2.2.1.2 _ _ hk9
    · exact hA q (Nat.le_trans hS.2.2.2.1.1 hq)
  have hV1 := hM2 hVa
  have hVn : ja_V h1 lv (rv ++ st) := ⟨hV1.1, fun i r hi => Nat.lt_of_lt_of_le (hVl.2.1 i r hi) m3, ja_vs_app.mpr ⟨hV1.2.2, ja_vs_mono m3 hVl.2.2⟩⟩
  have hw := k.2.2 p l e R s m args below meth c Q D aC A kc ks T'.heap ls (locs ++ L) (cells + (ja_nc h1 - ja_nc h)) (slots + (ja_ns h1 - ja_ns h)) ads' hC
    ⟨ja_lv_ads ha hVl.2.1 hS.1, by rw [e1]; exact hP1, hD1.weaken (fun _ q _ h9 => hF q.1 h9), ⟨Nat.le_trans hS.2.2.2.1.1 (by rw [e1]; exact hz), fun q g1 g2 => by
      rw [e1, hk q (Nat.lt_of_lt_of_le g1 hS.2.2.2.1.1) (fun z => g2 (hF q z))]
      exact hS.2.2.2.1.2.1 q g1 g2, fun q hq => by
      rcases List.mem_append.mp hq with h9 | h9
      · exact hS.2.2.2.1.2.2 q h9
      · exact hF _ (hL q h9)⟩, by have := hS.2.2.2.2.1; omega, by have := hS.2.2.2.2.2; omega⟩ hVn
    (fun pc H ls locs cells slots ads'' q1 q2 q3 q4 q5 q6 q7 q8 => hE pc H ls locs cells slots ads'' q1 q2 (fun i hi => (q3 i (by omega)).trans (ha i hi)) q4 q5 q6 q7 q8)
  have e3 : (rv ++ st).map (ja_cv ads') = (rv.map (ja_cv ads')).head?.toList ++ st.map (ja_cv ads) := by
    rw [List.map_append, ja_cv_map ha hVl.2.2]
    congr 1
    match rv, hM3 with
    | [], _ => rfl
    | [_], _ => rfl
    | _ :: _ :: _, h9 => simp at h9
  rw [e3] at hw
  obtain ⟨t2, a1, b1⟩ := hw T' rfl X'
  exact ⟨t2, stp t2 a1, b1⟩
theorem ja_callV {M : ja_Mt} {pc pc' : Nat} {lv : List (Option Value)} {st : List Value} {h : ja_H} {ret : List Value} {hf : ja_H} {idx maxL : Nat} {d0 : Nat × Nat} {y : MethodName} {bytes : ByteArray} {rt : Option FieldType} {nest : Option String} {stk as rv : List Value} {h1 : ja_H} {i ci : Nat} (g : ja_G M.1 idx y bytes maxL rt as.length nest) (hin : Cond.instanceMethod y ∈ ja_all) (hsel : Cond.selects y.cls y y ∈ ja_all) (hci : (vwCl[ci]?).map (fun q => q.1) = some y.cls) (hs : h.1[i]? = some (.inl ci)) (hd : d0.1 + 1 ≤ M.2.2.2.1.1 ∧ 8 + (maxL + 11) + d0.2 ≤ M.2.2.2.1.2) (hM : ja_M d0 y bytes maxL rt (.ref i :: as) h rv h1) (hst : stk = as.reverse ++ .ref i :: st) (hw : (st.map Value.category).sum ≤ 8) (d : ja_At M pc (.invokevirtual idx) 3 pc') (k : ja_J M pc' lv (rv ++ st) h1 ret hf) : ja_J M pc lv stk h ret hf := by
  obtain ⟨d, rfl⟩ := d
  subst hst
  obtain ⟨m1, m2, m3⟩ := hM.1
  obtain ⟨k1, k2, k3⟩ := k.1
  have va : ja_V h lv (as.reverse ++ .ref i :: st) → ja_V h [] (.ref i :: as) ∧ ja_V h lv st := by
    intro q
    have q2 := ja_vs_app.mp q.2.2
    exact ⟨⟨q.1, fun i r hi => by simp at hi, ⟨q2.2.1, ja_vs_rev.mp q2.1⟩⟩, q.1, q.2.1, q2.2.2⟩
  have vn : ja_V h lv (as.reverse ++ .ref i :: st) → ja_V h1 lv (rv ++ st) := by
    intro q
    have q1 := hM.2.1 (va q).1
    exact ⟨q1.1, fun i r hi => Nat.lt_of_lt_of_le (q.2.1 i r hi) m3, ja_vs_app.mpr ⟨q1.2.2, ja_vs_mono m3 (va q).2.2.2⟩⟩
  refine ⟨⟨by omega, by omega, by omega⟩, fun q => k.2.1 (vn q), fun p l e R s m args below meth c Q D aC A kc ks H ls locs cells slots ads hC hS hV hE => ?_⟩
  have hM4 := hM.2.2.2 l D aC ads H.size hC.2.2.2.2.2.2.2.2.2.2.2.2.2.2 (va hV).1
  have hR := hC.2.2.2.2.2.2.2.2.1
  have hrm := hC.2.2.2.2.2.2.2.2.2.2.1
  have hts := hC.2.2.2.2.1
  have hcc := hS.2.2.2.2.1
  have hss := hS.2.2.2.2.2
  obtain ⟨gc, gi, gd, gl⟩ := g
  have hRR : (ja_rm d0 (ja_nc h1 - ja_nc h) (ja_ns h1 - ja_ns h)).frames + 1 ≤ R.frames ∧ 8 + (maxL + 11) + (ja_rm d0 (ja_nc h1 - ja_nc h) (ja_ns h1 - ja_ns h)).locals ≤ R.locals := by
    show d0.1 + 1 ≤ R.frames ∧ 8 + (maxL + 11) + d0.2 ≤ R.locals
    omega
  have hroom : cells + (ja_nc h1 - ja_nc h) ≤ R.cells ∧ slots + (ja_ns h1 - ja_ns h) ≤ R.slots := by omega
  have hpc : ∀ U : State, U.heap = H → s.WarmedH U.vm → va_Pc ((.ref i :: as).map (ja_cv ads)) (ja_B D aC ads h H.size) ((.ref i :: as).map (ja_cv ads)).toArray U := fun U hU hW => ⟨rfl, by rw [hU], by rw [hU]; exact hS.2.1, va_K.moved hW.alike hC.2.2.2.2.2.1, hC.2.2.2.2.2.2.1.warm hW, hS.2.2.1.weaken (fun _ _ _ _ => trivial), ja_Zx_call hC hS hU hW⟩
  have hlen : (as.map (ja_cv ads)).length = as.length := List.length_map _
  have hwt : 2 * (F0 m pc ls ((as.reverse ++ .ref i :: st).map (ja_cv ads))).monitorRoom + ((st.map (ja_cv ads)).map fun v => v.category).sum ≤ 8 := by rw [ja_cv_sum]; show 2 * 0 + _ ≤ 8; omega
  have hstk : (as.reverse ++ .ref i :: st).map (ja_cv ads) = (as.map (ja_cv ads)).reverse ++ .ref (ads i) :: st.map (ja_cv ads) := by simp [ja_cv]
  refine ja_core (a := ((.ref i :: as).map (ja_cv ads)).toArray) hM.1 hM.2.1 hM.2.2.1 k hC hS (va hV).2 (va hV).1 hE ?_
  have hrecv : ∃ cellB : Cell, H[ads i]? = some cellB ∧ cellB.vm.isStatics = false ∧ s.vm.findClass y.cls = some cellB.cls := by
    cases hq : vwCl[ci]? with
    | none => rw [hq] at hci; cases hci
    | some q9 =>
      rw [hq] at hci
      obtain ⟨cl, a1, a2, a3⟩ := va_recv hC.2.2.2.2.2.1 hS.2.1 hq (ja_wl_obj hs)
      exact ⟨cl, a1, a2, by rw [← Option.some.inj hci]; exact a3⟩
  cases nest with
  | none => exact va_runV (As := as.map (ja_cv ads)) (rest := st.map (ja_cv ads)) (b := ads i) ⟨hC.1, hC.2.1, hC.2.2.1, hC.2.2.2.1, hts⟩ hM4 ⟨callB_of as.length hts (ja_goodIn gc) rfl rfl rfl (hts _ gi) (hts _ gl) gd hRR, hts _ hin, hts _ hsel⟩ ⟨ja_blind, hrecv, hpc⟩ rfl hlen hS.1.1 hstk hwt d hroom
  | some host => exact va_runVN (As := as.map (ja_cv ads)) (rest := st.map (ja_cv ads)) (b := ads i) ⟨hC.1, hC.2.1, hC.2.2.1, hC.2.2.2.1, hts⟩ hM4 ⟨va_cnB (host := host) as.length hts (ja_goodIn gc) rfl rfl rfl (hC.2.2.2.2.2.2.1.2.1 _ gl) (hts _ gi) gd hRR, hts _ hin, hts _ hsel⟩ ⟨ja_blind, hrecv, hpc⟩ rfl hlen hS.1.1 hstk hwt d hroom
theorem ja_callS {M : ja_Mt} {pc pc' : Nat} {lv : List (Option Value)} {st : List Value} {h : ja_H} {ret : List Value} {hf : ja_H} {idx maxL : Nat} {d0 : Nat × Nat} {y : MethodName} {bytes : ByteArray} {rt : Option FieldType} {nest : Option String} {stk as rv : List Value} {h1 : ja_H}  (g : ja_G M.1 idx y bytes maxL rt as.length nest) (hst9 : Cond.static y ∈ ja_all) (hd : d0.1 + 1 ≤ M.2.2.2.1.1 ∧ 8 + (maxL + 11) + d0.2 ≤ M.2.2.2.1.2) (hM : ja_M d0 y bytes maxL rt as h rv h1) (hst : stk = as.reverse ++ st) (hw : (st.map Value.category).sum ≤ 8) (d : ja_At M pc (.invokestatic idx) 3 pc') (k : ja_J M pc' lv (rv ++ st) h1 ret hf) : ja_J M pc lv stk h ret hf := by
  obtain ⟨d, rfl⟩ := d
  subst hst
  obtain ⟨m1, m2, m3⟩ := hM.1
  obtain ⟨k1, k2, k3⟩ := k.1
  have va : ja_V h lv (as.reverse ++ st) → ja_V h [] as ∧ ja_V h lv st := by
    intro q
    have q2 := ja_vs_app.mp q.2.2
    exact ⟨⟨q.1, fun i r hi => by simp at hi, ja_vs_rev.mp q2.1⟩, q.1, q.2.1, q2.2⟩
  have vn : ja_V h lv (as.reverse ++ st) → ja_V h1 lv (rv ++ st) := by
    intro q
    have q1 := hM.2.1 (va q).1
    exact ⟨q1.1, fun i r hi => Nat.lt_of_lt_of_le (q.2.1 i r hi) m3, ja_vs_app.mpr ⟨q1.2.2, ja_vs_mono m3 (va q).2.2.2⟩⟩
  refine ⟨⟨by omega, by omega, by omega⟩, fun q => k.2.1 (vn q), fun p l e R s m args below meth c Q D aC A kc ks H ls locs cells slots ads hC hS hV hE => ?_⟩
  have hM4 := hM.2.2.2 l D aC ads H.size hC.2.2.2.2.2.2.2.2.2.2.2.2.2.2 (va hV).1
  have hR := hC.2.2.2.2.2.2.2.2.1
  have hrm := hC.2.2.2.2.2.2.2.2.2.2.1
  have hts := hC.2.2.2.2.1
  have hcc := hS.2.2.2.2.1
  have hss := hS.2.2.2.2.2
  obtain ⟨gc, gi, gd, gl⟩ := g
  have hRR : (ja_rm d0 (ja_nc h1 - ja_nc h) (ja_ns h1 - ja_ns h)).frames + 1 ≤ R.frames ∧ 8 + (maxL + 11) + (ja_rm d0 (ja_nc h1 - ja_nc h) (ja_ns h1 - ja_ns h)).locals ≤ R.locals := by
    show d0.1 + 1 ≤ R.frames ∧ 8 + (maxL + 11) + d0.2 ≤ R.locals
    omega
  have hroom : cells + (ja_nc h1 - ja_nc h) ≤ R.cells ∧ slots + (ja_ns h1 - ja_ns h) ≤ R.slots := by omega
  have hpc : ∀ U : State, U.heap = H → s.WarmedH U.vm → va_Pc (as.map (ja_cv ads)) (ja_B D aC ads h H.size) (as.map (ja_cv ads)).toArray U := fun U hU hW => ⟨rfl, by rw [hU], by rw [hU]; exact hS.2.1, va_K.moved hW.alike hC.2.2.2.2.2.1, hC.2.2.2.2.2.2.1.warm hW, hS.2.2.1.weaken (fun _ _ _ _ => trivial), ja_Zx_call hC hS hU hW⟩
  have hlen : (as.map (ja_cv ads)).length = as.length := List.length_map _
  have hwt : 2 * (F0 m pc ls ((as.reverse ++ st).map (ja_cv ads))).monitorRoom + ((st.map (ja_cv ads)).map fun v => v.category).sum ≤ 8 := by rw [ja_cv_sum]; show 2 * 0 + _ ≤ 8; omega
  have hstk : (as.reverse ++ st).map (ja_cv ads) = (as.map (ja_cv ads)).reverse ++ st.map (ja_cv ads) := by simp [ja_cv]
  refine ja_core (a := (as.map (ja_cv ads)).toArray) hM.1 hM.2.1 hM.2.2.1 k hC hS (va hV).2 (va hV).1 hE ?_
  cases nest with
  | none => exact va_runS (As := as.map (ja_cv ads)) (rest := st.map (ja_cv ads)) ⟨hC.1, hC.2.1, hC.2.2.1, hC.2.2.2.1, hts⟩ hM4 ⟨callB_of as.length hts (ja_goodIn gc) rfl rfl rfl (hts _ gi) (hts _ gl) gd hRR, hts _ hst9⟩ ⟨ja_blind, hpc⟩ rfl hlen hS.1.1 hstk hwt d hroom
  | some host => exact va_runSN (As := as.map (ja_cv ads)) (rest := st.map (ja_cv ads)) ⟨hC.1, hC.2.1, hC.2.2.1, hC.2.2.2.1, hts⟩ hM4 ⟨va_cnB (host := host) as.length hts (ja_goodIn gc) rfl rfl rfl (hC.2.2.2.2.2.2.1.2.1 _ gl) (hts _ gi) gd hRR, hts _ hst9, trivial⟩ ⟨ja_blind, hpc⟩ rfl hlen hS.1.1 hstk hwt d hroom
theorem ja_callI {M : ja_Mt} {pc pc' : Nat} {lv : List (Option Value)} {st : List Value} {h : ja_H} {ret : List Value} {hf : ja_H} {idx maxL : Nat} {d0 : Nat × Nat} {y : MethodName} {bytes : ByteArray} {rt : Option FieldType} {nest : Option String} {stk as rv : List Value} {h1 : ja_H} {i : Nat} (g : ja_G M.1 idx y bytes maxL rt as.length nest) (hin : Cond.instanceMethod y ∈ ja_all) (hyi : y.name = "<init>") (hrt : rt = none) (hd : d0.1 + 1 ≤ M.2.2.2.1.1 ∧ 8 + (maxL + 11) + d0.2 ≤ M.2.2.2.1.2) (hM : ja_M d0 y bytes maxL rt (.ref i :: as) h rv h1) (hst : stk = as.reverse ++ .ref i :: st) (hw : (st.map Value.category).sum ≤ 8) (d : ja_At M pc (.invokespecial idx) 3 pc') (k : ja_J M pc' lv (rv ++ st) h1 ret hf) : ja_J M pc lv stk h ret hf := by
  obtain ⟨d, rfl⟩ := d
  subst hst
  subst hrt
  obtain ⟨m1, m2, m3⟩ := hM.1
  obtain ⟨k1, k2, k3⟩ := k.1
  have va : ja_V h lv (as.reverse ++ .ref i :: st) → ja_V h [] (.ref i :: as) ∧ ja_V h lv st := by
    intro q
    have q2 := ja_vs_app.mp q.2.2
    exact ⟨⟨q.1, fun i r hi => by simp at hi, ⟨q2.2.1, ja_vs_rev.mp q2.1⟩⟩, q.1, q.2.1, q2.2.2⟩
  have vn : ja_V h lv (as.reverse ++ .ref i :: st) → ja_V h1 lv (rv ++ st) := by
    intro q
    have q1 := hM.2.1 (va q).1
    exact ⟨q1.1, fun i r hi => Nat.lt_of_lt_of_le (q.2.1 i r hi) m3, ja_vs_app.mpr ⟨q1.2.2, ja_vs_mono m3 (va q).2.2.2⟩⟩
  refine ⟨⟨by omega, by omega, by omega⟩, fun q => k.2.1 (vn q), fun p l e R s m args below meth c Q D aC A kc ks H ls locs cells slots ads hC hS hV hE => ?_⟩
  have hM4 := hM.2.2.2 l D aC ads H.size hC.2.2.2.2.2.2.2.2.2.2.2.2.2.2 (va hV).1
  have hR := hC.2.2.2.2.2.2.2.2.1
  have hrm := hC.2.2.2.2.2.2.2.2.2.2.1
  have hts := hC.2.2.2.2.1
  have hcc := hS.2.2.2.2.1
  have hss := hS.2.2.2.2.2
  obtain ⟨gc, gi, gd, gl⟩ := g
  have hRR : (ja_rm d0 (ja_nc h1 - ja_nc h) (ja_ns h1 - ja_ns h)).frames + 1 ≤ R.frames ∧ 8 + (maxL + 11) + (ja_rm d0 (ja_nc h1 - ja_nc h) (ja_ns h1 - ja_ns h)).locals ≤ R.locals := by
    show d0.1 + 1 ≤ R.frames ∧ 8 + (maxL + 11) + d0.2 ≤ R.locals
    omega
  have hroom : cells + (ja_nc h1 - ja_nc h) ≤ R.cells ∧ slots + (ja_ns h1 - ja_ns h) ≤ R.slots := by omega
  have hpc : ∀ U : State, U.heap = H → s.WarmedH U.vm → va_Pc ((.ref i :: as).map (ja_cv ads)) (ja_B D aC ads h H.size) ((.ref i :: as).map (ja_cv ads)).toArray U := fun U hU hW => ⟨rfl, by rw [hU], by rw [hU]; exact hS.2.1, va_K.moved hW.alike hC.2.2.2.2.2.1, hC.2.2.2.2.2.2.1.warm hW, hS.2.2.1.weaken (fun _ _ _ _ => trivial), ja_Zx_call hC hS hU hW⟩
  have hlen : (as.map (ja_cv ads)).length = as.length := List.length_map _
  have hwt : 2 * (F0 m pc ls ((as.reverse ++ .ref i :: st).map (ja_cv ads))).monitorRoom + ((st.map (ja_cv ads)).map fun v => v.category).sum ≤ 8 := by rw [ja_cv_sum]; show 2 * 0 + _ ≤ 8; omega
  have hstk : (as.reverse ++ .ref i :: st).map (ja_cv ads) = (as.map (ja_cv ads)).reverse ++ .ref (ads i) :: st.map (ja_cv ads) := by simp [ja_cv]
  refine ja_core (a := ((.ref i :: as).map (ja_cv ads)).toArray) hM.1 hM.2.1 hM.2.2.1 k hC hS (va hV).2 (va hV).1 hE ?_
  cases nest with
  | none => exact va_runI (As := as.map (ja_cv ads)) (rest := st.map (ja_cv ads)) (b := ads i) ⟨hC.1, hC.2.1, hC.2.2.1, hC.2.2.2.1, hts⟩ hM4 ⟨callB_of as.length hts (ja_goodIn gc) rfl rfl rfl (hts _ gi) (hts _ gl) gd hRR, hyi, hts _ hin⟩ ⟨ja_blind, hpc⟩ rfl hlen hS.1.1 hstk hwt d hroom
  | some host => exact va_runIN (As := as.map (ja_cv ads)) (rest := st.map (ja_cv ads)) (b := ads i) ⟨hC.1, hC.2.1, hC.2.2.1, hC.2.2.2.1, hts⟩ hM4 ⟨va_cnB (host := host) as.length hts (ja_goodIn gc) rfl rfl rfl (hC.2.2.2.2.2.2.1.2.1 _ gl) (hts _ gi) gd hRR, hyi, hts _ hin⟩ ⟨ja_blind, hpc⟩ rfl hlen hS.1.1 hstk hwt d hroom
theorem ja_objInit {M : ja_Mt} {pc pc' : Nat} {lv : List (Option Value)} {st : List Value} {h : ja_H} {ret : List Value} {hf : ja_H} {idx i : Nat} (hl : Cond.methodLink M.1 idx objectInit ∈ ja_all) (hin : Cond.instanceMethod objectInit ∈ ja_all) (hcd : Cond.code objectInit ⟨#[0xb1]⟩ 1 none ∈ ja_all) (hd : 1 ≤ M.2.2.2.1.1 ∧ 20 ≤ M.2.2.2.1.2) (hw : (st.map Value.category).sum ≤ 8) (d : ja_At M pc (.invokespecial idx) 3 pc') (k : ja_J M pc' lv st h ret hf) : ja_J M pc lv (.ref i :: st) h ret hf := by
  obtain ⟨d, rfl⟩ := d
  refine ⟨k.1, fun q => k.2.1 ⟨q.1, q.2.1, q.2.2.2⟩, fun p l e R s m args below meth c Q D aC A kc ks H ls locs cells slots ads hC hS hV hE => ?_⟩
  have hR := hC.2.2.2.2.2.2.2.2.1
  refine W.objInit hC.1 hC.2.1 hC.2.2.2.1 (hC.2.2.2.2.1 _ hl) (hC.2.2.2.2.1 _ hin) (hC.2.2.2.2.1 _ hcd) (g := F0 m pc ls (.ref (ads i) :: st.map (ja_cv ads))) rfl (hS.1.1.trans hC.2.2.1.symm) rfl d (by omega) ?_ ?_
  · rw [ja_cv_sum]
    show 2 * 0 + _ + 12 ≤ _
    omega
  · exact k.2.2 p l e R s m args below meth c Q D aC A kc ks H ls locs cells slots ads hC hS ⟨hV.1, hV.2.1, hV.2.2.2⟩ hE
