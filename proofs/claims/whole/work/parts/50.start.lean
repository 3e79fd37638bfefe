def R_law : String := "WordJudgeLaw"
def lw_P (b : Addr) (xs : List Int32) (args : Array Value) (s : State) : Prop := args = #[.ref b] ∧ s.IntsAt b xs ∧ xs.length ≤ 2048 ∧ (Jvm.Cond.and given_1 narrow_1).before args s = true
def lw_Q (_ : Array Value) (s : State) (o : Outcome) (t : State) : Prop := o = .returned (some (.int 1)) ∧ Framed s o t [] 601024 7293034
def lw_Z (below : List Frame) (a : Array Value) (s : State) : State → Prop := fun t => ∃ o, t.status = .running ∧ Ended t below o ∧ lw_Q a s o t
theorem lw_ret {p : Program} {l : Launch} {e : Env} {s : State} {m : MethodId} {below : List Frame} {meth : Method} {c : Code} {b : Nat} (hx : p.tables.exec = Jvm.exec) (hb : c.code = code) (hr : meth.sig.returnType = ret) (hlocks : meth.locks = false) {pc : Nat} {H : Heap} {ls : Array Slot} (hdg : decode code pc = .ok (.ireturn, 1)) : W p l e room_1 s m #[Value.ref b] below meth c H [] 601024 7293034 (lw_Z below #[Value.ref b] s) (F0 m pc ls [.int 1]) := by
  intro T hT X
  obtain ⟨fs, hret, hrun, hended, hW, hframe⟩ := X.leave (v := some (.int 1)) (hlocks := hlocks) (fun h => by rw [hr] at h; cases h)
  have hmeth' : T.vm.method? m = some meth := X.method'
  refine ⟨T.setFrames fs, ?_, .returned (some (.int 1)), hrun, hended, rfl, ⟨_, rfl⟩, hW, hframe⟩
  jvm_step X.here [X.here.top, hx, hb, hdg, hmeth', hr, ret, narrow_b1]
  (try refine ⟨rfl, ?_⟩); (try refine ⟨rfl, ?_⟩)
  first | (intro acts; rw [hret _ acts rfl rfl rfl]) | rw [hret _ _ rfl rfl rfl]
  exact Steps.refl _
def lw_At (p : Program) (s : State) (m : MethodId) (meth : Method) (c : Code) (b L : Nat) (xs : Nat → Int32) : Prop :=
  p.tables.exec = Jvm.exec ∧ c.code = code ∧ meth.sig.returnType = ret ∧ c.maxLocals = 8 ∧ s.vm.findClass R_law = some m.cls ∧ (∀ w ∈ lw_tbl, w.before #[Value.ref b] s = true) ∧ va_X b L xs s s.heap ∧ b < s.heap.size ∧ meth.locks = false ∧ (Jvm.Cond.and given_1 narrow_1).before #[Value.ref b] s = true
theorem ja_t1 {w : Cond} (i : Nat) (h : tables_1_1[i]? = some w) : w ∈ lw_tbl := List.mem_append_right _ (show w ∈ tables_1_1 ++ (tables_1_2 ++ (tables_1_3 ++ (tables_1_4 ++ (tables_1_5 ++ tables_1_6)))) from List.mem_append_left _ (List.mem_of_getElem? h))
theorem ja_t2 {w : Cond} (i : Nat) (h : tables_1_2[i]? = some w) : w ∈ lw_tbl := List.mem_append_right _ (show w ∈ tables_1_1 ++ (tables_1_2 ++ (tables_1_3 ++ (tables_1_4 ++ (tables_1_5 ++ tables_1_6)))) from List.mem_append_right _ (List.mem_append_left _ (List.mem_of_getElem? h)))
theorem ja_t3 {w : Cond} (i : Nat) (h : tables_1_3[i]? = some w) : w ∈ lw_tbl := List.mem_append_right _ (show w ∈ tables_1_1 ++ (tables_1_2 ++ (tables_1_3 ++ (tables_1_4 ++ (tables_1_5 ++ tables_1_6)))) from List.mem_append_right _ (List.mem_append_right _ (List.mem_append_left _ (List.mem_of_getElem? h))))
theorem ja_t4 {w : Cond} (i : Nat) (h : tables_1_4[i]? = some w) : w ∈ lw_tbl := List.mem_append_right _ (show w ∈ tables_1_1 ++ (tables_1_2 ++ (tables_1_3 ++ (tables_1_4 ++ (tables_1_5 ++ tables_1_6)))) from List.mem_append_right _ (List.mem_append_right _ (List.mem_append_right _ (List.mem_append_left _ (List.mem_of_getElem? h)))))
theorem ja_t5 {w : Cond} (i : Nat) (h : tables_1_5[i]? = some w) : w ∈ lw_tbl := List.mem_append_right _ (show w ∈ tables_1_1 ++ (tables_1_2 ++ (tables_1_3 ++ (tables_1_4 ++ (tables_1_5 ++ tables_1_6)))) from List.mem_append_right _ (List.mem_append_right _ (List.mem_append_right _ (List.mem_append_right _ (List.mem_append_left _ (List.mem_of_getElem? h))))))
theorem ja_t6 {w : Cond} (i : Nat) (h : tables_1_6[i]? = some w) : w ∈ lw_tbl := List.mem_append_right _ (show w ∈ tables_1_1 ++ (tables_1_2 ++ (tables_1_3 ++ (tables_1_4 ++ (tables_1_5 ++ tables_1_6)))) from List.mem_append_right _ (List.mem_append_right _ (List.mem_append_right _ (List.mem_append_right _ (List.mem_append_right _ (List.mem_of_getElem? h))))))
theorem ja_sub {w : Cond} (h : w ∈ ja_all) : w ∈ lw_tbl := (List.mem_filter.mp h).1
theorem jz_lays {C n d : String} {args args' : Array Value} {s U : State} (hW : s.WarmedH U.vm) (hq : ∀ q, q < s.heap.size → U.heap[q]? = s.heap[q]?) (h : (Cond.laysStatic C n d).before args s = true) : (Cond.laysStatic C n d).before args' U = true := by
  obtain ⟨c, k, i, f, a, cell, hc, hi, hst, ha, hcell, hs, hcls, hlt, hty⟩ := Cond.laysStatic_spec h
  obtain ⟨k', hi', he⟩ := State.fieldFound?_setVm hW.alike hi
  have hc' : U.vm.findClass C = some c := by rw [hW.alike.findClass]; exact hc
  have hi2 : U.fieldFound? C n d = some (c, k', i, f) := hi'
  have ha' : k'.statics = some a := by rw [he]; exact ha
  have hcell' : U.heap[a]? = some cell := by rw [hq a (Array.getElem?_eq_some_iff.mp hcell).1]; exact hcell
  have hty' : k'.staticTypes[f.slot]? = some f.type := by rw [he]; exact hty
  simp [Cond.before, Cond.holds, Cond.value, hc', hi2, ha', hcell', hst, hs, hcls, hlt, hty']
theorem jz_isRef {C n d : String} {args : Array Value} {A : Nat → Prop} {U : State} (h : va_Zq C n d A U U.heap) : (Cond.isRef (.static C n d)).before args U = true := by
  rcases h with ⟨cf, kf, fi, f, a, cell, h1, h2, h3, h4, h5, h6, h7, -⟩ | ⟨t, cf, kf, fi, f, a, cell, h1, h2, h3, h4, h5, h6, h7, -⟩
  · simp [Cond.before, Cond.holds, Cond.value, Term.eval, State.fieldNamed?, h1, h2, h4, h5, h6, h7]
  · simp [Cond.before, Cond.holds, Cond.value, Term.eval, State.fieldNamed?, h1, h2, h4, h5, h6, h7]
theorem jz_not {X Y : String} {args args' : Array Value} {s U : State} (hW : s.WarmedH U.vm) (h : (Cond.not (.castable X Y)).before args s = true) : (Cond.not (.castable X Y)).before args' U = true := by
  simp only [Cond.before, Cond.holds, Cond.value, hW.alike.findClass, hW.alike.assignable] at h ⊢
  exact h
theorem jz_str {k : Nat} {tx : String} {args : Array Value} {s U : State} (hW : s.WarmedH U.vm) (h1 : (Cond.stringRef "WordJudge" k tx).before args s = true) (h2 : (Cond.exactly (.string "WordJudge" k) "java/lang/String").before args s = true) : ∃ a, vk_R "WordJudge" k tx a U := by
  obtain ⟨a, c, cA, kA, q1, -⟩ := Cond.exactly_spec (args := args) (first := s) (o := none) (s := s) (idx := []) (t := .string "WordJudge" k) (cls := "java/lang/String") h2
  exact ⟨a, vk_R.warm hW (vk_R.of h1 q1)⟩
theorem ja_Zx0 {s : State} {args : Array Value} (hts : ∀ w ∈ lw_tbl, w.before args s = true) (hgv : (Jvm.Cond.and given_1 narrow_1).before args s = true) : ja_Zx (fun q => s.heap.size ≤ q) s := by
  have hs := flat_of_before _ hgv
  intro U hW hsz hq
  have hq' : ∀ q, q < s.heap.size → U.heap[q]? = s.heap[q]? := fun q h1 => hq q h1 (Nat.not_le.mpr h1)
  have zq : ∀ {n d : String}, (Cond.laysStatic Bundle.tN n d).before args s = true → (Cond.isRef (.static Bundle.tN n d)).before args s = true → va_Zq Bundle.tN n d (fun q => s.heap.size ≤ q) U U.heap := by
    intro n d h1 h2
    exact ((va_Zqof h1 (hts _ (ja_t1 11 rfl)) h2 (fun a ha => Nat.not_le.mpr ha)).kept hq).moved hW.alike
  refine ⟨fun args' w hw => ?_, fun q hq9 => ?_⟩
  · simp only [ja_isr, List.mem_cons, List.mem_nil_iff, or_false] at hw
    rcases hw with rfl | rfl | rfl | rfl | rfl | rfl | rfl | rfl | rfl | rfl | rfl | rfl | rfl | rfl | rfl | rfl
    · exact jz_isRef (zq (hts _ (ja_t2 76 rfl)) (hs _ (by decide +kernel)))
    · exact jz_isRef (zq (hts _ (ja_t2 78 rfl)) (hs _ (by decide +kernel)))
    · exact jz_lays hW hq' (hts _ (ja_t2 76 rfl))
    · exact jz_lays hW hq' (hts _ (ja_t2 78 rfl))
    · exact jz_not hW (hs _ (by decide +kernel))
    · exact jz_not hW (hs _ (by decide +kernel))
    · exact jz_not hW (hs _ (by decide +kernel))
    · exact jz_not hW (hs _ (by decide +kernel))
    · exact jz_not hW (hs _ (by decide +kernel))
    · exact jz_not hW (hs _ (by decide +kernel))
    · exact va_Nw.use rfl (va_Nw.warmD hW (va_Nw.of rfl (hts _ (ja_t2 53 rfl))))
    · exact va_Nw.use rfl (va_Nw.warmD hW (va_Nw.of rfl (hts _ (ja_t2 55 rfl))))
    · exact va_Nw.use rfl (va_Nw.warmD hW (va_Nw.of rfl (hts _ (ja_t2 57 rfl))))
    · exact va_Nw.use rfl (va_Nw.warmC hW (va_Nw.of rfl (hts _ (ja_t2 51 rfl))))
    · exact va_Nw.use rfl (va_Nw.warmC hW (va_Nw.of rfl (hts _ (ja_t2 141 rfl))))
    · exact va_Nw.use rfl (va_Nw.warmC hW (va_Nw.of rfl (hts _ (ja_t2 187 rfl))))
  · simp only [ja_strs, List.mem_cons, List.mem_nil_iff, or_false] at hq9
    rcases hq9 with rfl | rfl | rfl | rfl | rfl | rfl | rfl | rfl | rfl
    · exact jz_str hW (hts _ (ja_t2 90 rfl)) (hs _ (by decide +kernel))
    · exact jz_str hW (hts _ (ja_t2 130 rfl)) (hs _ (by decide +kernel))
    · exact jz_str hW (hts _ (ja_t2 148 rfl)) (hs _ (by decide +kernel))
    · exact jz_str hW (hts _ (ja_t2 167 rfl)) (hs _ (by decide +kernel))
    · exact jz_str hW (hts _ (ja_t2 194 rfl)) (hs _ (by decide +kernel))
    · exact jz_str hW (hts _ (ja_t4 102 rfl)) (hs _ (by decide +kernel))
    · exact jz_str hW (hts _ (ja_t4 103 rfl)) (hs _ (by decide +kernel))
    · exact jz_str hW (hts _ (ja_t4 105 rfl)) (hs _ (by decide +kernel))
    · exact jz_str hW (hts _ (ja_t4 191 rfl)) (hs _ (by decide +kernel))
theorem it_WJ : Cond.instantiable R_WJ 7 ∈ ja_all := (ja_m1 24 rfl rfl)
theorem it_Co : Cond.instantiable R_Co 2 ∈ ja_all := (ja_m1 32 rfl rfl)
theorem it_Gi : Cond.instantiable R_Gi 2 ∈ ja_all := (ja_m1 50 rfl rfl)
theorem it_Fo : Cond.instantiable R_Fo 3 ∈ ja_all := (ja_m1 65 rfl rfl)
theorem it_Wo : Cond.instantiable R_Wo 7 ∈ ja_all := (ja_m1 71 rfl rfl)
theorem it_Ju : Cond.instantiable R_Ju 10 ∈ ja_all := (ja_m1 132 rfl rfl)
theorem it_St : Cond.instantiable R_St 5 ∈ ja_all := (ja_m1 139 rfl rfl)
theorem it_Va : Cond.instantiable R_Va 3 ∈ ja_all := (ja_m1 164 rfl rfl)
theorem it_Ma : Cond.instantiable R_Ma 8 ∈ ja_all := (ja_m1 221 rfl rfl)
theorem it_Mo : Cond.instantiable R_Mo 23 ∈ ja_all := (ja_m4 193 rfl rfl)
theorem ja_cls {s : State} {args : Array Value} (hts : ∀ w ∈ ja_all, w.before args s = true) : ∀ c : Nat, ∃ z : ClassId × (Nat → Nat), ∀ q, vwCl[c]? = some q → u_Kn s q.1 q.2.1 q.2.2 z.1 z.2
  | 0 => by
    obtain ⟨cC, iS, h⟩ := u_known (n := 7) hts u_WJ (hts _ it_WJ)
    exact ⟨(cC, iS), fun q hq => by cases hq; exact h⟩
  | 1 => by
    obtain ⟨cC, iS, h⟩ := u_known (n := 2) hts u_Co (hts _ it_Co)
    exact ⟨(cC, iS), fun q hq => by cases hq; exact h⟩
  | 2 => by
    obtain ⟨cC, iS, h⟩ := u_known (n := 2) hts u_Gi (hts _ it_Gi)
    exact ⟨(cC, iS), fun q hq => by cases hq; exact h⟩
  | 3 => by
    obtain ⟨cC, iS, h⟩ := u_known (n := 3) hts u_Fo (hts _ it_Fo)
    exact ⟨(cC, iS), fun q hq => by cases hq; exact h⟩
  | 4 => by
    obtain ⟨cC, iS, h⟩ := u_known (n := 7) hts u_Wo (hts _ it_Wo)
    exact ⟨(cC, iS), fun q hq => by cases hq; exact h⟩
  | 5 => by
    obtain ⟨cC, iS, h⟩ := u_known (n := 10) hts u_Ju (hts _ it_Ju)
    exact ⟨(cC, iS), fun q hq => by cases hq; exact h⟩
  | 6 => by
    obtain ⟨cC, iS, h⟩ := u_known (n := 5) hts u_St (hts _ it_St)
    exact ⟨(cC, iS), fun q hq => by cases hq; exact h⟩
  | 7 => by
    obtain ⟨cC, iS, h⟩ := u_known (n := 3) hts u_Va (hts _ it_Va)
    exact ⟨(cC, iS), fun q hq => by cases hq; exact h⟩
  | 8 => by
    obtain ⟨cC, iS, h⟩ := u_known (n := 8) hts u_Ma (hts _ it_Ma)
    exact ⟨(cC, iS), fun q hq => by cases hq; exact h⟩
  | 9 => by
    obtain ⟨cC, iS, h⟩ := u_known (n := 23) hts u_Mo (hts _ it_Mo)
    exact ⟨(cC, iS), fun q hq => by cases hq; exact h⟩
  | n + 10 => ⟨(0, fun _ => 0), fun q hq => by
    have : vwCl.length = 10 := rfl
    rw [List.getElem?_eq_none (by omega)] at hq
    cases hq⟩
theorem ja_arr {s : State} {args : Array Value} (hts : ∀ w ∈ lw_tbl, w.before args s = true) : ∀ t : Nat, ∃ cA : ClassId, t < 5 → ArrOfT s cA (ja_at t) ∧ va_RA s cA (ja_at t)
  | 0 => by
    obtain ⟨c, k, comp, h1, h2, h3⟩ := Cond.arrayClass_spec (hts _ (ja_sub ac_int))
    exact ⟨c, fun _ => ⟨fun n z => ⟨fun k h => (by cases h), k, h2, comp, h3⟩, h1⟩⟩
  | 1 => by
    obtain ⟨c, k, comp, h1, h2, h3⟩ := Cond.arrayClass_spec (hts _ (ja_sub ac_long))
    exact ⟨c, fun _ => ⟨fun n z => ⟨fun k h => (by cases h), k, h2, comp, h3⟩, h1⟩⟩
  | 2 => by
    obtain ⟨c, k, comp, h1, h2, h3⟩ := Cond.arrayClass_spec (hts _ (ja_sub ac_boolean))
    exact ⟨c, fun _ => ⟨fun n z => ⟨fun k h => (by cases h), k, h2, comp, h3⟩, h1⟩⟩
  | 3 => by
    obtain ⟨c, k, comp, h1, h2, h3⟩ := Cond.arrayClass_spec (hts _ (ja_sub ac_byte))
    exact ⟨c, fun _ => ⟨fun n z => ⟨fun k h => (by cases h), k, h2, comp, h3⟩, h1⟩⟩
  | 4 => by
    obtain ⟨comp, c, k, h0, -, h2, h3, h1⟩ := Cond.arrayOver_spec (n := ja_elem) (hts _ (ja_t1 138 rfl))
    exact ⟨c, fun _ => ⟨fun n z => ⟨fun k h => (by cases h), k, h2, comp, h3⟩, k, comp, h2, h3, h0, h1⟩⟩
  | n + 5 => ⟨0, fun h => by omega⟩
theorem ja_K0 {s : State} {args : Array Value} (hts : ∀ w ∈ lw_tbl, w.before args s = true) : ∃ (D : va_G) (aC : Nat → ClassId), va_K D vwCl (ja_tys aC) s := by
  obtain ⟨z, hz⟩ := Classical.axiomOfChoice (ja_cls (fun w hw => hts w (ja_sub hw)))
  obtain ⟨aC, hA⟩ := Classical.axiomOfChoice (ja_arr hts)
  refine ⟨(fun c => (z c).1, fun c => (z c).2), aC, fun c q hq => hz c q hq, fun k q hk => ?_⟩
  have hlt : k < 5 := (List.getElem?_eq_some_iff.mp hk).1
  have := hA k hlt
  rcases (show k = 0 ∨ k = 1 ∨ k = 2 ∨ k = 3 ∨ k = 4 by omega) with rfl | rfl | rfl | rfl | rfl <;> cases hk <;> exact this
theorem ja_N0 {s : State} {args : Array Value} (hts : ∀ w ∈ lw_tbl, w.before args s = true) : ja_N s :=
  ⟨fun q hq => va_Nw.of rfl (hts _ (List.mem_append_right _ (ja_nfl_in q hq))), fun q hq => va_Nw.of rfl (hts _ (List.mem_append_right _ (ja_nml_in q hq))), va_AO.of (hts _ (ja_t1 138 rfl))⟩
theorem ja_flags {l : Launch} (h : l.flags = flags0) : l.stackTraces = false := by
  unfold Launch.stackTraces
  rw [h]
  decide +kernel
theorem whole_start {p : Program} {e : Env} {s : State} {m : MethodId} {below : List Frame} {meth : Method} {c : Code} (l : Launch) (hfl : l.flags = flags0) {b L : Nat} {xs : Nat → Int32} {hf : ja_H} (he : r_La_law L xs ja_h0 = some (1, hf)) (hroom : ja_nc hf ≤ 601024 ∧ ja_ns hf ≤ 7293034) (C0 : lw_At p s m meth c b L xs) : W p l e room_1 s m #[Value.ref b] below meth c s.heap [] 0 0 (lw_Z below #[Value.ref b] s) (entryFrame m ([Value.ref b] : List Value).toArray 8) := by
  obtain ⟨hx, hb, hr, hml, hown, hts, hX, hbl, hlocks, hgv⟩ := C0
  obtain ⟨D, aC, hK⟩ := ja_K0 hts
  have hj := e_La_law (b := b) (L := L) (xs := xs) (h := ja_h0) _ he
  rw [lg_entry_eq]
  have hl := lv_entry [Value.ref b] (n := 8) (Nat.le_of_ble_eq_true rfl)
  refine hj.2.2 p l e room_1 s m #[Value.ref b] below meth c _ D aC (fun q => s.heap.size ≤ q) 0 0 s.heap _ [] 0 0 (fun _ => 0)
    ⟨hx, hb, hml, hown, fun w hw => hts w (ja_sub hw), hK, ja_N0 hts, fun q hq => hq, ⟨Nat.le_of_ble_eq_true rfl, Nat.le_of_ble_eq_true rfl⟩, fun hi => (by cases hi), ⟨hroom.1, hroom.2⟩, fun b' L' xs' hq => (by cases hq; exact ⟨hX, hbl, Nat.not_le.mpr hbl⟩), fun hh hq => (by cases hq), ja_Zx0 hts hgv, ja_flags hfl⟩
    ⟨⟨hl.1, hl.2.1, fun i v hi => ?_⟩, fun k q hk => (by cases hk), ⟨fun i j p q hi => (by cases hi), fun k q hk => (by cases hk)⟩, va_S.rf, rfl, rfl⟩ ⟨fun i k r hr => (by cases hr), fun i r hi => ?_, trivial⟩ ?_
  · match i, hi with
    | 0, hi => cases hi; exact hl.2.2 (0, Value.ref b) List.mem_cons_self
    | 1, hi => cases hi
    | 2, hi => cases hi
    | 3, hi => cases hi
    | 4, hi => cases hi
    | 5, hi => cases hi
    | 6, hi => cases hi
    | 7, hi => cases hi
    | n + 8, hi => simp at hi
  · match i, hi with
    | 0, hi => cases hi
    | 1, hi => cases hi
    | 2, hi => cases hi
    | 3, hi => cases hi
    | 4, hi => cases hi
    | 5, hi => cases hi
    | 6, hi => cases hi
    | 7, hi => cases hi
    | n + 8, hi => simp at hi
  · intro pc H ls locs cells slots ads' hrt hls ha hP hD hS hc hs
    refine va_forget (fun q hq => hS.2.2 q hq) ?_
    have h1 : cells + 0 = ja_nc hf := hc
    have h2 : slots + 0 = ja_ns hf := hs
    refine W.widen (k := 601024) (n := 7293034) (by omega) (by omega) ?_
    exact lw_ret hx hb hr hlocks hrt.1
