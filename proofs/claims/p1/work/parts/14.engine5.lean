def jx_ok (s0 : State) (pc : Nat) (own : String) (cc : ClassId) (hp : Nat) : List ExceptionTableEntry → Prop
  | [] => False
  | x :: t => covers x pc = true ∧ x.catchType ≠ 0 ∧ ∃ (nm : String) (c : ClassId) (args : Array Value), (Cond.classLink own x.catchType nm).before args s0 = true ∧ s0.vm.findClass nm = some c ∧ ((s0.vm.assignable cc c = true ∧ x.handlerPc = hp) ∨ (s0.vm.assignable cc c = false ∧ jx_ok s0 pc own cc hp t))
theorem jx_search {e : Env} {s0 : State} {f : JFrame} {a : Addr} {cell : Cell} {own : String} {hp : Nat} (hpl : e.platform.magicAccessors = ({} : Platform).magicAccessors) (hown : s0.vm.findClass own = some f.method.cls) (hobj : cell.vm.isStatics = false) (hkc : ∃ k, s0.vm.classes[cell.cls]? = some k) :
    ∀ (es : List ExceptionTableEntry) (S : State), s0.WarmedH S.vm → S.heap[a]? = some cell → jx_ok s0 f.pc own cell.cls hp es → ∃ vm' : Vm, s0.WarmedH vm' ∧ ∀ (Q : Handler → Pre) (E : CtlPost) (d : Bool) (acts : List Action), wp (findHandler.go f a es) Q E e d acts S ↔ Q (.found hp) d acts (S.setVm vm')
  | [], _, _, _, h => by cases h
  | x :: t, S, hW, hcell, ⟨hx, h0, nm, c, args, hlink, hc, hor⟩ => by
    obtain ⟨c', hc', hcl⟩ := Cond.classLink_spec hown hlink e.platform hpl
    cases hc.symm.trans hc'
    obtain ⟨dk, _, _, kt, hd, _, _, _, _, hkt, _, hopen⟩ := hcl.here
    have hcl₀ := hW.classLinks hcl
    have hW' : s0.WarmedH (S.vm.noted f.method.cls x.catchType (.cls c)) := hW.noted hd hopen (State.rightAt_cls hcl)
    obtain ⟨ha, ht⟩ := (resolveClass_links e.toSetting hcl₀).op (op := VmOp.resolveClass f.method.cls x.catchType) rfl
    obtain ⟨k1, hk1⟩ := hkc
    obtain ⟨k1', hk1', -⟩ := hW'.alike.2.2 _ _ hk1
    obtain ⟨k2', hk2', -⟩ := hW'.alike.2.2 _ _ hkt
    have hobj' := VmData.ne_statics_of hobj
    simp only [covers] at hx
    rcases hor with ⟨hfit, rfl⟩ | ⟨hno, hrest⟩
    · have hfit' : (S.vm.noted f.method.cls x.catchType (.cls c)).assignable cell.cls c = true := by rw [hW'.alike.assignable]; exact hfit
      refine ⟨_, hW', fun Q E d acts => ?_⟩
      simp [findHandler.go, hx, h0, ha, ht, hcell, hobj', hk1', hk2', hfit', VmOp.dirties, VmOp.acts]
    · have hno' : (S.vm.noted f.method.cls x.catchType (.cls c)).assignable cell.cls c = false := by rw [hW'.alike.assignable]; exact hno
      obtain ⟨vm2, hW2, h2⟩ := jx_search hpl hown hobj ⟨k1, hk1⟩ t (S.setVm (S.vm.noted f.method.cls x.catchType (.cls c))) hW' hcell hrest
      refine ⟨vm2, hW2, fun Q E d acts => ?_⟩
      have h3 := h2 Q E d acts
      simp only [State.setVm] at h3
      simp [findHandler.go, hx, h0, ha, ht, hcell, hobj', hk1', hk2', hno', VmOp.dirties, VmOp.acts]
      exact h3
theorem jx_caught {tb : Tables} {e : Env} {s target : State} {g : JFrame} {c : Code} {below : List Frame} {a : Addr} (h : At s g.method c below) {pc : Nat} {vm' : Vm}
    (hfind : ∀ (Q : Handler → Pre) (E : CtlPost) (d : Bool) (acts : List Action), wp (findHandler g a) Q E e d acts ((s.setTop g).pushFrame (.throwing a)) ↔ Q (.found pc) d acts (((s.setTop g).pushFrame (.throwing a)).setVm vm')) (hrest : Steps tb e below ((s.setVm vm').setTop { g with pc := pc, stack := [.ref a] }) target) :
    Steps tb e below ((s.setTop g).pushFrame (.throwing a)) target := by
  obtain ⟨hgo, hw⟩ := h.throwing a
  refine Steps.head hgo hw ?_
  have hstep : ∀ (S : State) (r : List Frame), (∀ (Q : Handler → Pre) (E : CtlPost) (d : Bool) (acts : List Action), wp (findHandler g a) Q E e d acts S ↔ Q (.found pc) d acts (S.setVm vm')) → (stepThrowing e S a (.java g :: r)).Is ((S.setVm vm').setFrames (.java { g with pc := pc, stack := [.ref a] } :: r)) [] := by
    intro S r hf
    simp only [stepThrowing, searchFrame, vmDo]
    generalize hr : Sem.go _ e false [] S = res
    obtain ⟨as, rfl, ha⟩ := Sem.eq_ok_of hr (a := Handler.found pc) (s' := S.setVm vm') (acts' := []) (by simp [hf _ _ _ _])
    exact ⟨rfl, ha⟩
  rw [stepThread_throwing (frames_entered h.top _), (hstep _ _ hfind).1]
  obtain ⟨g₀, hg⟩ := Option.isSome_iff_exists.mp h.top
  obtain ⟨r, hr⟩ := State.topJava?_eq_some.mp hg
  have hr' : (s.setVm vm').frames = .java g₀ :: r := hr
  have hss : ∀ (u : State) (F G : List Frame), ((u.setFrames F).setVm vm').setFrames G = (u.setVm vm').setFrames G := by
    intro u F G
    have h1 : (u.setFrames F).setVm vm' = (u.setVm vm').setFrames F := rfl
    rw [h1, State.setFrames_setFrames]
  rw [State.setTop_of_frames _ hr'] at hrest
  rw [hr, List.tail_cons, State.pushFrame, hss, State.setTop_of_frames _ hr, hss]
  exact hrest
def ja_nms : List String := ["java/lang/RuntimeException", "java/lang/Exception"]
def ja_hs (own : String) (pc : Nat) (X : String) (hp : Nat) : List (Nat × Nat × Nat × Nat) → Prop
  | [] => False
  | q :: t => (decide (q.1 ≤ pc) && decide (pc < q.2.1)) = true ∧ q.2.2.2 ≠ 0 ∧ ∃ Y : String, Cond.classLink own q.2.2.2 Y ∈ ja_all ∧ Cond.initialized Y ∈ ja_all ∧ ((Y = X ∧ q.2.2.1 = hp) ∨ (Cond.not (.castable X Y) ∈ ja_isr ∧ ja_hs own pc X hp t))
def ja_Site (M : ja_Mt) (pc : Nat) (y : MethodName) (bytes : ByteArray) (d0 : Nat × Nat) (k hp : Nat) : Prop :=
  ∃ (X : String) (ix si ic : Nat) (tx : String), (decode bytes k = .ok (.new ix, 3) ∧ decode bytes (k + 3) = .ok (.dup, 1) ∧ decode bytes (k + 4) = .ok (.ldc si, 2) ∧ decode bytes (k + 6) = .ok (.invokespecial ic, 3) ∧ decode bytes (k + 9) = .ok (.athrow, 1)) ∧
    (Cond.classLink y.cls ix X ∈ ja_all ∧ Cond.instantiable X 6 ∈ ja_all ∧ Cond.initialized X ∈ ja_all) ∧ (y.cls = "WordJudge" ∧ (si, tx) ∈ ja_strs) ∧ (∀ w ∈ Bundle.ownAtoms y.cls ic X ja_nms, w ∈ ja_all ∨ w ∈ ja_isr) ∧ (Bundle.fit X = true ∧ ∀ n ∈ ja_nms, Bundle.fit n = true) ∧ (6 ≤ d0.1 ∧ 82 ≤ d0.2) ∧
    ∃ hh, M.2.2.2.2.2.2.2 = some hh ∧ ja_hs M.1 pc X hp hh
theorem ja_hs_ok {s0 : State} {pc : Nat} {own X : String} {hp : Nat} {cX : ClassId} {args : Array Value} (hts : ∀ w ∈ ja_all, w.before args s0 = true) (hno : ∀ w ∈ ja_isr, w.before args s0 = true) (hX : s0.vm.findClass X = some cX) (hself : s0.vm.assignable cX cX = true) :
    ∀ (es : List ExceptionTableEntry), ja_hs own pc X hp (es.map (fun x => (x.startPc, x.endPc, x.handlerPc, x.catchType))) → jx_ok s0 pc own cX hp es
  | [], h => by cases h
  | x :: t, ⟨h1, h2, Y, hl, hi, hor⟩ => by
    refine ⟨by simpa [covers] using h1, h2, Y, ?_⟩
    obtain ⟨cY, hcY⟩ : ∃ cY, s0.vm.findClass Y = some cY := by
      have h9 := hts _ hi
      cases hc : s0.vm.findClass Y with
      | none => simp [Cond.before, Cond.holds, Cond.value, hc] at h9
      | some cY => exact ⟨cY, rfl⟩
    refine ⟨cY, args, hts _ hl, hcY, ?_⟩
    rcases hor with ⟨rfl, h3⟩ | ⟨h3, h4⟩
    · cases hX.symm.trans hcY
      exact Or.inl ⟨hself, h3⟩
    · right
      refine ⟨?_, ja_hs_ok hts hno hX hself t h4⟩
      have h9 := hno _ h3
      simp only [Cond.before, Cond.holds, Cond.value, hX, hcY] at h9
      simpa using h9
def jx_b (s T : State) : State := { s with heap := T.heap, slotsUsed := T.slotsUsed }
theorem jx_rebase {p : Program} {l : Launch} {e : Env} {R : Room} {s : State} {m : MethodId} {args : Array Value} {below : List Frame} {meth : Method} {c : Code} {T : State} {locs : List Loc} {cells slots : Nat} (X : Stand p l e R s m args below meth c T locs cells slots) (c1 n1 : Nat) (hc : cells + c1 ≤ R.cells) (hn : slots + n1 ≤ R.slots) : Stand p l e { R with cells := c1, slots := n1 } (jx_b s T) m args below meth c T [] 0 0 := by
  obtain ⟨hh1, hh2⟩ := X.heapHas hc hn
  obtain ⟨e2, q2, q3, q4, q5, q6⟩ := X.same
  refine ⟨X.admits, X.cas, X.clock, X.frames, ?_, X.hears, X.method, X.code, X.here, X.tail, X.warmed, X.limits, X.bytes, ?_, Nat.le_refl _, Nat.le_refl _, ?_, ?_, fun a c9 h9 => ⟨c9, h9, rfl, rfl, fun _ _ => rfl⟩⟩
  · have hr := X.room
    simp only [State.hasRoom, Bool.and_eq_true, decide_eq_true_eq] at hr ⊢
    exact ⟨⟨⟨hr.1.1.1, hh1⟩, hh2⟩, X.book⟩
  · refine e2.trans ?_
    rfl
  · show T.slotsUsed = T.slotsUsed + ((T.heap.toList.drop T.heap.size).map (·.slots.size)).sum
    rw [← Array.length_toList, List.drop_length]
    rfl
  · show ((T.heap.toList.drop T.heap.size).map (·.slots.size)).sum ≤ 0
    rw [← Array.length_toList, List.drop_length]
    exact Nat.le_refl _
theorem jx_joinSame {p : Program} {l : Launch} {e : Env} {R : Room} {s : State} {m : MethodId} {args : Array Value} {below : List Frame} {meth : Method} {c : Code} {T : State} {locs : List Loc} {cells slots : Nat} (X : Stand p l e R s m args below meth c T locs cells slots) {U : State} {k n : Nat} (h : (jx_b s T).sameButNew ({ U with vm := s.vm } : State) [] k n) : s.sameButNew ({ U with vm := s.vm } : State) locs (cells + k) (slots + n) := by
  have h2 : (T.setVm s.vm).sameButNew ({ U with vm := s.vm } : State) [] k n := by
    obtain ⟨a1, a2, a3, a4, a5, a6⟩ := h
    refine ⟨?_, a2, a3, a4, a5, a6⟩
    have h5 : ∀ G : List Frame, (T.setVm s.vm).setFrames G = ({ s.setFrames G with heap := T.heap, slotsUsed := T.slotsUsed } : State) := by
      intro G
      have e2 := X.same.1
      rw [e2]
      show ({ (s.setFrames _).setFrames G with heap := _, slotsUsed := _ } : State) = _
      rw [State.setFrames_setFrames]
      rfl
    refine a1.trans ?_
    rw [h5]
    rfl
  have h3 := X.same.trans h2
  rw [List.append_nil] at h3
  exact h3
set_option maxHeartbeats 1000000 in
theorem jx_throw {p : Program} {l : Launch} {e : Env} {R : Room} {s : State} {m : MethodId} {args : Array Value} {below : List Frame} {meth : Method} {c : Code} {T : State} {locs : List Loc} {cells slots : Nat} {k ix si ic : Nat} {own Xc tx : String} {ls : Array Slot} {cc : ByteArray} {names : List String} (X : Stand p l e R s m args below meth c T locs cells slots) (hexec : p.tables.exec = Jvm.exec) (htr : l.stackTraces = false) (hb : c.code = cc) (hls : ls.size = c.maxLocals) (hown : s.vm.findClass own = some m.cls) (hlocks : meth.locks = false) (hexM : c.exceptionTable.isEmpty = true)
    (e1 : decode cc k = .ok (.new ix, 3)) (e2 : decode cc (k + 3) = .ok (.dup, 1)) (e3 : decode cc (k + 4) = .ok (.ldc si, 2)) (e4 : decode cc (k + 6) = .ok (.invokespecial ic, 3)) (e5 : decode cc (k + 9) = .ok (.athrow, 1))
    (g1 : (Cond.classLink own ix Xc).before args (jx_b s T) = true) (g2 : (Cond.instantiable Xc 6).before args (jx_b s T) = true) (g3 : (Cond.initialized Xc).before args (jx_b s T) = true) (g4 : ∃ q, vk_R own si tx q (jx_b s T)) (g6 : ∀ w ∈ Bundle.ownAtoms own ic Xc names, w.before args (jx_b s T) = true) (g7 : Bundle.fit Xc = true) (g8 : ∀ n ∈ names, Bundle.fit n = true)
    (hRf : names.length + 3 < R.frames) (hRl : 1 + (13 * (names.length + 1) + 42) ≤ R.locals) (hcells : cells + 1 ≤ R.cells) (hslots : slots + 6 ≤ R.slots) :
    ∃ (U : State) (x : Addr) (ce : Cell), Steps p.tables e below (T.setTop (F0 m k ls [])) U ∧ U.status = .running ∧ Ended U below (.threw x) ∧ s.WarmedH U.vm ∧ s.sameButNew ({ U with vm := s.vm } : State) locs (cells + 1) (slots + 6) ∧ T.heap.size ≤ U.heap.size ∧ (∀ (q : Nat) (c9 : Cell), T.heap[q]? = some c9 → U.heap[q]? = some c9) ∧ U.heap[x]? = some ce ∧ s.vm.findClass Xc = some ce.cls ∧ s.vm.assignable ce.cls ce.cls = true ∧ ce.vm = .none := by
  obtain ⟨q9, hq9⟩ := g4
  have X0 := jx_rebase X 1 6 hcells hslots
  have htr' : e.platform.stackTraces = false := by rw [X.admits.platform]; exact htr
  have hown' : (jx_b s T).vm.findClass own = some m.cls := hown
  have hW : W p l e { R with cells := 1, slots := 6 } (jx_b s T) m args below meth c T.heap [] 0 0 (fun U => U.status = .running ∧ ∃ (x : Addr) (ce : Cell), Ended U below (.threw x) ∧ (jx_b s T).WarmedH U.vm ∧ (jx_b s T).sameButNew ({ U with vm := s.vm } : State) [] 1 6 ∧ U.heap[x]? = some ce ∧ s.vm.findClass Xc = some ce.cls ∧ s.vm.assignable ce.cls ce.cls = true ∧ ce.vm = .none) (F0 m k ls []) := by
    refine W.newc (own := own) (C := Xc) (n := 6) hexec hb hown' g1 g2 g3 (g := F0 m k ls []) rfl e1 ?_ ?_ (fun cC kC hcC hkC hkind hsz6 => ?_)
    · show 0 + 1 ≤ 1
      omega
    · show 0 + 6 ≤ 6
      omega
    refine lv_dup (va := .ref T.heap.size) hexec hb e2 rfl ?_
    refine va_ldcS hexec hb hown' hq9 e3 ?_
    intro T3 hT3 X3
    obtain ⟨U, hst9, hrun, hended, hWU, hsame, ce, hce, hoc⟩ := X3.ctorThrowS hexec htr' (own := own) (cls := Xc) (names := names) (ic := ic) hown' g7 g8 g6 (fun x hx => by cases hx) hcC hkC (a := T.heap.size) (by rw [hT3]; simp [freshCell]) (Nat.le_refl _) (msg := .ref q9) rfl (g := F0 m (k + 3 + 1 + 2) ls [.ref q9, .ref T.heap.size, .ref T.heap.size]) rfl hls rfl rfl (rest := []) rfl (by rw [hb]; exact e4) (by rw [hb]; exact e5) (by
        intro x hx
        have h9 : c.exceptionTable = #[] := by simpa [Array.isEmpty] using hexM
        rw [h9] at hx
        cases hx) hRf (by show 2 * 0 + 1 + _ ≤ _; omega) hlocks
    exact ⟨U, hst9, hrun, _, ce, hended, hWU, hsame, hce, hoc.cls, hoc.self, hoc.vm⟩
  obtain ⟨U, a1, a2, x, ce, a3, a4, a5, a6, a7, a8, a9⟩ := hW T rfl X0
  exact ⟨U, x, ce, a1, a2, a3, a4, jx_joinSame X a5, a5.2.1, fun q c9 h9 => State.sameButNew.old_cell a5 h9, a6, a7, a8, a9⟩
theorem ja_lost_nc {h : ja_H} : ja_nc (ja_lost h 1 6) = ja_nc h + 1 := by simp [ja_nc, ja_lost]; omega
theorem ja_lost_ns {h : ja_H} : ja_ns (ja_lost h 1 6) = ja_ns h + 6 := by simp [ja_ns, ja_lost]; omega
theorem ja_lost_wl {aC : Nat → ClassId} {ads : Nat → Nat} {h : ja_H} : ja_wl aC ads (ja_lost h 1 6) = ja_wl aC ads h := rfl
set_option maxHeartbeats 1000000 in
theorem ja_tryV {M : ja_Mt} {pc pc' : Nat} {lv : List (Option Value)} {st : List Value} {h : ja_H} {ret : List Value} {hf : ja_H} {idx maxL n k hp i ci : Nat} {d0 : Nat × Nat} {y : MethodName} {bytes : ByteArray} {rt : Option FieldType} {stk as : List Value} {h1 : ja_H} {lvc : List (Option Value)} (gG : ja_G M.1 idx y bytes maxL rt n none) (hin : Cond.instanceMethod y ∈ ja_all) (hsel : Cond.selects y.cls y y ∈ ja_all) (hci : (vwCl[ci]?).map (fun q => q.1) = some y.cls) (hs : h.1[i]? = some (.inl ci)) (hj : ja_J (y.cls, bytes, maxL, d0, false, rt, none, none) 0 lvc [] h [.retAddr k] h1) (hlv : ja_l0 (.ref i :: as) maxL = lvc) (hy : plainName y.cls = true) (hlen9 : as.length = n) (hsl : (lg_sl ((Value.ref i :: as).map (ja_cv (fun i => i)))).length ≤ maxL) (hd : d0.1 + 1 ≤ M.2.2.2.1.1 ∧ 8 + (maxL + 11) + d0.2 ≤ M.2.2.2.1.2) (hst : stk = as.reverse ++ .ref i :: st) (hw : (st.map Value.category).sum ≤ 8) (d : ja_At M pc (.invokevirtual idx) 3 pc') (S : ja_Site M pc y bytes d0 k hp) (kh : ∀ a, ja_J M hp lv [.retAddr a] (ja_lost h1 1 6) ret hf) : ja_J M pc lv stk h ret hf := by
  obtain ⟨d, rfl⟩ := d
  subst hst
  subst hlv
  obtain ⟨m1, m2, m3⟩ := hj.1
  obtain ⟨k1, k2, k3⟩ := (kh 0).1
  rw [ja_lost_nc] at k1
  rw [ja_lost_ns] at k2
  have k3' : h1.1.length ≤ hf.1.length := k3
  have va : ja_V h lv (as.reverse ++ .ref i :: st) → ja_V h [] (.ref i :: as) ∧ ja_V h lv st := by
    intro q
    have q2 := ja_vs_app.mp q.2.2
    exact ⟨⟨q.1, fun i r hi => by simp at hi, ⟨q2.2.1, ja_vs_rev.mp q2.1⟩⟩, q.1, q.2.1, q2.2.2⟩
  have hlvv : ja_V h [] (.ref i :: as) → ja_V h (ja_l0 (.ref i :: as) maxL) [] := fun v => ⟨v.1, fun i r hi => ja_vs_iff.mp v.2.2 r (ja_fl_args (List.mem_of_getElem? (ja_l0_in hi))), trivial⟩
  have vn : ja_V h lv (as.reverse ++ .ref i :: st) → ∀ a, ja_V (ja_lost h1 1 6) lv [.retAddr a] := by
    intro q a
    have q1 := hj.2.1 (hlvv (va q).1)
    exact ⟨q1.1, fun i r hi => Nat.lt_of_lt_of_le (q.2.1 i r hi) m3, trivial⟩
  refine ⟨⟨by omega, by omega, by omega⟩, fun q => (kh 0).2.1 (vn q 0), fun p l e R s m args below meth c Q D aC A kc ks H ls locs cells slots ads hC hS hV hE => ?_⟩
  intro T hT X
  subst hT
  have hR := hC.2.2.2.2.2.2.2.2.1
  have hrm := hC.2.2.2.2.2.2.2.2.2.2.1
  have hts := hC.2.2.2.2.1
  have hcc := hS.2.2.2.2.1
  have hss := hS.2.2.2.2.2
  obtain ⟨gc, gi, gd, gl⟩ := gG
  have hgood : GoodIn ja_all ja_all := fun w hw => ⟨hw, good_of_word (ja_all_good _ hw)⟩
  have hpay := pay_in hts hgood
  obtain ⟨X9, ix, si, ic, tx, ⟨e1, e2, e3, e4, e5⟩, ⟨g1, g2, g3⟩, ⟨g4, g5⟩, g6, ⟨g7, g8⟩, ⟨g9, g10⟩, hh, g11, g12⟩ := S
  have hrecv : ∃ cellB : Cell, T.heap[ads i]? = some cellB ∧ cellB.vm.isStatics = false ∧ s.vm.findClass y.cls = some cellB.cls := by
    cases hq : vwCl[ci]? with
    | none => rw [hq] at hci; cases hci
    | some q9 =>
      rw [hq] at hci
      obtain ⟨cl, a1, a2, a3⟩ := va_recv hC.2.2.2.2.2.1 hS.2.1 hq (ja_wl_obj hs)
      exact ⟨cl, a1, a2, by rw [← Option.some.inj hci]; exact a3⟩
  obtain ⟨cellB, hcB, hoB, hclB⟩ := hrecv
  obtain ⟨mk, methM, hnamed, hmethM, hstM, habM⟩ := Cond.instanceMethod_spec (hts _ hin)
  obtain ⟨methM', cM, hmethM', hcM, hbM, hlM, hrM, hlockM, hexM, hsigM⟩ := Cond.code_spec hnamed (hts _ gc)
  cases hmethM.symm.trans hmethM'
  obtain ⟨c2, r2, m2', q1, q2, q3, q4, kP, hkP, hkPi⟩ := Cond.selects_spec (hts _ hsel)
  cases hclB.symm.trans q1
  cases (State.methodFound?_of_named hnamed ⟨gd.1, gd.2.1⟩).symm.trans q2
  cases hnamed.symm.trans q3
  have hselP : selectMethod e.platform s.vm cellB.cls mk = .method mk := by rw [Launch.admits_selectMethod X.admits]; exact q4
  have hstk : (as.reverse ++ .ref i :: st).map (ja_cv ads) = (as.map (ja_cv ads)).reverse ++ .ref (ads i) :: st.map (ja_cv ads) := by simp [ja_cv]
  have hlen : (as.map (ja_cv ads)).length = methM.sig.parameters.length := by
    have h8 := gd.2.2
    rw [hsigM] at h8
    rw [List.length_map, hlen9]
    exact (Option.some.inj h8).symm
  obtain ⟨vm₁, X₁, hstep₁⟩ := X.invokevirtual hC.1 hC.2.2.2.1 (hts _ gl) hnamed hmethM hstM hkP hkPi ⟨gd.1, gd.2.1⟩ (a := ads i) (cell := cellB) hcB
    (fun z h => by rw [h] at hoB; cases hoB) hselP hmethM habM hkP hkPi (g := F0 m pc ls ((as.reverse ++ .ref i :: st).map (ja_cv ads))) rfl (argsL := as.map (ja_cv ads)) (rest := st.map (ja_cv ads)) hlen hstk (by rw [hC.2.1]; exact d)
  have hnm₁ := X₁.named hnamed
  have hmk₁ : (T.setVm vm₁).vm.method? mk = some methM := by rw [X₁.warmed.alike.method?]; exact hmethM
  have hpl₁ : (T.setVm vm₁).plainMethod mk := by
    refine State.plainMethod.of_name ?_
    intro k9 hk9
    obtain ⟨k', hk', hn⟩ := className_of_methodNamed hnm₁
    cases hk9.symm.trans hk'
    rw [hn]; exact hy
  generalize hga : (Value.ref (ads i) :: as.map (ja_cv ads)).toArray = av at hstep₁
  obtain ⟨Y, hdo⟩ := X₁.into (g := F0 m pc ls (st.map (ja_cv ads))) rfl (hS.1.1.trans hC.2.2.1.symm) (ig := .invokevirtual idx) (len := 3) (by rw [hC.2.1]; exact d) (mk := mk) (methk := methM) (ck := cM) av (R' := ja_rm d0 (ja_nc h1 - ja_nc h + 1) (ja_ns h1 - ja_ns h + 6)) hmk₁ hcM hlockM hpl₁ (show d0.1 + 1 ≤ R.frames by omega)
    (by rw [ja_cv_sum, hlM]; show 2 * 0 + _ + (maxL + 11) + d0.2 ≤ R.locals; omega) (show cells + (ja_nc h1 - ja_nc h + 1) ≤ R.cells by omega) (show slots + (ja_ns h1 - ja_ns h + 6) ≤ R.slots by omega)
  have hent : entryFrame mk av cM.maxLocals = F0 mk 0 ((lg_sl ((Value.ref i :: as).map (ja_cv ads)) ++ List.replicate (maxL - (lg_sl ((Value.ref i :: as).map (ja_cv ads))).length) Slot.unset).toArray) [] := by
    rw [← hga, hlM]
    exact lg_entry_eq mk ((Value.ref i :: as).map (ja_cv ads)) maxL
  have hsl2 : (lg_sl ((Value.ref i :: as).map (ja_cv ads))).length ≤ maxL := by
    have := ja_sl_len (ads := ads) (ads' := fun i => i) (vs := Value.ref i :: as)
    omega
  have hl := lv_entry ((Value.ref i :: as).map (ja_cv ads)) hsl2
  have hZ := ja_Zx_call hC hS (U := (T.setVm vm₁).calling (F0 m pc ls (st.map (ja_cv ads))) mk av) rfl X₁.warmed
  have hown₁ : ((T.setVm vm₁).calling (F0 m pc ls (st.map (ja_cv ads))) mk av).vm.findClass y.cls = some mk.cls := findClass_of_methodNamed hnm₁
  have hts₁ : ∀ w ∈ ja_all, w.before av ((T.setVm vm₁).calling (F0 m pc ls (st.map (ja_cv ads))) mk av) = true := fun w hw => hpay w hw _ _ X₁.warmed
  have hDw := (hS.2.2.1.weaken (B := fun _ => True) (fun _ _ _ _ => trivial)).self (sz := T.heap.size)
  have hW9 : W p l e (ja_rm d0 (ja_nc h1 - ja_nc h + 1) (ja_ns h1 - ja_ns h + 6)) ((T.setVm vm₁).calling (F0 m pc ls (st.map (ja_cv ads))) mk av) mk av (.java (F0 m pc ls (st.map (ja_cv ads))) :: below) methM cM T.heap [] 0 0
      (fun U => U.status = .running ∧ ∃ (x : Addr) (ads' : Nat → Nat) (L : List Loc) (ce : Cell), Ended U (.java (F0 m pc ls (st.map (ja_cv ads))) :: below) (.threw x) ∧ ((T.setVm vm₁).calling (F0 m pc ls (st.map (ja_cv ads))) mk av).WarmedH U.vm ∧ ((T.setVm vm₁).calling (F0 m pc ls (st.map (ja_cv ads))) mk av).sameButNew ({ U with vm := ((T.setVm vm₁).calling (F0 m pc ls (st.map (ja_cv ads))) mk av).vm } : State) L (ja_nc h1 - ja_nc h + 1) (ja_ns h1 - ja_ns h + 6) ∧ (∀ q ∈ L, va_A (ja_wl aC ads h) T.heap.size q.base) ∧ (∀ i, i < h.1.length → ads' i = ads i) ∧ va_P D vwCl (ja_wl aC ads' h1) U.heap ∧ va_D (va_A (ja_wl aC ads h) T.heap.size) (ja_wl aC ads' h1) ∧ T.heap.size ≤ U.heap.size ∧ (∀ q, q < T.heap.size → ¬ va_A (ja_wl aC ads h) T.heap.size q → U.heap[q]? = T.heap[q]?) ∧ U.heap[x]? = some ce ∧ vm₁.findClass X9 = some ce.cls ∧ vm₁.assignable ce.cls ce.cls = true ∧ ce.vm = .none)
      (F0 mk 0 ((lg_sl ((Value.ref i :: as).map (ja_cv ads)) ++ List.replicate (maxL - (lg_sl ((Value.ref i :: as).map (ja_cv ads))).length) Slot.unset).toArray) []) := by
    refine hj.2.2 p l e _ _ mk av _ methM cM _ D aC (va_A (ja_wl aC ads h) T.heap.size) (ja_nc h) (ja_ns h) T.heap _ [] 0 0 ads
      ⟨hC.1, hbM, hlM, hown₁, hts₁, va_K.moved X₁.warmed.alike hC.2.2.2.2.2.1, hC.2.2.2.2.2.2.1.warm X₁.warmed, fun q hq => Or.inr hq, ⟨Nat.le_refl _, Nat.le_refl _⟩, fun hi => (by cases hi), ⟨?_, ?_⟩, fun b L xs hq => (by cases hq), fun hh9 hq => (by cases hq), hZ, hC.2.2.2.2.2.2.2.2.2.2.2.2.2.2⟩
      ⟨⟨hl.1, hl.2.1, fun i v hi => hl.2.2 (i, ja_cv ads v) (by have := ja_fl_mem (ads := ads) 0 i v (ja_l0_in hi); rwa [Nat.zero_add] at this)⟩, hS.2.1, hDw, va_S.rf, Nat.zero_add _, Nat.zero_add _⟩ (hlvv (va hV).1) ?_
    · show ja_nc h1 ≤ (ja_nc h1 - ja_nc h + 1) + ja_nc h
      omega
    · show ja_ns h1 ≤ (ja_ns h1 - ja_ns h + 6) + ja_ns h
      omega
    · intro pc9 H9 ls9 locs9 cells9 slots9 ads9 hrt hls9 ha9 hP9 hD9 hS9 hc9 hs9
      have ek : pc9 = k := hrt
      subst ek
      intro T9 hT9 X9s
      subst hT9
      obtain ⟨hisr, hstr⟩ := hZ (jx_b ((T.setVm vm₁).calling (F0 m pc ls (st.map (ja_cv ads))) mk av) T9) (State.WarmedH.refl _) hS9.1 hS9.2.1
      have hts2 : ∀ w ∈ ja_all, w.before av (jx_b ((T.setVm vm₁).calling (F0 m pc ls (st.map (ja_cv ads))) mk av) T9) = true := fun w hw => hpay w hw _ _ X₁.warmed
      obtain ⟨U, x, ce, b1, b2, b3, b4, b5, b6, b7, b8, b9, b10, b11⟩ := jx_throw (names := ja_nms) (own := y.cls) (Xc := X9) (tx := tx) X9s hC.1 hC.2.2.2.2.2.2.2.2.2.2.2.2.2.2 hbM (hls9.trans hlM.symm) hown₁ hlockM hexM e1 e2 e3 e4 e5 (hts2 _ g1) (hts2 _ g2) (hts2 _ g3) (by rw [g4]; exact hstr _ g5) (fun w hw => (g6 w hw).elim (hts2 w) (hisr av w)) g7 g8 (show 2 + 3 < d0.1 by omega) (show 1 + (13 * 3 + 42) ≤ d0.2 by omega) (show cells9 + 1 ≤ ja_nc h1 - ja_nc h + 1 by omega) (show slots9 + 6 ≤ ja_ns h1 - ja_ns h + 6 by omega)
      have ec : cells9 = ja_nc h1 - ja_nc h := by omega
      have es : slots9 = ja_ns h1 - ja_ns h := by omega
      subst ec
      subst es
      refine ⟨U, b1, b2, x, ads9, locs9, ce, b3, b4, b5, hS9.2.2, ha9, ?_, hD9, Nat.le_trans hS9.1 b6, ?_, b8, b9, b10, b11⟩
      · intro j q hq
        have h9 := hP9 j q hq
        obtain ⟨q1, q2⟩ := q
        cases q2 with
        | inl a9 => exact b7 _ _ h9
        | inr o9 =>
          obtain ⟨r9, hr9, c9, hc9', h8⟩ := h9
          exact ⟨r9, hr9, c9, b7 _ _ hc9', h8⟩
      · intro q h1q h2q
        have h9 := hS9.2.1 q h1q h2q
        cases h8 : T.heap[q]? with
        | none =>
          rw [Array.getElem?_eq_none_iff] at h8
          omega
        | some c9 =>
          have h7 : T9.heap[q]? = some c9 := h9.trans h8
          exact b7 q c9 h7
  obtain ⟨t9, s9, r9, x, ads', L, ce, n3, n4, n5, n6, n7, n8, n9, n10, n11, n12, n13, n14, n15⟩ := hW9 _ (by rfl) Y
  obtain ⟨T', XT, hWT, hsT, ht9⟩ := X₁.outOfThrown (g := F0 m pc ls (st.map (ja_cv ads))) rfl (mk := mk) (a := av) n3 n4 n5
  have hheap : T'.heap = t9.heap := by rw [ht9]; exact (Stand.throwing_heap T' _ x).symm
  have hpl : e.platform.magicAccessors = ({} : Platform).magicAccessors := by rw [X.admits.platform]
  obtain ⟨hisr0, -⟩ := hC.2.2.2.2.2.2.2.2.2.2.2.2.2.1 s (State.WarmedH.refl _) (Nat.le_refl _) (fun _ _ _ => rfl)
  have hfX : s.vm.findClass X9 = some ce.cls := by rw [← X₁.warmed.alike.findClass]; exact n13
  have hself : s.vm.assignable ce.cls ce.cls = true := by rw [← X₁.warmed.alike.assignable]; exact n14
  have htab := hC.2.2.2.2.2.2.2.2.2.2.2.2.1 hh g11
  have hok : jx_ok s pc M.1 ce.cls hp c.exceptionTable.toList := ja_hs_ok hts (hisr0 args) hfX hself _ (by rw [htab]; exact g12)
  obtain ⟨vm2, hW2, hfind⟩ := jx_search (f := F0 m pc ls (st.map (ja_cv ads))) (a := x) (cell := ce) hpl hC.2.2.2.1 (by rw [n15]; rfl) (Vm.classAt_of_findClass hfX) c.exceptionTable.toList ((T'.setTop (F0 m pc ls (st.map (ja_cv ads)))).pushFrame (.throwing x)) XT.warmed (by rw [Stand.throwing_heap, hheap]; exact n12) hok
  have hXn := XT.noted hW2
  have hA := hC.2.2.2.2.2.2.2.1
  have hF : ∀ q, va_A (ja_wl aC ads h) T.heap.size q → A q := by
    intro q hq
    rcases hq with ⟨k9, e9, hk9⟩ | hq
    · exact hS.2.2.1.2 _ _ hk9
    · exact hA q (Nat.le_trans hS.2.2.2.1.1 hq)
  have hfin := (kh x).2.2 p l e R s m args below meth c Q D aC A kc ks T'.heap ls (locs ++ L) (cells + (ja_nc h1 - ja_nc h + 1)) (slots + (ja_ns h1 - ja_ns h + 6)) ads' hC
    ⟨ja_lv_ads n7 (va hV).2.2.1 hS.1, by rw [hheap]; exact n8, n9.weaken (fun _ q _ h9 => hF q.1 h9), ⟨Nat.le_trans hS.2.2.2.1.1 (by rw [hheap]; exact n10), fun q g1 g2 => by
      rw [hheap, n11 q (Nat.lt_of_lt_of_le g1 hS.2.2.2.1.1) (fun z => g2 (hF q z))]
      exact hS.2.2.2.1.2.1 q g1 g2, fun q hq => by
      rcases List.mem_append.mp hq with h9 | h9
      · exact hS.2.2.2.1.2.2 q h9
      · exact hF _ (n6 q h9)⟩, by rw [ja_lost_nc]; omega, by rw [ja_lost_ns]; omega⟩ (vn hV x)
    (fun pc9 H9 ls9 locs9 cells9 slots9 ads'' q1 q2 q3 q4 q5 q6 q7 q8 => hE pc9 H9 ls9 locs9 cells9 slots9 ads'' q1 q2 (fun i hi => (q3 i (Nat.lt_of_lt_of_le hi m3)).trans (n7 i hi)) q4 q5 q6 q7 q8)
  obtain ⟨t, a1, b1⟩ := hfin (T'.setVm vm2) rfl hXn
  refine ⟨t, hstep₁ t (fun acts => ?_), b1⟩
  rw [hdo acts]
  rw [← hent] at s9
  refine Steps.trans (Exists.elim s9 (fun n9 hn9 => ⟨n9, hn9.1, fun k9 hk9 => Within.weaken (mid := [_]) (hn9.2 k9 hk9)⟩)) ?_
  rw [ht9]
  exact jx_caught XT.here (fun Q9 E9 d9 acts9 => (W.findHandler_eq XT.method' XT.code).trans (hfind Q9 E9 d9 acts9)) a1
def ja_sites {α : Type} (g : α → List Value × ja_H) (M : ja_Mt) (pc : Nat) (y : MethodName) (bytes : ByteArray) (d0 : Nat × Nat) (lv : List (Option Value)) : List (Nat × (ja_H → Option α)) → Prop
  | [] => True
  | (k, A) :: t => (∃ hp, ja_Site M pc y bytes d0 k hp ∧ ∀ (a : Nat) (h1 : ja_H), ja_D g M hp lv [.retAddr a] h1 (A h1)) ∧ ja_sites g M pc y bytes d0 lv t
theorem ja_sites_get {α : Type} {g : α → List Value × ja_H} {M : ja_Mt} {pc : Nat} {y : MethodName} {bytes : ByteArray} {d0 : Nat × Nat} {lv : List (Option Value)} {k : Nat} {h : ja_H} {o : α} : ∀ (Ts : List (Nat × (ja_H → Option α))), ja_sites g M pc y bytes d0 lv Ts → jth k h Ts = some o → ∃ hp, ja_Site M pc y bytes d0 k hp ∧ ∀ a, ja_J M hp lv [.retAddr a] h (g o).1 (g o).2
  | [], _, e => by cases e
  | (j, A) :: t, hs, e => by
    simp only [jth] at e
    split at e
    · next hk =>
      subst hk
      obtain ⟨hp, h1, h2⟩ := hs.1
      exact ⟨hp, h1, fun a => h2 a h o e⟩
    · exact ja_sites_get t hs.2 e
theorem jd_tryVV {α : Type} {g : α → List Value × ja_H} {M : ja_Mt} {pc pc' : Nat} {lv : List (Option Value)} {st : List Value} {h : ja_H} {idx maxL n i ci : Nat} {d0 : Nat × Nat} {y : MethodName} {bytes : ByteArray} {rt : Option FieldType} {stk as : List Value} {r1 : Option (List Value × ja_H)} {K : ja_H → Option α} {Ts : List (Nat × (ja_H → Option α))} {lvc : List (Option Value)} (g9 : ja_G M.1 idx y bytes maxL rt n none) (hin : Cond.instanceMethod y ∈ ja_all) (hsel : Cond.selects y.cls y y ∈ ja_all) (hci : (vwCl[ci]?).map (fun q => q.1) = some y.cls) (hj : ja_D ja_gX (y.cls, bytes, maxL, d0, false, rt, none, none) 0 lvc [] h r1) (hlen : as.length = n) (hlv : ja_l0 (.ref i :: as) maxL = lvc) (hy : plainName y.cls = true) (hz : (0 : Nat) = 0) (hsl : (lg_sl ((Value.ref i :: as).map (ja_cv (fun i => i)))).length ≤ maxL) (hd : d0.1 + 1 ≤ M.2.2.2.1.1 ∧ 8 + (maxL + 11) + d0.2 ≤ M.2.2.2.1.2) (hst : stk = as.reverse ++ .ref i :: st) (hw : (st.map Value.category).sum ≤ 8) (d : ja_At M pc (.invokevirtual idx) 3 pc') (k : ∀ h1, ja_D g M pc' lv st h1 (K h1)) (hs : ja_sites g M pc y bytes d0 lv Ts) : ja_D g M pc lv stk h (jk h i ci (jt_V r1 K Ts)) := by
  intro o e
  unfold jk at e
  split at e
  · next hsh =>
    unfold jt_V at e
    split at e
    · next h1 =>
      have hM : ja_M d0 y bytes maxL rt (.ref i :: as) h [] h1 := ja_M_of false lvc hlv (plainFor_of_name hy) (fun q => nomatch q) hsl (fun _ q => nomatch q) (Nat.le_of_ble_eq_true rfl) (hj _ rfl)
      subst hlen
      exact ja_callV g9 hin hsel hci hsh hd hM hst hw d (k _ o e)
    · next k9 h1 =>
      obtain ⟨hp, hS, hk⟩ := ja_sites_get Ts hs e
      exact ja_tryV g9 hin hsel hci hsh (hj _ rfl) hlv hy hlen hsl hd hst hw d hS hk
    · cases e
  · cases e
theorem jd_tryVI {α : Type} {g : α → List Value × ja_H} {M : ja_Mt} {pc pc' : Nat} {lv : List (Option Value)} {st : List Value} {h : ja_H} {idx maxL n i ci : Nat} {d0 : Nat × Nat} {y : MethodName} {bytes : ByteArray} {rt : Option FieldType} {stk as : List Value} {r1 : Option (List Value × ja_H)} {K : Int32 → ja_H → Option α} {Ts : List (Nat × (ja_H → Option α))} {lvc : List (Option Value)} (g9 : ja_G M.1 idx y bytes maxL rt n none) (hin : Cond.instanceMethod y ∈ ja_all) (hsel : Cond.selects y.cls y y ∈ ja_all) (hci : (vwCl[ci]?).map (fun q => q.1) = some y.cls) (hj : ja_D ja_gX (y.cls, bytes, maxL, d0, false, rt, none, none) 0 lvc [] h r1) (hlen : as.length = n) (hlv : ja_l0 (.ref i :: as) maxL = lvc) (hy : plainName y.cls = true) (hz : (0 : Nat) = 0) (hsl : (lg_sl ((Value.ref i :: as).map (ja_cv (fun i => i)))).length ≤ maxL) (hd : d0.1 + 1 ≤ M.2.2.2.1.1 ∧ 8 + (maxL + 11) + d0.2 ≤ M.2.2.2.1.2) (hst : stk = as.reverse ++ .ref i :: st) (hw : (st.map Value.category).sum ≤ 8) (d : ja_At M pc (.invokevirtual idx) 3 pc') (k : ∀ x h1, ja_D g M pc' lv (.int x :: st) h1 (K x h1)) (hs : ja_sites g M pc y bytes d0 lv Ts) : ja_D g M pc lv stk h (jk h i ci (jt_I r1 K Ts)) := by
  intro o e
  unfold jk at e
  split at e
  · next hsh =>
    unfold jt_I at e
    split at e
    · next v h1 =>
      have hM : ja_M d0 y bytes maxL rt (.ref i :: as) h [.int v] h1 := ja_M_of false lvc hlv (plainFor_of_name hy) (fun q => nomatch q) hsl (fun _ q => nomatch q) (Nat.le_of_ble_eq_true rfl) (hj _ rfl)
      subst hlen
      exact ja_callV g9 hin hsel hci hsh hd hM hst hw d (k _ _ o e)
    · next k9 h1 =>
      obtain ⟨hp, hS, hk⟩ := ja_sites_get Ts hs e
      exact ja_tryV g9 hin hsel hci hsh (hj _ rfl) hlv hy hlen hsl hd hst hw d hS hk
    · cases e
  · cases e
theorem jd_tryVL {α : Type} {g : α → List Value × ja_H} {M : ja_Mt} {pc pc' : Nat} {lv : List (Option Value)} {st : List Value} {h : ja_H} {idx maxL n i ci : Nat} {d0 : Nat × Nat} {y : MethodName} {bytes : ByteArray} {rt : Option FieldType} {stk as : List Value} {r1 : Option (List Value × ja_H)} {K : Int64 → ja_H → Option α} {Ts : List (Nat × (ja_H → Option α))} {lvc : List (Option Value)} (g9 : ja_G M.1 idx y bytes maxL rt n none) (hin : Cond.instanceMethod y ∈ ja_all) (hsel : Cond.selects y.cls y y ∈ ja_all) (hci : (vwCl[ci]?).map (fun q => q.1) = some y.cls) (hj : ja_D ja_gX (y.cls, bytes, maxL, d0, false, rt, none, none) 0 lvc [] h r1) (hlen : as.length = n) (hlv : ja_l0 (.ref i :: as) maxL = lvc) (hy : plainName y.cls = true) (hz : (0 : Nat) = 0) (hsl : (lg_sl ((Value.ref i :: as).map (ja_cv (fun i => i)))).length ≤ maxL) (hd : d0.1 + 1 ≤ M.2.2.2.1.1 ∧ 8 + (maxL + 11) + d0.2 ≤ M.2.2.2.1.2) (hst : stk = as.reverse ++ .ref i :: st) (hw : (st.map Value.category).sum ≤ 8) (d : ja_At M pc (.invokevirtual idx) 3 pc') (k : ∀ x h1, ja_D g M pc' lv (.long x :: st) h1 (K x h1)) (hs : ja_sites g M pc y bytes d0 lv Ts) : ja_D g M pc lv stk h (jk h i ci (jt_L r1 K Ts)) := by
  intro o e
  unfold jk at e
  split at e
  · next hsh =>
    unfold jt_L at e
    split at e
    · next v h1 =>
      have hM : ja_M d0 y bytes maxL rt (.ref i :: as) h [.long v] h1 := ja_M_of false lvc hlv (plainFor_of_name hy) (fun q => nomatch q) hsl (fun _ q => nomatch q) (Nat.le_of_ble_eq_true rfl) (hj _ rfl)
      subst hlen
      exact ja_callV g9 hin hsel hci hsh hd hM hst hw d (k _ _ o e)
    · next k9 h1 =>
      obtain ⟨hp, hS, hk⟩ := ja_sites_get Ts hs e
      exact ja_tryV g9 hin hsel hci hsh (hj _ rfl) hlv hy hlen hsl hd hst hw d hS hk
    · cases e
  · cases e
