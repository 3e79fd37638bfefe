section JT
variable {α : Type}
def jth (k : Nat) (h : ja_H) : List (Nat × (ja_H → Option α)) → Option α
  | [] => none
  | (j, A) :: t => if k = j then A h else jth k h t
def jt_V (r : Option (List Value × ja_H)) (K : ja_H → Option α) (Ts : List (Nat × (ja_H → Option α))) : Option α := match r with
  | some ([], h1) => K h1
  | some ([.retAddr k], h1) => jth k (ja_lost h1 1 6) Ts
  | _ => none
def jt_I (r : Option (List Value × ja_H)) (K : Int32 → ja_H → Option α) (Ts : List (Nat × (ja_H → Option α))) : Option α := match r with
  | some ([.int v], h1) => K v h1
  | some ([.retAddr k], h1) => jth k (ja_lost h1 1 6) Ts
  | _ => none
def jt_L (r : Option (List Value × ja_H)) (K : Int64 → ja_H → Option α) (Ts : List (Nat × (ja_H → Option α))) : Option α := match r with
  | some ([.long v], h1) => K v h1
  | some ([.retAddr k], h1) => jth k (ja_lost h1 1 6) Ts
  | _ => none
def jr_i (L : Nat) (xs : Nat → Int32) (x : Int32) (K : Int32 → Option α) : Option α := if jx x L then K (xs x.toNatClampNeg) else none
end JT
theorem ja_sld {M : ja_Mt} {pc pc' : Nat} {lv : List (Option Value)} {st : List Value} {h : ja_H} {ret : List Value} {hf : ja_H} {b L : Nat} {xs : Nat → Int32} {x : Int32} (hm : M.2.2.2.2.2.2.1 = some (b, L, xs)) (hin : vp_in x L) (d : ja_At M pc .iaload 1 pc') (k : ja_J M pc' lv (.int (xs x.toNatClampNeg) :: st) h ret hf) : ja_J M pc lv (.int x :: .retAddr b :: st) h ret hf := by
  obtain ⟨d, rfl⟩ := d
  refine ⟨k.1, k.2.1, fun p l e R s m args below meth c Q D aC A kc ks H ls locs cells slots ads hC hS hV hE => ?_⟩
  obtain ⟨hX, hb1, hb2⟩ := hC.2.2.2.2.2.2.2.2.2.2.2.1 b L xs hm
  exact va_sld hC.1 hC.2.1 hX hb1 hb2 hS.2.2.2.1 hin d (k.2.2 p l e R s m args below meth c Q D aC A kc ks H ls locs cells slots ads hC hS hV hE)
theorem ja_slen {M : ja_Mt} {pc pc' : Nat} {lv : List (Option Value)} {st : List Value} {h : ja_H} {ret : List Value} {hf : ja_H} {b L : Nat} {xs : Nat → Int32} (hm : M.2.2.2.2.2.2.1 = some (b, L, xs)) (d : ja_At M pc .arraylength 1 pc') (k : ja_J M pc' lv (.int (Int32.ofNat L) :: st) h ret hf) : ja_J M pc lv (.retAddr b :: st) h ret hf := by
  obtain ⟨d, rfl⟩ := d
  refine ⟨k.1, k.2.1, fun p l e R s m args below meth c Q D aC A kc ks H ls locs cells slots ads hC hS hV hE => ?_⟩
  obtain ⟨hX, hb1, hb2⟩ := hC.2.2.2.2.2.2.2.2.2.2.2.1 b L xs hm
  exact va_slen hC.1 hC.2.1 hX hb1 hb2 hS.2.2.2.1 d (k.2.2 p l e R s m args below meth c Q D aC A kc ks H ls locs cells slots ads hC hS hV hE)
theorem jd_sld {α : Type} {g : α → List Value × ja_H} {M : ja_Mt} {pc pc' : Nat} {lv : List (Option Value)} {st : List Value} {h : ja_H} {b L : Nat} {xs : Nat → Int32} {x : Int32} {K : Int32 → Option α} (hm : M.2.2.2.2.2.2.1 = some (b, L, xs)) (d : ja_At M pc .iaload 1 pc') (k : ∀ y, ja_D g M pc' lv (.int y :: st) h (K y)) : ja_D g M pc lv (.int x :: .retAddr b :: st) h (jr_i L xs x K) := by
  intro o e
  unfold jr_i at e
  split at e
  · next hx => exact ja_sld hm hx d (k _ o e)
  · cases e
theorem jd_slen {α : Type} {g : α → List Value × ja_H} {M : ja_Mt} {pc pc' : Nat} {lv : List (Option Value)} {st : List Value} {h : ja_H} {r : Option α} {b L : Nat} {xs : Nat → Int32} (hm : M.2.2.2.2.2.2.1 = some (b, L, xs)) (d : ja_At M pc .arraylength 1 pc') (k : ja_D g M pc' lv (.int (Int32.ofNat L) :: st) h r) : ja_D g M pc lv (.retAddr b :: st) h r := fun o e => ja_slen hm d (k o e)
theorem jd_aload_nX {α : Type} {g : α → List Value × ja_H} {M : ja_Mt} {pc pc' : Nat} {lv : List (Option Value)} {st : List Value} {h : ja_H} {r : Option α} {n : Fin 4} {x : Nat} (d : ja_At M pc (.aload_n n) 1 pc') (hl : lv[(n : Nat)]? = some (some (.retAddr x))) (k : ja_D g M pc' lv (.retAddr x :: st) h r) : ja_D g M pc lv st h r := fun o e => ja_aload_nX d hl (k o e)
theorem ja_drop {lv : List (Option Value)} {i : Nat} {v : Value} : ∀ (j : Nat) (u : Value), (lv.set i none)[j]? = some (some u) → (lv.set i (some v))[j]? = some (some u) := by
  intro j u hj
  rw [List.getElem?_set] at hj ⊢
  by_cases h9 : i = j
  · rw [if_pos h9] at hj
    split at hj <;> cases hj
  · rw [if_neg h9] at hj ⊢
    exact hj
theorem jd_astoreE {α : Type} {g : α → List Value × ja_H} {M : ja_Mt} {pc pc' : Nat} {lv : List (Option Value)} {st : List Value} {h : ja_H} {r : Option α} {i a : Nat} (lv' : List (Option Value)) (d : ja_At M pc (.astore i) 2 pc') (hn : i < M.2.2.1) (hok : ja_ok lv i = true) (hl : lv.set i none = lv') (k : ja_D g M pc' lv' st h r) : ja_D g M pc lv (.retAddr a :: st) h r := by
  subst hl
  exact fun o e => ja_astoreX d hn hok (ja_less ja_drop (k o e))
theorem jd_astoreE_n {α : Type} {g : α → List Value × ja_H} {M : ja_Mt} {pc pc' : Nat} {lv : List (Option Value)} {st : List Value} {h : ja_H} {r : Option α} {n : Fin 4} {a : Nat} (lv' : List (Option Value)) (d : ja_At M pc (.astore_n n) 1 pc') (hn : (n : Nat) < M.2.2.1) (hok : ja_ok lv (n : Nat) = true) (hl : lv.set (n : Nat) none = lv') (k : ja_D g M pc' lv' st h r) : ja_D g M pc lv (.retAddr a :: st) h r := by
  subst hl
  exact fun o e => ja_astore_nX d hn hok (ja_less ja_drop (k o e))
theorem jw_stS {p : Program} {l : Launch} {e : Env} {R : Room} {s : State} {m : MethodId} {args : Array Value} {below : List Frame} {meth : Method} {c : Code} {T : State} {locs : List Loc} {cells slots : Nat} (X : Stand p l e R s m args below meth c T locs cells slots) (hexec : p.tables.exec = Jvm.exec) {own : String} {index : Nat} {y : MethodName} {bytes : ByteArray} {maxL : Nat} {ret : Option FieldType} {hh : List (Nat × Nat × Nat × Nat)}
    (hown : s.vm.findClass own = some m.cls) (hlink : (Cond.methodLink own index y).before args s = true) (hstat : (Cond.static y).before args s = true) (hinit : (Cond.initialized y.cls).before args s = true)
    (hcode : (Cond.codeWith y bytes maxL ret hh).before args s = true) (hy : y.cls ≠ "java/lang/invoke/MethodHandle" ∧ y.cls ≠ "java/lang/invoke/VarHandle")
    {Wd : Nat} {Pre : Pt → Array Value → Prop} {Post : Pt → Array Value → Option Value → Pt → Prop} (hK : Back l R p e below s args y 3 Wd Pre Post)
    {g : JFrame} (hg : g.method = m) (hsize : g.locals.size = c.maxLocals) {argsL rest : List Value} (hlen : ∀ sig, parseMethodDescriptor y.desc = some sig → argsL.length = sig.parameters.length)
    (hstack : g.stack = argsL.reverse ++ rest) (hW : 2 * g.monitorRoom + (rest.map fun v => v.category).sum ≤ Wd) (hdg : decode c.code g.pc = .ok (.invokestatic index, 3))
    (hpre : ∀ vm₁, s.WarmedH vm₁ → Pre ⟨T.setVm vm₁, locs, cells, slots⟩ argsL.toArray) :
    ∃ (v : Option Value) (vm₁ : Vm) (B : Pt), s.WarmedH vm₁ ∧ Stand p l e R s m args below meth c B.U B.locs B.cells B.slots ∧ Post ⟨T.setVm vm₁, locs, cells, slots⟩ argsL.toArray v B ∧
      ∀ target, Steps p.tables e below (B.U.setTop { g with pc := g.pc + 3, stack := v.toList ++ rest }) target → Steps p.tables e below (T.setTop g) target := by
  obtain ⟨mk, methM, cM, hnamed, hmethM, -, -, -, -, -, -, hsigM⟩ := Cond.codeWith_spec hcode
  have hstatic : methM.isStatic = true := Cond.static_spec hnamed hmethM hstat
  obtain ⟨kP, hkP, -⟩ := className_of_methodNamed hnamed
  have hinitP : kP.init = .initialized := Cond.initialized_spec (findClass_of_methodNamed hnamed) hkP hinit
  obtain ⟨vm₁, X₁, hstep₁⟩ := X.invokestatic hexec hown hlink hnamed hmethM hstatic hkP hinitP hy (g := g) hg (argsL := argsL) (rest := rest) (hlen _ hsigM) hstack hdg
  obtain ⟨v, B, X', hpost, hsteps⟩ := hK m meth c ⟨T.setVm vm₁, locs, cells, slots⟩ { g with stack := rest } (.invokestatic index) mk argsL.toArray X₁ hg hsize hdg hW (X₁.named hnamed) (hpre vm₁ X₁.warmed)
  exact ⟨v, vm₁, B, X₁.warmed, X', hpost, fun target h => hstep₁ _ fun acts => by rw [doInvoke_state]; exact hsteps.trans h⟩
def ja_wsW (y : MethodName) (bytes : ByteArray) (maxL : Nat) (rt : Option FieldType) (hh : List (Nat × Nat × Nat × Nat)) : List Cond := Cond.codeWith y bytes maxL rt hh :: ja_all
def ja_Mw (d : Nat × Nat) (y : MethodName) (bytes : ByteArray) (maxL : Nat) (rt : Option FieldType) (hh : List (Nat × Nat × Nat × Nat)) (args : List Value) (h : ja_H) (ret : List Value) (hf : ja_H) : Prop :=
  (ja_nc h ≤ ja_nc hf ∧ ja_ns h ≤ ja_ns hf ∧ h.1.length ≤ hf.1.length) ∧ (ja_V h [] args → ja_V hf [] ret) ∧ ret.length ≤ 1 ∧
  ∀ (l : Launch) (D : va_G) (aC : Nat → ClassId) (ads : Nat → Nat) (sz : Nat), l.stackTraces = false → ja_V h [] args →
    Met l y (ja_wsW y bytes maxL rt hh) (ja_rm d (ja_nc hf - ja_nc h) (ja_ns hf - ja_ns h)) (va_Pc (args.map (ja_cv ads)) (ja_B D aC ads h sz)) (ja_Q D aC ads sz h ret hf) (ja_nc hf - ja_nc h) (ja_ns hf - ja_ns h) (va_A (ja_wl aC ads h) sz)
theorem ja_Mw_of {d : Nat × Nat} {y : MethodName} {bytes : ByteArray} {maxL : Nat} {rt : Option FieldType} {hh : List (Nat × Nat × Nat × Nat)} {args : List Value} {h : ja_H} {ret : List Value} {hf : ja_H} (lv : List (Option Value)) (hlv : ja_l0 args maxL = lv) (hy : plainName y.cls = true) (hlen : (lg_sl (args.map (ja_cv (fun i => i)))).length ≤ maxL) (hno : ∀ k, ret ≠ [.retAddr k]) (hret : ret.length ≤ 1) (hj : ja_J (y.cls, bytes, maxL, d, false, rt, none, some hh) 0 lv [] h ret hf) : ja_Mw d y bytes maxL rt hh args h ret hf := by
  subst hlv
  have hlvv : ja_V h [] args → ja_V h (ja_l0 args maxL) [] := fun v => ⟨v.1, fun i r hi => ja_vs_iff.mp v.2.2 r (ja_fl_args (List.mem_of_getElem? (ja_l0_in hi))), trivial⟩
  refine ⟨hj.1, fun v => hj.2.1 (hlvv v), hret, fun l D aC ads sz htr hV => ?_⟩
  refine va_MetW (cc := bytes) (maxL := maxL) (ret := rt) (hh := hh) hy rfl ?_
  intro p e s m args' below meth c s₁ B hml hv
  obtain ⟨rfl, hsz, hP, hK, hN, hD0, hZ⟩ := hv
  subst hsz
  have hts0 := atoms_spec (ws := ja_wsW y bytes maxL rt hh) B.pre
  have htab : c.exceptionTable.toList.map (fun x => (x.startPc, x.endPc, x.handlerPc, x.catchType)) = hh := by
    obtain ⟨m9, meth9, c9, hn9, hm9, hc9, -, -, ht9, -⟩ := Cond.codeWith_spec (hts0 _ List.mem_cons_self)
    cases B.named.symm.trans hn9
    cases B.method.symm.trans hm9
    have h9 := B.here.code
    rw [State.code?_eq] at h9
    have h8 : s₁.vm.method? m = some meth := by rw [B.state]; exact B.method
    rw [h8] at h9
    cases (Option.some.inj (hc9.symm.trans h9))
    exact ht9
  have hD := hD0.self (sz := s.heap.size)
  have hlen2 : (lg_sl (args.map (ja_cv ads))).length ≤ maxL := by
    have := ja_sl_len (ads := ads) (ads' := fun i => i) (vs := args)
    omega
  rw [lg_entry_eq]
  have hl := lv_entry (args.map (ja_cv ads)) hlen2
  refine hj.2.2 p l e _ s m _ below meth c _ D aC (va_A (ja_wl aC ads h) s.heap.size) (ja_nc h) (ja_ns h) s.heap _ [] 0 0 ads
    ⟨B.exec, B.bytes, hml, findClass_of_methodNamed B.named, fun w hw => hts0 w (List.mem_cons_of_mem _ hw), hK, hN, fun q hq => Or.inr hq, ⟨Nat.le_refl _, Nat.le_refl _⟩, fun hi => (by cases hi), ⟨?_, ?_⟩, fun b L xs hq => (by cases hq), fun hh9 hq => (by cases hq; exact htab), hZ, htr⟩
    ⟨⟨hl.1, hl.2.1, fun i v hi => hl.2.2 (i, ja_cv ads v) (by have := ja_fl_mem (ads := ads) 0 i v (ja_l0_in hi); rwa [Nat.zero_add] at this)⟩, hP, hD, va_S.rf, Nat.zero_add _, Nat.zero_add _⟩ (hlvv hV) ?_
  · show ja_nc hf ≤ (ja_nc hf - ja_nc h) + ja_nc h
    have := hj.1
    omega
  · show ja_ns hf ≤ (ja_ns hf - ja_ns h) + ja_ns h
    have := hj.1
    omega
  · intro pc H ls locs cells slots ads' hrt hls ha hP' hD' hS' hc hs
    have ec : cells = ja_nc hf - ja_nc h := by omega
    have es : slots = ja_ns hf - ja_ns h := by omega
    subst ec
    subst es
    have post : ∀ t : State, t.heap = H → s.WarmedH t.vm → ja_Q D aC ads s.heap.size h ret hf (args.map (ja_cv ads)).toArray s (.returned (ret.map (ja_cv ads')).head?) t := fun t ht hW => ⟨⟨ads', ha, rfl, by rw [ht]; exact hP', hD'⟩, hS'.F ht⟩
    match ret, hrt, hno, post with
    | [], hrt, _, post => exact W.vret B.exec B.bytes (B.returns.trans hrt.2) post hS'.2.2 hrt.1 B.notSynchronized
    | [.int v], hrt, _, post =>
      obtain ⟨h1, ty, h2, h3⟩ := hrt
      exact W.zret B.exec B.bytes (B.returns.trans h2) h3 post hS'.2.2 h1 B.notSynchronized
    | [.long v], hrt, _, post => exact W.lret B.exec B.bytes (B.returns.trans hrt.2) post hS'.2.2 hrt.1 B.notSynchronized
    | [.retAddr k], _, hno, _ => exact absurd rfl (hno k)
def ja_Gw (own : String) (idx : Nat) (y : MethodName) (bytes : ByteArray) (maxL : Nat) (rt : Option FieldType) (hh : List (Nat × Nat × Nat × Nat)) (n : Nat) : Prop := Cond.codeWith y bytes maxL rt hh ∈ ja_all ∧ Cond.initialized y.cls ∈ ja_all ∧ (y.cls ≠ "java/lang/invoke/MethodHandle" ∧ y.cls ≠ "java/lang/invoke/VarHandle" ∧ (parseMethodDescriptor y.desc).map (fun d => d.parameters.length) = some n) ∧ Cond.methodLink own idx y ∈ ja_all
theorem ja_callW {M : ja_Mt} {pc pc' : Nat} {lv : List (Option Value)} {st : List Value} {h : ja_H} {ret : List Value} {hf : ja_H} {idx maxL n : Nat} {d0 : Nat × Nat} {y : MethodName} {bytes : ByteArray} {rt : Option FieldType} {hh : List (Nat × Nat × Nat × Nat)} {stk as rv : List Value} {h1 : ja_H} (g : ja_Gw M.1 idx y bytes maxL rt hh n) (hst9 : Cond.static y ∈ ja_all) (hlen9 : as.length = n) (hd : d0.1 + 1 ≤ M.2.2.2.1.1 ∧ 8 + (maxL + 11) + d0.2 ≤ M.2.2.2.1.2) (hM : ja_Mw d0 y bytes maxL rt hh as h rv h1) (hst : stk = as.reverse ++ st) (hw : (st.map Value.category).sum ≤ 8) (d : ja_At M pc (.invokestatic idx) 3 pc') (k : ja_J M pc' lv (rv ++ st) h1 ret hf) : ja_J M pc lv stk h ret hf := by
  obtain ⟨d, rfl⟩ := d
  subst hst
  obtain ⟨m1, m2, m3⟩ := hM.1
  obtain ⟨k1, k2, k3⟩ := k.1
  have va : ja_V h lv (as.reverse ++ st) → ja_V h [] as ∧ ja_V h lv st := by
    intro q
    have q2 := ja_vs_app.mp q.2.2
    exact ⟨⟨q.1, fun i r hi => by simp at hi, ja_vs_rev.mp q2.1⟩, q.1, q.2.1, q2.2⟩
  have vn : ja_V h lv (as.reverse ++ st) → ja_V h1 lv (rv ++ st) := by
    intro q
    have q1 := hM.2.1 (va q).1
    exact ⟨q1.1, fun i r hi => Nat.lt_of_lt_of_le (q.2.1 i r hi) m3, ja_vs_app.mpr ⟨q1.2.2, ja_vs_mono m3 (va q).2.2.2⟩⟩
  refine ⟨⟨by omega, by omega, by omega⟩, fun q => k.2.1 (vn q), fun p l e R s m args below meth c Q D aC A kc ks H ls locs cells slots ads hC hS hV hE => ?_⟩
  have hM4 := hM.2.2.2 l D aC ads H.size hC.2.2.2.2.2.2.2.2.2.2.2.2.2.2 (va hV).1
  have hR := hC.2.2.2.2.2.2.2.2.1
  have hrm := hC.2.2.2.2.2.2.2.2.2.2.1
  have hts := hC.2.2.2.2.1
  have hcc := hS.2.2.2.2.1
  have hss := hS.2.2.2.2.2
  obtain ⟨gc, gi, gd, gl⟩ := g
  have hroom : cells + (ja_nc h1 - ja_nc h) ≤ R.cells ∧ slots + (ja_ns h1 - ja_ns h) ≤ R.slots := by omega
  have hpc : ∀ U : State, U.heap = H → s.WarmedH U.vm → va_Pc (as.map (ja_cv ads)) (ja_B D aC ads h H.size) (as.map (ja_cv ads)).toArray U := fun U hU hW => ⟨rfl, by rw [hU], by rw [hU]; exact hS.2.1, va_K.moved hW.alike hC.2.2.2.2.2.1, hC.2.2.2.2.2.2.1.warm hW, hS.2.2.1.weaken (fun _ _ _ _ => trivial), ja_Zx_call hC hS hU hW⟩
  have hlen : (as.map (ja_cv ads)).length = n := (List.length_map _).trans hlen9
  have hwt : 2 * (F0 m pc ls ((as.reverse ++ st).map (ja_cv ads))).monitorRoom + ((st.map (ja_cv ads)).map fun v => v.category).sum ≤ 8 := by rw [ja_cv_sum]; show 2 * 0 + _ ≤ 8; omega
  have hstk : (as.reverse ++ st).map (ja_cv ads) = (as.map (ja_cv ads)).reverse ++ st.map (ja_cv ads) := by simp
  refine ja_core (a := (as.map (ja_cv ads)).toArray) hM.1 hM.2.1 hM.2.2.1 k hC hS (va hV).2 (va hV).1 hE ?_
  have hgood : GoodIn ja_all (ja_wsW y bytes maxL rt hh) := by
    intro w hw
    rcases List.mem_cons.mp hw with rfl | hw
    · exact ⟨gc, good_of_word (ja_all_good _ gc)⟩
    · exact ⟨hw, good_of_word (ja_all_good _ hw)⟩
  have hK9 : Back l R p e below s args y 3 8 (PreOf R (ja_nc h1 - ja_nc h) (ja_ns h1 - ja_ns h) (va_Pc (as.map (ja_cv ads)) (ja_B D aC ads h H.size))) (PostOf (ja_Q D aC ads H.size h rv h1) (ja_nc h1 - ja_nc h) (ja_ns h1 - ja_ns h) (va_A (ja_wl aC ads h) H.size)) :=
    va_backW (hh := hh) (bytes := bytes) (maxL := maxL) (ret := rt) hM4 ja_blind rfl rfl (show d0.1 + 1 ≤ R.frames by omega) (show 8 + (maxL + 11) + d0.2 ≤ R.locals by omega) (pay_in hts hgood) List.mem_cons_self (fun a' U hW => word_at hW (Or.inl (by first | rfl | simp [Cond.onTables, Cond.keeps, Cond.steady])) (hts _ gi))
  intro T hT X
  obtain ⟨v, vm₁, ⟨U', l2, c2, s2⟩, hW₁, X', ⟨g', mk, t, L, e1, e2, hq, h1', hL, h2', h3'⟩, st9⟩ := jw_stS X hC.1 (hh := hh) (bytes := bytes) (maxL := maxL) (ret := rt) hC.2.2.2.1 (hts _ gl) (hts _ hst9) (hts _ gi) (hts _ gc) ⟨gd.1, gd.2.1⟩ hK9 (g := F0 m pc ls ((as.reverse ++ st).map (ja_cv ads))) rfl (hS.1.1.trans hC.2.2.1.symm) (argsL := as.map (ja_cv ads)) (rest := st.map (ja_cv ads)) (fun sig h9 => by
      have h8 := gd.2.2
      rw [h9] at h8
      exact hlen.trans (Option.some.inj h8).symm) hstk hwt (by rw [hC.2.1]; exact d)
    (fun vm₁ hW₁ => ⟨hroom.1, hroom.2, hpc (T.setVm vm₁) hT hW₁⟩)
  dsimp only [Pt.U, Pt.locs, Pt.cells, Pt.slots] at X' e1 e2 h1' h2' h3' st9
  subst h1'; subst h2'; subst h3'
  exact ⟨v, (T.setVm vm₁).calling g' mk (as.map (ja_cv ads)).toArray, t, U', L, hT, X', hL, e1, e2, hq, st9⟩
theorem jd_callWI {α : Type} {g : α → List Value × ja_H} {M : ja_Mt} {pc pc' : Nat} {lv : List (Option Value)} {st : List Value} {h : ja_H} {idx maxL n : Nat} {d0 : Nat × Nat} {y : MethodName} {bytes : ByteArray} {rt : Option FieldType} {hh : List (Nat × Nat × Nat × Nat)} {stk as : List Value} {r1 : Option (Int32 × ja_H)} {K : Int32 → ja_H → Option α} (g9 : ja_Gw M.1 idx y bytes maxL rt hh n) (hst9 : Cond.static y ∈ ja_all) (hM : ∀ q, r1 = some q → ja_Mw d0 y bytes maxL rt hh as h [.int q.1] q.2) (hlen : as.length = n) (hd : d0.1 + 1 ≤ M.2.2.2.1.1 ∧ 8 + (maxL + 11) + d0.2 ≤ M.2.2.2.1.2) (hst : stk = as.reverse ++ st) (hw : (st.map Value.category).sum ≤ 8) (d : ja_At M pc (.invokestatic idx) 3 pc') (k : ∀ x h1, ja_D g M pc' lv (.int x :: st) h1 (K x h1)) : ja_D g M pc lv stk h (jc_I r1 K) := by
  intro o e
  obtain ⟨q, h1, h2⟩ := Option.bind_eq_some_iff.mp e
  exact ja_callW g9 hst9 hlen hd (hM q h1) hst hw d (k q.1 q.2 o h2)
theorem jc_ofW {d : Nat × Nat} {y : MethodName} {bytes : ByteArray} {maxL : Nat} {rt : Option FieldType} {hh : List (Nat × Nat × Nat × Nat)} {args : List Value} {h : ja_H} {r : Option (Int32 × ja_H)} {o : Int32 × ja_H} (lv : List (Option Value)) (e : r = some o) (hj : ja_D ja_gI (y.cls, bytes, maxL, d, false, rt, none, some hh) 0 lv [] h r) (hlv : ja_l0 args maxL = lv) (hy : plainName y.cls = true) (hlen : (lg_sl (args.map (ja_cv (fun i => i)))).length ≤ maxL) : ja_Mw d y bytes maxL rt hh args h [.int o.1] o.2 :=
  ja_Mw_of lv hlv hy hlen (fun _ q => nomatch q) (Nat.le_refl 1) (hj o e)
