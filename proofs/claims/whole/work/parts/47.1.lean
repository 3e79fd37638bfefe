section D1
variable {h f : ja_H} {J K : jS} {g C q : Nat → Int32} {a s d c k m n u i o e : Nat} {v X Y z : Int64} {W : Nat → Int64} {Q R P L : Int32 × Int64} {x op y4 y11 : Int32}
abbrev tc (lo hi e : Nat) : Prop := lo < hi ∧ lo / 8 ≤ e ∧ e ≤ (hi - 1) / 8
def pz (h f : ja_H) (e b : Nat) : Prop := f.1 = h.1 ∧ f.2.2 = h.2.2 ∧ (∀ x y, x ≠ 39 → f.2.1 x y = h.2.1 x y) ∧ (∀ j, f.2.1 39 j = if j / 8 = e ∧ b ≤ j % 8 then 0 else h.2.1 39 j)
theorem m419 {F : ja_H → Nat → Int32 → Int32 → Int32 → Int32 → Int32 → Int64 → Int32 → Option (Int32 × ja_H)} {y5 : Int32} (ai : a + i < 512) : ∀ (t c : Nat) (h : ja_H), jv_B h → c ≤ 8 → 8 - c < t → ∃ f, r_Mo_moved_419 F t h 25 op y4 y5 (nI a) y11 v (nI i) (nI c) = r_Mo_moved_452 F f 25 op y4 y5 (nI a) y11 v (nI i) ∧ pz h f ((a + i) / 8) c := by
  intro t
  induction t with
  | zero => intro c h _ _ ht; omega
  | succ t ih =>
    intro c h b hc ht
    show ∃ f, q_Mo_moved_419 F (r_Mo_moved_419 F t) h 25 op y4 y5 (nI a) y11 v (nI i) (nI c) = _ ∧ _
    have e1 : ((8 : Int32) ≤ nI c) ↔ 8 ≤ c := jn_le (a := 8) (by omega) (by omega)
    by_cases z : 8 ≤ c
    · refine ⟨h, ?_, rfl, rfl, fun _ _ _ => rfl, fun j => ?_⟩
      · rw [q_Mo_moved_419, if_pos (e1.mpr z)]
      · rw [if_neg (by omega)]
    · have b1 : jv_B (ja_sI h 39 ((a + i) / 8 * 8 + c) 0) := b
      obtain ⟨f, f1, f2, f3, f4, f5⟩ := ih (c + 1) _ b1 (by omega) (by omega)
      refine ⟨f, ?_, f2, f3, fun x y n => ?_, fun j => ?_⟩
      · rw [q_Mo_moved_419, if_neg (fun y => z (e1.mp y)), jR_25_22 b, jz8, jn_add, jn_div8 (by omega), jn_mul8, jn_add, jW_39 b (jn_jx (by omega) (by decide)), jn_clamp (by omega), bz0, jlE, lq_add1]
        exact f1
      · rw [f4 x y n, ja_rI, if_neg (fun w => n w.1)]
      · rw [f5 j, ja_rI]
        by_cases y : j = (a + i) / 8 * 8 + c
        · rw [if_neg (by omega), if_pos ⟨rfl, y⟩, if_pos (by omega)]
        · rw [if_neg (c := 39 = 39 ∧ j = (a + i) / 8 * 8 + c) (fun w => y w.2)]
          by_cases y2 : j / 8 = (a + i) / 8 ∧ c + 1 ≤ j % 8
          · rw [if_pos y2, if_pos (by omega)]
          · rw [if_neg y2, if_neg (by omega)]
def ps (h f : ja_H) (lo hi : Nat) : Prop := f.1 = h.1 ∧ f.2.2 = h.2.2 ∧ (∀ x y, x ≠ 35 → x ≠ 39 → f.2.1 x y = h.2.1 x y) ∧ (∀ e, f.2.1 35 e = if tc lo hi e then 0 else h.2.1 35 e) ∧ (∀ j, f.2.1 39 j = if tc lo hi (j / 8) ∧ ¬ h.2.1 35 (j / 8) < 2 then 0 else h.2.1 39 j)
theorem m392 (as : a + s ≤ 512) (s8 : s ≤ 8) : ∀ (t i : Nat) (h : ja_H), jv_B h → i ≤ s → s - i < t → ∃ f, r_Mo_moved_392 t h 25 op y4 (nI s) (nI a) y11 v (nI i) = r_Mo_moved_475 ja_fu f 25 op y4 (nI s) (nI a) y11 v (nI 0) ∧ ps h f (a + i) (a + s) := by
  intro t
  induction t with
  | zero => intro i h _ _ ht; omega
  | succ t ih =>
    intro i h b hi ht
    show ∃ f, q_Mo_moved_392 (r_Mo_moved_392 t) h 25 op y4 (nI s) (nI a) y11 v (nI i) = _ ∧ _
    have e1 : (nI s ≤ nI i) ↔ s ≤ i := jn_le (by omega) (by omega)
    by_cases c : s ≤ i
    · refine ⟨h, ?_, rfl, rfl, fun _ _ _ _ => rfl, fun e => ?_, fun j => ?_⟩
      · rw [q_Mo_moved_392, if_pos (e1.mpr c), jlE]
        rfl
      · rw [if_neg (by unfold tc; omega)]
      · rw [if_neg (by unfold tc; omega)]
    · have tl : ∀ (g : ja_H), jv_B g → ∃ f, r_Mo_moved_452 (r_Mo_moved_392 t) g 25 op y4 (nI s) (nI a) y11 v (nI i) = r_Mo_moved_475 ja_fu f 25 op y4 (nI s) (nI a) y11 v (nI 0) ∧ ps (ja_sI g 35 ((a + i) / 8) 0) f (a + (i + 1)) (a + s) := fun g bg => by
        have b1 : jv_B (ja_sI g 35 ((a + i) / 8) 0) := bg
        obtain ⟨f, f1, f2⟩ := ih (i + 1) _ b1 (by omega) (by omega)
        refine ⟨f, ?_, f2⟩
        rw [r_Mo_moved_452, jR_25_18 bg, jz8, jn_add, jn_div8 (by omega), jW_35 bg (jn_jx (by omega) (by decide)), jn_clamp (by omega), jlE, lq_add1]
        exact f1
      have hd : q_Mo_moved_392 (r_Mo_moved_392 t) h 25 op y4 (nI s) (nI a) y11 v (nI i) = if h.2.1 35 ((a + i) / 8) < 2 then r_Mo_moved_452 (r_Mo_moved_392 t) h 25 op y4 (nI s) (nI a) y11 v (nI i) else r_Mo_moved_419 (r_Mo_moved_392 t) ja_fu h 25 op y4 (nI s) (nI a) y11 v (nI i) (nI 0) := by
        rw [q_Mo_moved_392, if_neg (fun z => c (e1.mp z)), jR_25_18 b, jz8, jn_add, jn_div8 (by omega), jE_35 b (jn_jx (by omega) (by decide)), jn_clamp (by omega), jlE]
        rfl
      rw [hd]
      have l2 : ∀ (g : ja_H) (e : Nat), (ja_sI g 35 ((a + i) / 8) 0).2.1 35 e = if e = (a + i) / 8 then 0 else g.2.1 35 e := fun g e => by
        rw [ja_rI]
        by_cases y : e = (a + i) / 8
        · rw [if_pos ⟨rfl, y⟩, if_pos y]
        · rw [if_neg (fun w => y w.2), if_neg y]
      have z2 : (0 : Int32) < 2 := by decide
      by_cases k2 : h.2.1 35 ((a + i) / 8) < 2
      · rw [if_pos k2]
        obtain ⟨f, f1, f2, f3, f4, f5, f6⟩ := tl h b
        refine ⟨f, f1, f2, f3, fun x y n1 n2 => ?_, fun e => ?_, fun j => ?_⟩
        · rw [f4 x y n1 n2, ja_rI, if_neg (fun w => n1 w.1)]
        · rw [f5 e, l2]
          by_cases y : tc (a + (i + 1)) (a + s) e
          · rw [if_pos y, if_pos (by unfold tc at y ⊢; omega)]
          · rw [if_neg y]
            by_cases y2 : e = (a + i) / 8
            · rw [if_pos y2, if_pos (by unfold tc; omega)]
            · rw [if_neg y2, if_neg (by unfold tc at y ⊢; omega)]
        · rw [f6 j, l2, ja_rI, if_neg (c := 39 = 35 ∧ j = (a + i) / 8) (by omega)]
          by_cases y2 : j / 8 = (a + i) / 8
          · rw [if_pos y2, if_neg (fun w => w.2 z2), if_neg (fun w => w.2 (by rw [y2]; exact k2))]
          · rw [if_neg y2]
            by_cases y : tc (a + (i + 1)) (a + s) (j / 8) ∧ ¬ h.2.1 35 (j / 8) < 2
            · rw [if_pos y, if_pos ⟨by have y := y.1; unfold tc at y ⊢; omega, y.2⟩]
            · rw [if_neg y, if_neg (fun w => y ⟨by have w := w.1; unfold tc at w ⊢; omega, w.2⟩)]
      · rw [if_neg k2, ja_fu_eq]
        obtain ⟨g, g1, g2, g3, g4, g5⟩ := m419 (F := r_Mo_moved_392 t) (op := op) (y4 := y4) (y5 := nI s) (a := a) (y11 := y11) (v := v) (i := i) (by omega) 2000 0 h b (by omega) (by omega)
        have bg : jv_B g := by
          refine ⟨fun i hi => ?_, fun q hq => ?_⟩
          · rw [g2]
            exact b.1 i hi
          · rw [g3]
            exact b.2 q hq
        obtain ⟨f, f1, f2, f3, f4, f5, f6⟩ := tl g bg
        refine ⟨f, ?_, ?_, ?_, fun x y n1 n2 => ?_, fun e => ?_, fun j => ?_⟩
        · rw [g1, ← ja_fu_eq]
          exact f1
        · rw [f2]
          exact g2
        · rw [f3]
          exact g3
        · rw [f4 x y n1 n2, ja_rI, if_neg (fun w => n1 w.1), g4 x y n2]
        · rw [f5 e, l2, g4 35 e (by decide)]
          by_cases y : tc (a + (i + 1)) (a + s) e
          · rw [if_pos y, if_pos (by unfold tc at y ⊢; omega)]
          · rw [if_neg y]
            by_cases y2 : e = (a + i) / 8
            · rw [if_pos y2, if_pos (by unfold tc; omega)]
            · rw [if_neg y2, if_neg (by unfold tc at y ⊢; omega)]
        · rw [f6 j, l2, ja_rI, if_neg (c := 39 = 35 ∧ j = (a + i) / 8) (by omega), g4 35 _ (by decide), g5 j]
          by_cases y2 : j / 8 = (a + i) / 8
          · rw [if_pos y2, if_neg (fun w => w.2 z2), if_pos ⟨y2, by omega⟩, if_pos ⟨by unfold tc; omega, by rw [y2]; exact k2⟩]
          · rw [if_neg y2, if_neg (c := j / 8 = (a + i) / 8 ∧ _) (fun w => y2 w.1)]
            by_cases y : tc (a + (i + 1)) (a + s) (j / 8) ∧ ¬ h.2.1 35 (j / 8) < 2
            · rw [if_pos y, if_pos ⟨by have y := y.1; unfold tc at y ⊢; omega, y.2⟩]
            · rw [if_neg y, if_neg (fun w => y ⟨by have w := w.1; unfold tc at w ⊢; omega, w.2⟩)]
def pm (h f : ja_H) (a i s : Nat) (v : Int64) : Prop := f.1 = h.1 ∧ f.2.2 = h.2.2 ∧ (∀ x y, x ≠ 38 → x ≠ 39 → f.2.1 x y = h.2.1 x y) ∧ (∀ j, f.2.1 38 j = if a + i ≤ j ∧ j < a + s then jo_m v (j - a) else h.2.1 38 j) ∧ (∀ j, f.2.1 39 j = if a + i ≤ j ∧ j < a + s then 1 else h.2.1 39 j)
theorem m475 (as : a + s ≤ 512) (s8 : s ≤ 8) (F : ja_H → Option (Int32 × ja_H)) (hF : ∀ f : ja_H, jv_B f → f.2.1 34 = q → ∀ G, q_Mo_moved_475 G f 25 op y4 (nI s) (nI a) y11 v (nI s) = F f) : ∀ (t i : Nat) (h : ja_H), jv_B h → h.2.1 34 = q → i ≤ s → s - i < t → ∃ f, jv_B f ∧ r_Mo_moved_475 t h 25 op y4 (nI s) (nI a) y11 v (nI i) = F f ∧ pm h f a i s v := by
  intro t
  induction t with
  | zero => intro i h _ _ _ ht; omega
  | succ t ih =>
    intro i h b e34 hi ht
    show ∃ f, jv_B f ∧ q_Mo_moved_475 (r_Mo_moved_475 t) h 25 op y4 (nI s) (nI a) y11 v (nI i) = F f ∧ _
    have e1 : (nI s ≤ nI i) ↔ s ≤ i := jn_le (by omega) (by omega)
    by_cases c : s ≤ i
    · have e : i = s := by omega
      subst e
      refine ⟨h, b, hF h b e34 _, rfl, rfl, fun _ _ _ _ => rfl, fun j => ?_, fun j => ?_⟩
      · rw [if_neg (by omega)]
      · rw [if_neg (by omega)]
    · have em : (Int64.toInt32 (UInt64.toInt64 (Int64.toUInt64 v >>> (Int64.toUInt64 (Int32.toInt64 ((8 : Int32) * nI i)) &&& Int64.toUInt64 63)))) &&& (255 : Int32) = jo_m v i := rfl
      have b1 : jv_B (ja_sI h 38 (a + i) (jo_m v i)) := b
      have b2 : jv_B (ja_sI (ja_sI h 38 (a + i) (jo_m v i)) 39 (a + i) 1) := b
      have e34' : (ja_sI (ja_sI h 38 (a + i) (jo_m v i)) 39 (a + i) 1).2.1 34 = q := by
        rw [← e34]
        funext j
        rw [ja_rI, if_neg (by omega), ja_rI, if_neg (by omega)]
      obtain ⟨f, f0, f1, f2, f3, f4, f5, f6⟩ := ih (i + 1) _ b2 e34' (by omega) (by omega)
      refine ⟨f, f0, ?_, f2, f3, fun x z n2 n3 => ?_, fun j => ?_, fun j => ?_⟩
      · rw [q_Mo_moved_475, if_neg (fun z => c (e1.mp z)), jR_25_21 b, jn_add, em, jW_38 b (jn_jx (by omega) (by decide)), jn_clamp (by omega), jR_25_22 b1, jW_39 b1 (jn_jx (by omega) (by decide)), jn_clamp (by omega), bz1, jlE, lq_add1]
        exact f1
      · rw [f4 x z n2 n3, ja_rI, if_neg (fun z => n3 z.1), ja_rI, if_neg (fun z => n2 z.1)]
      · rw [f5 j, ja_rI, if_neg (c := 38 = 39 ∧ j = a + i) (by omega), ja_rI]
        by_cases z : j = a + i
        · rw [if_neg (by omega), if_pos ⟨rfl, z⟩, if_pos (by omega), z, show a + i - a = i by omega]
        · rw [if_neg (c := 38 = 38 ∧ j = a + i) (fun w => z w.2)]
          by_cases z2 : a + (i + 1) ≤ j ∧ j < a + s
          · rw [if_pos z2, if_pos (by omega)]
          · rw [if_neg z2, if_neg (by omega)]
      · rw [f6 j, ja_rI, ja_rI]
        by_cases z : j = a + i
        · rw [if_neg (by omega), if_pos ⟨rfl, z⟩, if_pos (by omega)]
        · rw [if_neg (c := 39 = 39 ∧ j = a + i) (fun w => z w.2), if_neg (c := 39 = 38 ∧ j = a + i) (by omega)]
          by_cases z2 : a + (i + 1) ≤ j ∧ j < a + s
          · rw [if_pos z2, if_pos (by omega)]
          · rw [if_neg z2, if_neg (by omega)]
def pk (f : ja_H) (a : Nat) (R : Int32 × Int64) : ja_H := if R.1 < 2 then f else ja_sL (ja_sI f 35 (a / 8) R.1) 37 (a / 8) R.2
theorem pk_R {h1 h2 : ja_H} (mr : mR h J) (s0 : 0 < s) (s8 : s ≤ 8) (as : a + s ≤ 512) (p1 : ps h h1 a (a + s)) (p2 : pm h1 h2 a 0 s R.2) (K : R.1 = 1 ∨ (s = 8 ∧ a % 8 = 0 ∧ (R.1 = 2 ∨ R.1 = 3))) : mR (pk h2 a R) (jso J a s R) ∧ md_f h (pk h2 a R) := by
  obtain ⟨x1, x2, x3, x4, x5⟩ := p1
  obtain ⟨y1, y2, y3, y4, y5⟩ := p2
  have tce : ∀ e, tc a (a + s) e ↔ (a / 8 ≤ e ∧ e ≤ (a + s - 1) / 8) := fun e => by
    unfold tc
    omega
  have kI : ∀ c j, c ≠ 35 → (pk h2 a R).2.1 c j = h2.2.1 c j := fun c j n => by
    unfold pk
    by_cases r : R.1 < 2
    · rw [if_pos r]
    · rw [if_neg r, ja_rLI, ja_rI, if_neg (fun w => n w.1)]
  have kL : ∀ c j, c ≠ 37 → (pk h2 a R).2.2.1 c j = h2.2.2.1 c j := fun c j n => by
    unfold pk
    by_cases r : R.1 < 2
    · rw [if_pos r]
    · rw [if_neg r, ja_rL, if_neg (fun w => n w.1)]
      rfl
  have k1 : (pk h2 a R).1 = h2.1 := by
    unfold pk
    split <;> rfl
  have k3 : (pk h2 a R).2.2.2 = h2.2.2.2 := by
    unfold pk
    split <;> rfl
  refine ⟨⟨fun c hc => ?_, fun e he => ?_, fun j hj => ?_⟩, k1.trans (y1.trans x1), k3.trans (by rw [y2, x2]), fun c j n1 n2 n3 n4 => ?_, fun c j n1 n2 => ?_⟩
  · rw [kI 34 c (by decide), kL 36 c (by decide), y3 34 c (by decide) (by decide), x3 34 c (by decide) (by decide), y2, x2]
    exact mr.1 c hc
  · obtain ⟨z1, z2, z3⟩ := mr.2.1 e he
    have e35 : h2.2.1 35 e = if tc a (a + s) e then 0 else h.2.1 35 e := by
      rw [y3 35 e (by decide) (by decide), x4]
    have e37 : h2.2.2.1 37 e = h.2.2.1 37 e := by rw [y2, x2]
    rw [jso_s]
    by_cases t : a / 8 ≤ e ∧ e ≤ (a + s - 1) / 8
    · rw [if_pos ((tce e).mpr t)] at e35
      rw [if_pos t]
      unfold pk
      by_cases r : R.1 < 2
      · rw [if_pos r, if_pos r, e35]
        exact ⟨rfl, fun q => absurd rfl q, Or.inl rfl⟩
      · rw [if_neg r, if_neg r]
        have K2 := K.resolve_left (fun q => r (by rw [q]; exact i12))
        have ee : e = a / 8 := by omega
        rw [ja_rLI, ja_rI, if_pos ⟨rfl, ee⟩, ja_rL, if_pos ⟨rfl, ee⟩]
        exact ⟨rfl, fun _ => rfl, Or.inr r⟩
    · rw [if_neg (fun q => t ((tce e).mp q))] at e35
      rw [if_neg t]
      unfold pk
      by_cases r : R.1 < 2
      · rw [if_pos r, e35, e37]
        exact ⟨z1, z2, z3⟩
      · have ee : e ≠ a / 8 := fun q => t (by omega)
        rw [if_neg r, ja_rLI, ja_rI, if_neg (fun w => ee w.2), ja_rL, if_neg (fun w => ee w.2), e35]
        exact ⟨z1, fun q => (show h2.2.2.1 37 e = _ by rw [e37]; exact z2 q), z3⟩
  · obtain ⟨z1, z2⟩ := mr.2.2 j hj
    obtain ⟨w1, _, w3⟩ := mr.2.1 (j / 8) (by omega)
    rw [kI 39 j (by decide), kI 38 j (by decide), y5 j, y4 j, x5 j, x3 38 j (by decide) (by decide), jso_h, jso_m, Nat.add_zero, w1]
    by_cases i : a ≤ j ∧ j < a + s
    · rw [if_pos i, if_pos i, if_pos i, if_pos i]
      exact ⟨rfl, fun _ => ⟨rfl, _, Nat.mod_lt _ (by decide), jo_m_n (by omega)⟩⟩
    · rw [if_neg i, if_neg i, if_neg i, if_neg i]
      by_cases t : (a / 8 ≤ j / 8 ∧ j / 8 ≤ (a + s - 1) / 8) ∧ ¬ (J.2.1 (j / 8)).1 = 0
      · rw [if_pos t, if_pos ⟨(tce _).mpr t.1, w3.resolve_left t.2⟩]
        exact ⟨rfl, fun q => nomatch q⟩
      · rw [if_neg t, if_neg (fun q => t ⟨(tce _).mp q.1, fun y => q.2 (by rw [y]; decide)⟩)]
        exact ⟨z1, z2⟩
  · rw [kI c j n2, y3 c j n3 n4, x3 c j n2 n4]
  · rw [kL c j n2, y2, x2]
theorem mo_mvs (b : jv_B h) (mr : mR h J) (hk : k < 1024) (hg : jw_f (h.2.2.1 26 k) = g) (w : gw g) (rd : mp_reads (g 0) = 0) (st : mp_stores (g 0) = if g 5 = 5 then 1 else 0) (us : pw_usesS g = if g 5 = 5 then 1 else 0) (V : vs_s g (jl_v g J) (jr_v g J)) (r0 : (jr_v g J).1 ≠ 0) : ∃ f, r_Mo_moved h 25 (nI k) (g 0) (g 1) (g 2) = some (1, f) ∧ mR f (jso J (jat g (jl_v g J)) (pw_size g).toNatClampNeg (jr_v g J)) ∧ md_f h f := by
  obtain ⟨g0, g1, g2, g3, g4, g6⟩ := gq hg
  obtain ⟨s, hs, hs2⟩ := pw_size_n g
  have sc : (pw_size g).toNatClampNeg = s := by rw [hs, jn_clamp (by omega)]
  obtain ⟨d11, hd⟩ := gw_d w
  obtain ⟨e11, he⟩ := gw_s w
  obtain ⟨m1, m2⟩ := mr.1 _ d11
  obtain ⟨V1, V2, V3, V4⟩ := V
  rw [sc] at V3
  have L3 : (J.1 (g 1).toNatClampNeg).1 = 3 := V1
  have l36 : h.2.2.1 36 (g 1).toNatClampNeg = (jl_v g J).2 := m2 (by rw [L3]; decide)
  have K : (jr_v g J).1 = 1 ∨ (s = 8 ∧ jat g (jl_v g J) % 8 = 0 ∧ ((jr_v g J).1 = 2 ∨ (jr_v g J).1 = 3)) := by
    rcases V4 with y | ⟨_, y2, y3, y4⟩
    · exact Or.inl y
    · exact Or.inr ⟨(jn_inj (a := s) (b := 8) (by omega) (by decide)).mp (hs.symm.trans y2), y3, y4⟩
  have e19 := m19_3 (op := g 0) (y3 := g 1) (y4 := g 2) b hk hg w d11 hs (by omega) (by rw [m1, L3]) l36 V2 V3
  rw [← hd] at e19
  rw [r_Mo_moved, mo_size, jcI, jlE, mo_reads, jcI, rd, if_pos rfl, mp_size_e, e19, sc]
  have al : (jr_v g J).1 < 2 ∨ (pw_size g = 8 ∧ jat g (jl_v g J) % 8 = 0) := by
    rcases V4 with y | ⟨_, y2, y3, y4⟩
    · exact Or.inl (by rw [y]; exact i12)
    · exact Or.inr ⟨y2, y3⟩
  have s5 : ¬ (jr_v g J).1 < 2 → g 5 = 5 := fun q => by
    rcases V4 with y | y
    · exact absurd (by rw [y]; exact i12) q
    · exact y.1
  have r5 : g 5 = 5 → jr_v g J = J.1 (g 2).toNatClampNeg := fun q => by
    unfold jr_v
    rw [us, if_pos q, if_neg i10]
  have r4 : ¬ g 5 = 5 → jr_v g J = (1, (g 4).toInt64) := fun q => by
    unfold jr_v
    rw [us, if_neg q, if_pos rfl]
  obtain ⟨n1, n2⟩ := mr.1 _ e11
  generalize jr_v g J = R at *
  generalize jat g (jl_v g J) = a at *
  have yy : ¬ R.1 < 2 → (if pw_size g = 8 ∧ a % 8 = 0 then (1 : Int32) else 0) = 1 := fun q => if_pos (al.resolve_left q)
  rw [hs] at yy ⊢
  generalize (if nI s = 8 ∧ a % 8 = 0 then (1 : Int32) else 0) = y11 at *
  obtain ⟨h1, u1, u2⟩ := m392 (op := g 0) (y4 := g 2) (y11 := y11) (v := R.2) (a := a) (s := s) V3 (by omega) 2000 0 h b (by omega) (by omega)
  have b1 : jv_B h1 := by
    refine ⟨fun i hi => ?_, fun q hq => ?_⟩
    · rw [u2.1]
      exact b.1 i hi
    · rw [u2.2.1]
      exact b.2 q hq
  have e34 : h1.2.1 34 = h.2.1 34 := funext fun j => u2.2.2.1 34 j (by decide) (by decide)
  have hF : ∀ f : ja_H, jv_B f → f.2.1 34 = h.2.1 34 → ∀ G, q_Mo_moved_475 G f 25 (g 0) (g 2) (nI s) (nI a) y11 R.2 (nI s) = some (1, pk f a R) := fun f bf ef G => by
    rw [q_Mo_moved_475, if_pos (Int32.le_refl _), mo_stores, jcI, st]
    unfold pk
    by_cases q5 : g 5 = 5
    · have e1 : f.2.1 34 (g 2).toNatClampNeg = R.1 := by rw [ef, n1, r5 q5]
      rw [if_pos q5, if_neg i10, jR_25_17 bf, he, jE_34 bf (jn_jx e11 (by decide)), jn_clamp (by omega), e1]
      by_cases r2 : R.1 < 2
      · rw [if_pos r2, if_pos r2, r_Mo_moved_576, jb1]
      · have bf1 : jv_B (ja_sI f 35 (a / 8) R.1) := bf
        rw [if_neg r2, if_neg r2, yy r2, if_neg i10, jR_25_18 bf, jz8, jR_25_17 bf, jn_div8 (by omega), jE_34 bf (jn_jx e11 (by decide)), jn_clamp (by omega), e1, jW_35 bf (jn_jx (by omega) (by decide)), jn_clamp (by omega), jR_25_20 bf1, jz8, jW_37 bf1 (jn_jx (by omega) (by decide)), jn_clamp (by omega), r_Mo_moved_576, jb1]
    · rw [if_neg q5, if_pos rfl, if_pos (Classical.byContradiction fun q => q5 (s5 q)), r_Mo_moved_576, jb1]
  obtain ⟨f, f0, f1, f2⟩ := m475 (v := R.2) V3 (by omega) (fun f => some (1, pk f a R)) hF 2000 0 h1 b1 e34 (by omega) (by omega)
  have G := pk_R mr (by omega) (by omega) V3 u2 f2 K
  refine ⟨_, ?_, G.1, G.2⟩
  have e387 : r_Mo_moved_387 h 25 (g 0) (g 2) (nI s) (nI a) y11 R.2 = some (1, pk f a R) := by
    rw [r_Mo_moved_387, jlE, jlE, ja_fu_eq]
    rw [show r_Mo_moved_392 2000 h 25 (g 0) (g 2) (nI s) (nI a) y11 R.2 0 = _ from u1, ja_fu_eq]
    exact f1
  rw [r_Mo_moved_199, jlE, mo_reads, jcI, rd, if_pos rfl, mo_stores, jcI, st]
  by_cases q5 : g 5 = 5
  · have e36 : h.2.2.1 36 (g 2).toNatClampNeg = R.2 := by
      rw [r5 q5] at r0 ⊢
      exact n2 r0
    rw [if_pos q5, if_neg i10, jR_25_19 b]
    have t : ∀ F : Int64 → Option (Int32 × ja_H), je_L h 36 (g 2) F = F R.2 := fun F => by
      rw [he, jE_36 b (jn_jx e11 (by decide)), jn_clamp (by omega), e36]
    rw [t]
    exact e387
  · have e4 : (g 4).toInt64 = R.2 := by rw [r4 q5]
    rw [if_neg q5, if_pos rfl, jk_25 b, mo_imm b hk, jcI, g4, e4]
    exact e387
end D1
