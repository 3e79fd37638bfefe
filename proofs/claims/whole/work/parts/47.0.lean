section D0
variable {h f : ja_H} {J K : jS} {g C q : Nat → Int32} {a s d c k m n u i o e : Nat} {v X Y z : Int64} {W : Nat → Int64} {Q R P : Int32 × Int64} {x : Int32}
def mR (h : ja_H) (J : jS) : Prop := (∀ c, c < 11 → h.2.1 34 c = (J.1 c).1 ∧ ((J.1 c).1 ≠ 0 → h.2.2.1 36 c = (J.1 c).2)) ∧ (∀ e, e < 64 → h.2.1 35 e = (J.2.1 e).1 ∧ ((J.2.1 e).1 ≠ 0 → h.2.2.1 37 e = (J.2.1 e).2) ∧ ((J.2.1 e).1 = 0 ∨ ¬ (J.2.1 e).1 < 2)) ∧ (∀ j, j < 512 → h.2.1 39 j = bo (J.2.2.2 j) ∧ (J.2.2.2 j = true → h.2.1 38 j = J.2.2.1 j ∧ ∃ v, v < 256 ∧ J.2.2.1 j = nI v))
def md_f (h f : ja_H) : Prop := f.1 = h.1 ∧ f.2.2.2 = h.2.2.2 ∧ (∀ a b, a ≠ 34 → a ≠ 35 → a ≠ 38 → a ≠ 39 → f.2.1 a b = h.2.1 a b) ∧ (∀ a b, a ≠ 36 → a ≠ 37 → f.2.2.1 a b = h.2.2.1 a b)
theorem md_0 : md_f h h := ⟨rfl, rfl, fun _ _ _ _ _ _ => rfl, fun _ _ _ _ => rfl⟩
theorem md_t {g : ja_H} (p : md_f h g) (q : md_f g f) : md_f h f := ⟨q.1.trans p.1, q.2.1.trans p.2.1, fun a b x y z w => (q.2.2.1 a b x y z w).trans (p.2.2.1 a b x y z w), fun a b x y => (q.2.2.2 a b x y).trans (p.2.2.2 a b x y)⟩
theorem md_B (b : jv_B h) (p : md_f h f) : jv_B f := by
  refine ⟨fun i hi => ?_, fun q hq => ?_⟩
  · rw [p.1]
    exact b.1 i hi
  · rw [p.2.1]
    exact b.2 q hq
def mgr (h : ja_H) (d : Nat) (Q : Int32 × Int64) : ja_H := ja_sI (ja_sL h 36 d Q.2) 34 d Q.1
theorem mgr_R (mr : mR h J) : mR (mgr h d Q) (jrg J d Q) ∧ md_f h (mgr h d Q) := by
  unfold mgr
  refine ⟨⟨fun c hc => ?_, fun e he => ?_, fun j hj => ?_⟩, rfl, rfl, fun a b n1 _ _ _ => ?_, fun a b n1 _ => ?_⟩
  · show (ja_sI (ja_sL h 36 d Q.2) 34 d Q.1).2.1 34 c = ((if c = d then Q else J.1 c) : Int32 × Int64).1 ∧ (((if c = d then Q else J.1 c) : Int32 × Int64).1 ≠ 0 → (ja_sI (ja_sL h 36 d Q.2) 34 d Q.1).2.2.1 36 c = ((if c = d then Q else J.1 c) : Int32 × Int64).2)
    rw [ja_rI, ja_rIL, ja_rL]
    by_cases y : c = d
    · rw [if_pos y, if_pos (c := 34 = 34 ∧ c = d) ⟨rfl, y⟩, if_pos (c := 36 = 36 ∧ c = d) ⟨rfl, y⟩]
      exact ⟨rfl, fun _ => rfl⟩
    · rw [if_neg y, if_neg (c := 34 = 34 ∧ c = d) (fun z => y z.2), if_neg (c := 36 = 36 ∧ c = d) (fun z => y z.2)]
      exact mr.1 c hc
  · rw [ja_rI, if_neg (by omega), ja_rIL, ja_rL, if_neg (by omega)]
    exact mr.2.1 e he
  · rw [ja_rI, if_neg (by omega), ja_rI, if_neg (by omega)]
    exact mr.2.2 j hj
  · rw [ja_rI, if_neg (fun z => n1 z.1)]
    rfl
  · rw [ja_rIL, ja_rL, if_neg (fun z => n1 z.1)]
theorem mgr_e (b : jv_B h) (hd : d < 11) {α : Type} {F : ja_H → Option α} : (jf_R h 25 9 19 (fun a1 => (js_L h a1 (nI d) v (fun h2 => (jf_R h2 25 9 17 (fun a3 => (js_I h2 a3 (nI d) x F))))))) = F (mgr h d (x, v)) := by
  have b1 : jv_B (ja_sL h 36 d v) := b
  rw [jR_25_19 b, jW_36 b (jn_jx hd (by decide)), jn_clamp (by omega), jR_25_17 b1, jW_34 b1 (jn_jx hd (by decide)), jn_clamp (by omega)]
  rfl
theorem n8_top {m : Nat → Int32} : ∀ i a, n8 m a (i + 1) = n8 m a i + 256 ^ i * (m (a + i)).toNatClampNeg := by
  intro i
  induction i with
  | zero =>
    intro a
    show (m a).toNatClampNeg + 256 * 0 = 0 + 256 ^ 0 * (m a).toNatClampNeg
    rw [Nat.pow_zero]
    omega
  | succ i ih =>
    intro a
    rw [n8_s, ih (a + 1), n8_s, Nat.mul_add, Nat.pow_succ, show a + 1 + i = a + (i + 1) by omega, ← Nat.mul_assoc, Nat.mul_comm 256 (256 ^ i)]
    omega
theorem or_acc {N : Nat} (ho : o < 256) (hi : i < 8) (hN : N < 256 ^ i) : lI N ||| (Int32.toInt64 (nI o) <<< (Int32.toInt64 (8 * nI i) &&& 63)) = lI (N + 256 ^ i * o) := by
  apply uN_inj.mp
  have p : (2 : Nat) ^ (8 * i) = 256 ^ i := by
    rw [Nat.pow_mul]
  have p2 : (256 : Nat) ^ i ≤ 256 ^ 7 := Nat.pow_le_pow_right (by decide) (by omega)
  have p3 : 256 ^ i * o ≤ 256 ^ 7 * 255 := Nat.mul_le_mul p2 (by omega)
  have e8 : (8 : Int32) * nI i = nI (8 * i) := jn_mul 8 i
  have e1 : uN (lI N) = N := uN_of (by omega)
  have e2 : uN (lI (N + 256 ^ i * o)) = N + 256 ^ i * o := uN_of (by omega)
  have e4 := Nat.two_pow_add_eq_or_of_lt (i := 8 * i) (b := N) (by rw [p]; exact hN) o
  rw [p] at e4
  rw [uN_or, e8, uN_shl (by omega), i32_p (by omega), e1, e2, p, Nat.mul_comm o, Nat.mod_eq_of_lt (by omega), Nat.or_comm, ← e4, Nat.add_comm]
theorem m89_lp (b : jv_B h) (hd : d < 11) (s8 : s ≤ 8) (as : a + s ≤ 256) (ex : X.toInt = a) (O : ∀ i, i < s → h.2.1 29 (a + i) = q (a + i) ∧ ∃ v, v < 256 ∧ q (a + i) = nI v) (q8 : ∀ j, (q j).toNatClampNeg < 256) : ∀ (t i : Nat), i ≤ s → s - i < t → r_Mo_moved_89 t h 25 (nI d) (nI s) X (lI (n8 q a i)) (nI i) = some (1, mgr h d (1, lI (n8 q a s))) := by
  intro t
  induction t with
  | zero => intro i _ ht; omega
  | succ t ih =>
    intro i hi ht
    show q_Mo_moved_89 (r_Mo_moved_89 t) h 25 (nI d) (nI s) X (lI (n8 q a i)) (nI i) = _
    have e1 : (nI s ≤ nI i) ↔ s ≤ i := jn_le (by omega) (by omega)
    by_cases c : s ≤ i
    · have e : i = s := by omega
      subst e
      rw [q_Mo_moved_89, if_pos (e1.mpr c), mgr_e b hd, jb1]
    · obtain ⟨o1, v, v1, v2⟩ := O i (by omega)
      have l := n8_lt q8 i a
      have en : n8 q a (i + 1) = n8 q a i + 256 ^ i * v := by
        rw [n8_top, v2, jn_clamp (by omega)]
      rw [q_Mo_moved_89, if_neg (fun z => c (e1.mp z)), jR_25_8 b, t32_n ex (by omega), jn_add, jE_29 b (jn_jx (by omega) (by decide)), jn_clamp (by omega), o1, v2, jlE, jlE, or_acc v1 (by omega) l, lq_add1, ← en]
      exact ih (i + 1) (by omega) (by omega)
theorem m269_lp (b : jv_B h) (hd : d < 11) (s8 : s ≤ 8) (as : a + s ≤ 512) (O : ∀ i, i < s → h.2.1 38 (a + i) = q (a + i) ∧ (∃ v, v < 256 ∧ q (a + i) = nI v) ∧ h.2.1 39 (a + i) = 1 ∧ h.2.1 35 ((a + i) / 8) = 0) (q8 : ∀ j, (q j).toNatClampNeg < 256) : ∀ (t i : Nat), i ≤ s → s - i < t → r_Mo_moved_269 t h 25 (nI d) (nI s) (nI a) (lI (n8 q a i)) 1 (nI i) = some (1, mgr h d (1, lI (n8 q a s))) := by
  intro t
  induction t with
  | zero => intro i _ ht; omega
  | succ t ih =>
    intro i hi ht
    show q_Mo_moved_269 (r_Mo_moved_269 t) h 25 (nI d) (nI s) (nI a) (lI (n8 q a i)) 1 (nI i) = _
    have e1 : (nI s ≤ nI i) ↔ s ≤ i := jn_le (by omega) (by omega)
    by_cases c : s ≤ i
    · have e : i = s := by omega
      subst e
      rw [q_Mo_moved_269, if_pos (e1.mpr c), mgr_e b hd, jb1]
    · obtain ⟨o1, ⟨v, v1, v2⟩, o3, o4⟩ := O i (by omega)
      have l := n8_lt q8 i a
      have en : n8 q a (i + 1) = n8 q a i + 256 ^ i * v := by
        rw [n8_top, v2, jn_clamp (by omega)]
      rw [q_Mo_moved_269, if_neg (fun z => c (e1.mp z)), if_neg i10, jR_25_22 b, jn_add, jE_39 b (jn_jx (by omega) (by decide)), jn_clamp (by omega), o3, if_neg i10, jR_25_18 b, jz8, jn_div8 (by omega), jE_35 b (jn_jx (by omega) (by decide)), jn_clamp (by omega), o4, if_neg (by decide), r_Mo_moved_316, jlE, jR_25_21 b, jn_add, jE_38 b (jn_jx (by omega) (by decide)), jn_clamp (by omega), o1, v2, jlE, jlE, or_acc v1 (by omega) l, lq_add1, ← en]
      exact ih (i + 1) (by omega) (by omega)
theorem m260 (b : jv_B h) (hd : d < 11) (s8 : s ≤ 8) (as : a + s ≤ 512) (O : ∀ i, i < s → h.2.1 38 (a + i) = q (a + i) ∧ (∃ v, v < 256 ∧ q (a + i) = nI v) ∧ h.2.1 39 (a + i) = 1 ∧ h.2.1 35 ((a + i) / 8) = 0) (q8 : ∀ j, (q j).toNatClampNeg < 256) : r_Mo_moved_260 h 25 (nI d) (nI s) (nI a) = some (1, mgr h d (1, lI (n8 q a s))) := by
  rw [r_Mo_moved_260, jlE, jlE, jlE, ja_fu_eq]
  exact m269_lp b hd s8 as O q8 2000 0 (by omega) (by omega)
theorem m19_3 {op y3 y4 : Int32} (b : jv_B h) (hk : k < 1024) (hg : jw_f (h.2.2.1 26 k) = g) (w : gw g) (hc : c < 11) (hs : pw_size g = nI s) (s8 : s ≤ 8) (e34 : h.2.1 34 c = 3) (e36 : h.2.2.1 36 c = P.2) (l0 : 0 ≤ P.2.toInt + (g 3).toInt + 512) (l1 : jat g P + s ≤ 512) : r_Mo_moved_19 h 25 (nI k) op y3 y4 (pw_size g) (nI c) = r_Mo_moved_199 h 25 (nI k) op y3 y4 (pw_size g) (nI (jat g P)) (if pw_size g = 8 ∧ jat g P % 8 = 0 then 1 else 0) := by
  obtain ⟨g0, g1, g2, g3, g4, g6⟩ := gq hg
  have o := w.2.2.1
  have e1 := ai_of32 (g 3)
  have ja : (jat g P : Int) = P.2.toInt + (g 3).toInt + 512 := by
    unfold jat
    omega
  have ad := ai_add (x := P.2) (y := (g 3).toInt64) (by omega) (by omega)
  have k5 : (512 : Int64).toInt = 512 := rfl
  have k6 : (-512 : Int64).toInt = -512 := rfl
  have at1 : Int64.toInt32 (P.2 + (g 3).toInt64) + 512 = nI (jat g P) := by
    rw [show (512 : Int32) = Int64.toInt32 512 from rfl, ← Int64.toInt32_add]
    refine t32_n ?_ (by omega)
    rw [ai_add (by omega) (by omega)]
    omega
  have c1 : ¬ P.2 + (g 3).toInt64 < -512 := by
    rw [ai_lt, k6]
    omega
  have c2 : P.2 + (g 3).toInt64 + (nI s).toInt64 ≤ 0 := by
    have e : (nI s).toInt64.toInt = s := by rw [ai_of32, jn_int (by omega)]
    rw [ai_le, ai_nz, ai_add (by omega) (by omega)]
    omega
  have c3 : (nI (jat g P % 8) = 0) ↔ jat g P % 8 = 0 := jn_inj (b := 0) (by omega) (by decide)
  rw [r_Mo_moved_19, jlE, jR_25_17 b, jE_34 b (jn_jx hc (by decide)), jn_clamp (by omega), jlE, jR_25_19 b, jE_36 b (jn_jx hc (by decide)), jn_clamp (by omega), jk_25 b, mo_off b hk, jcI, g3, jlE, e34, e36, if_neg (by decide), jlE, if_pos rfl, if_neg c1, at1]
  rw [hs, if_pos c2, ← hs]
  by_cases z8 : pw_size g = 8
  · rw [if_pos z8, jz8, jn_mod8 (by omega)]
    by_cases z : jat g P % 8 = 0
    · rw [if_pos (c3.mpr z), if_pos ⟨z8, z⟩]
    · rw [if_neg (fun y => z (c3.mp y)), if_neg (fun y => z y.2), r_Mo_moved_198]
  · rw [if_neg z8, if_neg (fun y => z8 y.1), r_Mo_moved_198]
theorem mo_mvr (b : jv_B h) (mr : mR h J) (hk : k < 1024) (hg : jw_f (h.2.2.1 26 k) = g) (w : gw g) (us : ¬ pw_usesS g = 0) (rd : mp_reads (g 0) = 1) (jo : jok J) (hm : m ≤ 256) (e9 : h.2.1 25 9 = nI m) (hM : ∀ i, i < 256 → h.2.1 29 i = C i) (hC : ∀ i, ∃ v, v < 256 ∧ C i = nI v) (V : vs_r g m J (jr_v g J)) : r_Mo_moved h 25 (nI k) (g 0) (g 1) (g 2) = some (1, mgr h (g 1).toNatClampNeg (jrd g C J (jr_v g J))) := by
  obtain ⟨g0, g1, g2, g3, g4, g6⟩ := gq hg
  obtain ⟨s, hs, hs2⟩ := pw_size_n g
  have sc : (pw_size g).toNatClampNeg = s := by rw [hs, jn_clamp (by omega)]
  obtain ⟨d11, hd⟩ := gw_d w
  obtain ⟨e11, he⟩ := gw_s w
  have er : jr_v g J = J.1 (g 2).toNatClampNeg := if_neg us
  obtain ⟨m1, m2⟩ := mr.1 _ e11
  rw [← er] at m1 m2
  have o := w.2.2.1
  have q8 : ∀ j, (C j).toNatClampNeg < 256 := fun j => by
    obtain ⟨v, v1, v2⟩ := hC j
    rw [v2, jn_clamp (by omega)]
    exact v1
  rw [r_Mo_moved, mo_size, jcI, jlE, mo_reads, jcI, rd, if_neg i10, mp_size_e]
  rw [hd, he, jn_clamp (by omega)]
  rw [he, jn_clamp (by omega)] at m1 m2 
  unfold vs_r at V
  unfold jrd
  rw [sc] at V ⊢
  generalize jr_v g J = R at *
  rcases V with ⟨R2, V1, V2⟩ | ⟨R3, V1, V2, V3⟩
  · have n0 : R.1 ≠ 0 := by rw [R2]; decide
    have e1 := ai_of32 (g 3)
    have ad := ai_add (x := R.2) (y := (g 3).toInt64) (by omega) (by omega)
    have ct : (jct g R : Int) = R.2.toInt + (g 3).toInt := by
      unfold jct
      omega
    have c1 : ¬ R.2 + (g 3).toInt64 < 0 := by
      rw [ai_lt, ai_nz]
      omega
    have c2 : R.2 + (g 3).toInt64 + (nI s).toInt64 ≤ (nI m).toInt64 := by
      have e : (nI s).toInt64.toInt = s := by rw [ai_of32, jn_int (by omega)]
      have e' : (nI m).toInt64.toInt = m := by rw [ai_of32, jn_int (by omega)]
      rw [ai_le, ai_add (by omega) (by omega)]
      omega
    rw [if_pos R2, r_Mo_moved_19, jlE, jR_25_17 b, jE_34 b (jn_jx e11 (by decide)), jn_clamp (by omega), jlE, jR_25_19 b, jE_36 b (jn_jx e11 (by decide)), jn_clamp (by omega), jk_25 b, mo_off b hk, jcI, g3, jlE, m1, m2 n0, R2, if_pos rfl, mo_reads, jcI, rd, if_neg i10, if_neg c1, jI_25 b, e9, hs, if_pos c2, jlE, jlE, ja_fu_eq]
    exact m89_lp (q := C) b d11 (by omega) (by omega) (by omega) (fun i hi => ⟨hM _ (by omega), hC _⟩) q8 2000 0 (by omega) (by omega)
  · have n0 : R.1 ≠ 0 := by rw [R3]; decide
    rw [if_neg (by rw [R3]; decide), m19_3 b hk hg w e11 hs (by omega) (by rw [m1, R3]) (m2 n0) V1 V2, r_Mo_moved_199, jlE, mo_reads, jcI, rd, if_neg i10]
    generalize jat g R = a at *
    have plain : (∀ i, i < s → J.2.2.2 (a + i) = true ∧ (J.2.1 ((a + i) / 8)).1 = 0) → r_Mo_moved_260 h 25 (nI (g 1).toNatClampNeg) (pw_size g) (nI a) = some (1, mgr h (g 1).toNatClampNeg (1, lI (n8 J.2.2.1 a s))) := fun V4 => by
      rw [hs]
      refine m260 (q := J.2.2.1) b d11 (by omega) V2 (fun i hi => ?_) jo
      obtain ⟨x1, x2⟩ := V4 i hi
      obtain ⟨y1, y2⟩ := mr.2.2 (a + i) (by omega)
      obtain ⟨y3, y4⟩ := y2 x1
      refine ⟨y3, y4, ?_, ?_⟩
      · rw [y1, x1]
        rfl
      · rw [(mr.2.1 ((a + i) / 8) (by omega)).1, x2]
    by_cases al : pw_size g = 8 ∧ a % 8 = 0
    · obtain ⟨y1, y2, y3⟩ := mr.2.1 (a / 8) (by omega)
      rw [if_pos al, if_neg i10, jR_25_18 b, jz8, jn_div8 (by omega), jE_35 b (jn_jx (by omega) (by decide)), jn_clamp (by omega), y1]
      by_cases kp : (J.2.1 (a / 8)).1 = 0
      · rw [if_pos kp, if_neg (fun z => z.2.2 kp)]
        exact plain (V3.resolve_left (fun z => z.2.2 kp))
      · have b1 : jv_B (ja_sL h 36 (g 1).toNatClampNeg (J.2.1 (a / 8)).2) := b
        have e35 : (ja_sL h 36 (g 1).toNatClampNeg (J.2.1 (a / 8)).2).2.1 35 (a / 8) = (J.2.1 (a / 8)).1 := y1
        rw [if_neg kp, if_pos ⟨al.1, al.2, kp⟩, jR_25_19 b, jR_25_20 b, jz8, jE_37 b (jn_jx (by omega) (by decide)), jn_clamp (by omega), y2 kp, jW_36 b (jn_jx d11 (by decide)), jn_clamp (by omega), jR_25_17 b1, jR_25_18 b1, jz8, jE_35 b1 (jn_jx (by omega) (by decide)), jn_clamp (by omega), e35, jW_34 b1 (jn_jx d11 (by decide)), jn_clamp (by omega), jb1]
        rfl
    · rw [if_neg al, if_pos rfl, if_neg (fun z => al ⟨z.1, z.2.1⟩)]
      exact plain (V3.resolve_left (fun z => al ⟨z.1, z.2.1⟩))
end D0
