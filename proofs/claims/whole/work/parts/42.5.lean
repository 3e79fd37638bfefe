section SU
variable {h : ja_H} {s t : Nat} {V W : Nat → pv_T} {B C : Nat → Int32}
theorem lq_ad1 (j : Nat) : nI j + 1 = nI (j + 1) := jn_add j 1
theorem st_j2 (k : st_ok h s) (k' : st_ok h t) (d : st_dj s t) : ∀ (n j : Nat) (V : Nat → pv_T) (B : Nat → Int32), j ≤ 80 → 80 - j < n → ∃ V' B', r_St_join_31 n (st_w h s V B) s t (nI j) = some (st_w h s V' B') ∧ (∀ i, V' i = if j ≤ i ∧ i < 80 then pj_v (V i) (st_c h t i) else V i) ∧ (∀ e, B' e = if j ≤ e + 16 ∧ e + 16 < 80 ∧ ¬ pj_z (V (e + 16)) (st_c h t (e + 16)) = 0 then 0 else B e) := by
  intro n
  induction n with
  | zero => intro j V B _ ht; omega
  | succ n ih =>
    intro j V B hj ht
    show ∃ V' B', q_St_join_31 (r_St_join_31 n) (st_w h s V B) s t (nI j) = some (st_w h s V' B') ∧ _
    have kk : ∀ V B, st_ok (st_w h s V B) s := fun _ _ => k
    have e1 : ((80 : Int32) ≤ nI j) = (80 ≤ j) := propext (jn_le (a := 80) (by omega) (by omega))
    simp only [q_St_join_31, e1, jkE (kk _ _).1]
    by_cases h1 : 80 ≤ j
    · refine ⟨V, B, if_pos h1, fun i => ?_, fun e => ?_⟩
      · rw [if_neg (by omega)]
      · rw [if_neg (by omega)]
    · rw [if_neg h1, st_jc k k' d (by omega), jcV, jlE, lq_ad1]
      obtain ⟨V', B', eq1, hV, hB⟩ := ih (j + 1) (pu_f V j (pj_v (V j) (st_c h t j))) (if 16 ≤ j ∧ ¬ pj_z (V j) (st_c h t j) = 0 then pu_f B (j - 16) 0 else B) (by omega) (by omega)
      refine ⟨V', B', eq1, fun i => ?_, fun e => ?_⟩
      · rw [hV]
        simp only [pu_f]
        by_cases q : i = j
        · subst q
          rw [if_neg (by omega), if_pos rfl, if_pos (by omega)]
        · rw [if_neg q]
          by_cases q2 : j + 1 ≤ i ∧ i < 80
          · rw [if_pos q2, if_pos (by omega)]
          · rw [if_neg q2, if_neg (by omega)]
      · rw [hB]
        by_cases q : e + 16 = j
        · subst q
          rw [if_neg (by omega)]
          by_cases z : pj_z (V (e + 16)) (st_c h t (e + 16)) = 0
          · rw [if_neg (fun q => q.2 z), if_neg (fun q => q.2.2 z)]
          · rw [if_pos ⟨by omega, z⟩, if_pos ⟨by omega, by omega, z⟩]
            simp [pu_f]
        · have hv : pu_f V j (pj_v (V j) (st_c h t j)) (e + 16) = V (e + 16) := if_neg q
          rw [hv]
          have hb : (if 16 ≤ j ∧ ¬ pj_z (V j) (st_c h t j) = 0 then pu_f B (j - 16) 0 else B) e = B e := by
            split
            · exact if_neg (by omega)
            · rfl
          rw [hb]
          by_cases q2 : j + 1 ≤ e + 16 ∧ e + 16 < 80 ∧ ¬ pj_z (V (e + 16)) (st_c h t (e + 16)) = 0
          · rw [if_pos q2, if_pos ⟨by omega, q2.2⟩]
          · rw [if_neg q2, if_neg (fun q3 => q2 ⟨by omega, q3.2⟩)]
theorem st_j1 (k : st_ok h s) (k' : st_ok h t) (d : st_dj s t) : ∀ (n j : Nat) (B : Nat → Int32), j ≤ 64 → 64 - j < n → ∃ B', r_St_join_2 n (st_w h s V B) s t (nI j) = r_St_join_31 ja_fu (st_w h s V B') s t 0 ∧ (∀ e, B' e = if j ≤ e ∧ e < 64 then B e &&& h.2.1 (t + 4) e else B e) := by
  intro n
  induction n with
  | zero => intro j B _ ht; omega
  | succ n ih =>
    intro j B hj ht
    show ∃ B', q_St_join_2 (r_St_join_2 n) (st_w h s V B) s t (nI j) = _ ∧ _
    have kk : ∀ V B, st_ok (st_w h s V B) s := fun _ _ => k
    have kt : ∀ V B, st_ok (st_w h s V B) t := fun _ _ => k'
    have e1 : ((64 : Int32) ≤ nI j) = (64 ≤ j) := propext (jn_le (a := 64) (by omega) (by omega))
    simp only [q_St_join_2, e1]
    by_cases h1 : 64 ≤ j
    · refine ⟨B, if_pos h1, fun e => ?_⟩
      rw [if_neg (by omega)]
    · have hj' : j < 64 := by omega
      rw [if_neg h1, st_R3 (kk _ _), st_E3 (kk _ _) hj', st_R3 (kt _ _), st_E3 (kt _ _) hj', st_W3 k hj', jlE, lq_ad1, st_wb, st_wbo d]
      obtain ⟨B', eq1, hB⟩ := ih (j + 1) (pu_f B j (B j &&& h.2.1 (t + 4) j)) (by omega) (by omega)
      refine ⟨B', eq1, fun e => ?_⟩
      rw [hB]
      simp only [pu_f]
      by_cases q : e = j
      · subst q
        rw [if_neg (by omega), if_pos rfl, if_pos (by omega)]
      · rw [if_neg q]
        by_cases q2 : j + 1 ≤ e ∧ e < 64
        · rw [if_pos q2, if_pos (by omega)]
        · rw [if_neg q2, if_neg (by omega)]
theorem st_join (k : st_ok h s) (k' : st_ok h t) (d : st_dj s t) : ∃ V B, r_St_join h s t = some (st_w h s V B) ∧ (∀ i, i < 80 → V i = pj_v (st_c h s i) (st_c h t i)) ∧ (∀ e, e < 64 → B e = if ¬ pj_z (st_c h s (e + 16)) (st_c h t (e + 16)) = 0 then 0 else h.2.1 (s + 4) e &&& h.2.1 (t + 4) e) := by
  obtain ⟨B1, e1, hB1⟩ := st_j1 (V := st_c h s) k k' d ja_fu 0 (h.2.1 (s + 4)) (by omega) (by rw [ja_fu_eq]; decide)
  obtain ⟨V, B, e2, hV, hB⟩ := st_j2 k k' d ja_fu 0 (st_c h s) B1 (by omega) (by rw [ja_fu_eq]; decide)
  refine ⟨V, B, ?_, fun i hi => ?_, fun e he => ?_⟩
  · rw [st_ws] at e1
    simp only [r_St_join, jlE]
    exact e1.trans e2
  · rw [hV, if_pos (by omega)]
  · rw [hB, hB1, if_pos (show 0 ≤ e ∧ e < 64 by omega)]
    by_cases z : pj_z (st_c h s (e + 16)) (st_c h t (e + 16)) = 0
    · rw [if_neg (fun q => q.2.2 z), if_neg (fun q => q z)]
    · rw [if_pos ⟨by omega, by omega, z⟩, if_pos z]
theorem jn_ok {i t' n : Nat} (e : h.1[i]? = some (.inr (t', n))) : jn h i t' = some n := by
  simp only [jn, e, if_true]
theorem st_copy (k : st_ok h s) (k' : st_ok h t) (d : st_dj s t) : ∃ V B, r_St_copy h s t = some (st_w h s V B) ∧ (∀ i, i < 80 → V i = st_c h t i) ∧ (∀ e, e < 64 → B e = h.2.1 (t + 4) e) := by
  have c80 : (80 : Int32).toNatClampNeg = 80 := by decide
  have c64 : (64 : Int32).toNatClampNeg = 64 := by decide
  have c0 : (0 : Int32).toNatClampNeg = 0 := by decide
  have cI : ∀ (g : ja_H) (a b : Nat) (K : ja_H → Option ja_H), g.1[a]? = some (.inr (0, 80)) → g.1[b]? = some (.inr (0, 80)) → jy_I g a 0 b 0 80 K = K (ja_cpI g a b 0 0 80) := fun g a b K e1 e2 => by
    unfold jy_I jy_ok
    rw [jn_ok e1, jn_ok e2, Option.bind_some, Option.bind_some, c80, c0, if_pos (by decide)]
  have cJ : ∀ (g : ja_H) (a b : Nat) (K : ja_H → Option ja_H), g.1[a]? = some (.inr (0, 64)) → g.1[b]? = some (.inr (0, 64)) → jy_I g a 0 b 0 64 K = K (ja_cpI g a b 0 0 64) := fun g a b K e1 e2 => by
    unfold jy_I jy_ok
    rw [jn_ok e1, jn_ok e2, Option.bind_some, Option.bind_some, c64, c0, if_pos (by decide)]
  have cL : ∀ (g : ja_H) (a b : Nat) (K : ja_H → Option ja_H), g.1[a]? = some (.inr (1, 80)) → g.1[b]? = some (.inr (1, 80)) → jy_L g a 0 b 0 80 K = K (ja_cpL g a b 0 0 80) := fun g a b K e1 e2 => by
    unfold jy_L jy_ok
    rw [jn_ok e1, jn_ok e2, Option.bind_some, Option.bind_some, c80, c0, if_pos (by decide)]
  have kI : ∀ (g : ja_H) (a b x y z r : Nat), st_ok g r → st_ok (ja_cpI g a b x y z) r := fun g a b x y z r q => q
  have kL : ∀ (g : ja_H) (a b x y z r : Nat), st_ok g r → st_ok (ja_cpL g a b x y z) r := fun g a b x y z r q => q
  have s1 := kI h (t + 1) (s + 1) 0 0 80 s k
  have t1 := kI h (t + 1) (s + 1) 0 0 80 t k'
  have s2 := kL _ (t + 2) (s + 2) 0 0 80 s s1
  have t2 := kL _ (t + 2) (s + 2) 0 0 80 t t1
  have s3 := kL _ (t + 3) (s + 3) 0 0 80 s s2
  have t3 := kL _ (t + 3) (s + 3) 0 0 80 t t2
  have e : r_St_copy h s t = some (ja_cpI (ja_cpL (ja_cpL (ja_cpI h (t + 1) (s + 1) 0 0 80) (t + 2) (s + 2) 0 0 80) (t + 3) (s + 3) 0 0 80) (t + 4) (s + 4) 0 0 64) := by
    simp only [r_St_copy, st_R0 k, st_R0 k', cI h (t + 1) (s + 1) _ k'.2.1 k.2.1, st_R1 s1, st_R1 t1]
    rw [cL _ (t + 2) (s + 2) _ t1.2.2.1 s1.2.2.1, st_R2 t2, st_R2 s2, cL _ (t + 3) (s + 3) _ t2.2.2.2.1 s2.2.2.2.1, st_R3 t3, st_R3 s3, cJ _ (t + 4) (s + 4) _ t3.2.2.2.2.1 s3.2.2.2.2.1]
  unfold st_dj at d
  refine ⟨fun i => if i < 80 then st_c h t i else st_c h s i, fun e => if e < 64 then h.2.1 (t + 4) e else h.2.1 (s + 4) e, ?_, fun i hi => if_pos hi, fun e he => if_pos he⟩
  rw [e]
  congr 1
  have n1 : ¬ t + 1 = s + 4 := by omega
  have n2 : ¬ t + 4 = s + 1 := by omega
  have n3 : ¬ t + 4 = s + 4 := by omega
  have n4 : ¬ t = s := by omega
  have n5 : ¬ t + 3 = s + 2 := by omega
  have n6 : ¬ t + 2 = s + 3 := by omega
  refine ja_hext rfl (fun a b => ?_) (fun a b => ?_) rfl
  · rw [st_wI]
    simp only [ja_cpI, ja_cpL, va_cpy]
    by_cases a4 : a = s + 4
    · subst a4
      by_cases b1 : b < 64 <;> simp [b1, n2]
    · by_cases a1 : a = s + 1
      · subst a1
        by_cases b1 : b < 80 <;> simp [b1, st_c]
      · simp [a4, a1]
  · rw [st_wL]
    simp only [ja_cpI, ja_cpL, va_cpy]
    by_cases a4 : a = s + 3
    · subst a4
      by_cases b1 : b < 80 <;> simp [b1, n5, st_c]
    · by_cases a1 : a = s + 2
      · subst a1
        by_cases b1 : b < 80 <;> simp [b1, st_c]
      · simp [a4, a1]
def pf_I (f : Nat → Int32) (j n : Nat) (x : Int32) : Nat → Int32 := fun b => if j ≤ b ∧ b < n then x else f b
theorem st_fI {a n : Nat} {x : Int32} (hn : n < 2000) : ∀ (m : Nat) (h : ja_H) (j : Nat), h.1[a]? = some (.inr (0, n)) → j ≤ n → n - j < m → r_As_fill_I_5 m h a x (nI j) (nI n) = some (ja_oI h a (pf_I (h.2.1 a) j n x)) := by
  intro m
  induction m with
  | zero => intro h j _ _ ht; omega
  | succ m ih =>
    intro h j hs hj ht
    show q_As_fill_I_5 (r_As_fill_I_5 m) h a x (nI j) (nI n) = _
    have e1 : (nI n ≤ nI j) = (n ≤ j) := propext (jn_le (by omega) (by omega))
    simp only [q_As_fill_I_5, e1]
    by_cases h1 : n ≤ j
    · rw [if_pos h1]
      have : pf_I (h.2.1 a) j n x = h.2.1 a := by
        funext b
        simp only [pf_I]
        rw [if_neg (by omega)]
      rw [this, ja_oI_self]
    · have hj' : j < n := by omega
      rw [if_neg h1]
      unfold js_I
      rw [ja_inE hs (jn_jx hj' (by omega))]
      simp only [jlE, lq_ad1, jn_clamp (show j < 2147483648 by omega)]
      rw [ih (ja_sI h a j x) (j + 1) hs (by omega) (by omega), ja_sI_o, ja_oI_oI]
      congr 2
      rw [ja_oI_at]
      funext b
      simp only [pf_I]
      by_cases q : b = j
      · subst q
        rw [if_neg (by omega), if_pos rfl, if_pos (by omega)]
      · rw [if_neg q]
        by_cases q2 : j + 1 ≤ b ∧ b < n
        · rw [if_pos q2, if_pos (by omega)]
        · rw [if_neg q2, if_neg (by omega)]
def ja_oL (h : ja_H) (c : Nat) (f : Nat → Int64) : ja_H := (h.1, h.2.1, fun a b => if a = c then f b else h.2.2.1 a b, h.2.2.2)
theorem ja_oLr {c a b : Nat} {f : Nat → Int64} : (ja_oL h c f).2.2.1 a b = if a = c then f b else h.2.2.1 a b := of_eq_true (eq_self _)
def pf_L (f : Nat → Int64) (j n : Nat) (x : Int64) : Nat → Int64 := fun b => if j ≤ b ∧ b < n then x else f b
theorem st_fL {a n : Nat} {x : Int64} (hn : n < 2000) : ∀ (m : Nat) (h : ja_H) (j : Nat), h.1[a]? = some (.inr (1, n)) → j ≤ n → n - j < m → r_As_fill_J_6 m h a x (nI j) (nI n) = some (ja_oL h a (pf_L (h.2.2.1 a) j n x)) := by
  intro m
  induction m with
  | zero => intro h j _ _ ht; omega
  | succ m ih =>
    intro h j hs hj ht
    show q_As_fill_J_6 (r_As_fill_J_6 m) h a x (nI j) (nI n) = _
    have e1 : (nI n ≤ nI j) = (n ≤ j) := propext (jn_le (by omega) (by omega))
    simp only [q_As_fill_J_6, e1]
    by_cases h1 : n ≤ j
    · rw [if_pos h1]
      congr 1
      refine ja_hext rfl (fun c b => rfl) (fun c b => ?_) rfl
      rw [ja_oLr]
      simp only [pf_L]
      split
      · next q => rw [if_neg (by omega), q]
      · rfl
    · have hj' : j < n := by omega
      rw [if_neg h1]
      unfold js_L
      rw [ja_inE hs (jn_jx hj' (by omega))]
      simp only [jlE, lq_ad1, jn_clamp (show j < 2147483648 by omega)]
      rw [ih (ja_sL h a j x) (j + 1) hs (by omega) (by omega)]
      congr 1
      refine ja_hext rfl (fun c b => rfl) (fun c b => ?_) rfl
      simp only [ja_oLr, pf_L, ja_rL]
      by_cases c1 : c = a
      · rw [if_pos c1, if_pos c1]
        by_cases q : b = j
        · subst q
          rw [if_neg (by omega), if_pos ⟨trivial, rfl⟩, if_pos (by omega)]
        · rw [if_neg (c := True ∧ b = j) (fun q2 => q q2.2)]
          by_cases q2 : j + 1 ≤ b ∧ b < n
          · rw [if_pos q2, if_pos (by omega)]
          · rw [if_neg q2, if_neg (by omega)]
      · rw [if_neg c1, if_neg c1, if_neg (fun q => c1 q.1)]
def pb_0 : Nat → pv_T := fun i => if i = 1 then (2, 0, 0) else if i = 10 then (3, 0, 0) else (0, 0, 0)
theorem st_begin (k : st_ok h s) : ∃ V B, r_St_begin h s = some (st_w h s V B) ∧ (∀ i, i < 80 → V i = pb_0 i) ∧ (∀ e, e < 64 → B e = 0) := by
  have fI : ∀ (g : ja_H) (a n : Nat) (x : Int32), n < 1990 → g.1[a]? = some (.inr (0, n)) → r_As_fill_I g a x = some (ja_oI g a (pf_I (g.2.1 a) 0 n x)) := fun g a n x hn e => by
    simp only [r_As_fill_I, jlE, jg_n, jn_ok e, Option.bind_some]
    exact st_fI (by omega) ja_fu g 0 e (by omega) (by rw [ja_fu_eq]; omega)
  have fL : ∀ (g : ja_H) (a n : Nat) (x : Int64), n < 1990 → g.1[a]? = some (.inr (1, n)) → r_As_fill_J g a x = some (ja_oL g a (pf_L (g.2.2.1 a) 0 n x)) := fun g a n x hn e => by
    simp only [r_As_fill_J, jlE, jg_n, jn_ok e, Option.bind_some]
    exact st_fL (by omega) ja_fu g 0 e (by omega) (by rw [ja_fu_eq]; omega)
  have kI : ∀ (g : ja_H) (a : Nat) (f : Nat → Int32), st_ok g s → st_ok (ja_oI g a f) s := fun g a f q => q
  have kL : ∀ (g : ja_H) (a : Nat) (f : Nat → Int64), st_ok g s → st_ok (ja_oL g a f) s := fun g a f q => q
  refine ⟨fun i => if i < 80 then pb_0 i else st_c h s i, fun e => if e < 64 then 0 else h.2.1 (s + 4) e, ?_, fun i hi => if_pos hi, fun e he => if_pos he⟩
  have k1 := kI h (s + 1) (pf_I (h.2.1 (s + 1)) 0 80 0) k
  have k2 := kL _ (s + 2) (pf_L ((ja_oI h (s + 1) (pf_I (h.2.1 (s + 1)) 0 80 0)).2.2.1 (s + 2)) 0 80 0) k1
  have k3 := kL _ (s + 3) (pf_L ((ja_oL (ja_oI h (s + 1) (pf_I (h.2.1 (s + 1)) 0 80 0)) (s + 2) (pf_L ((ja_oI h (s + 1) (pf_I (h.2.1 (s + 1)) 0 80 0)).2.2.1 (s + 2)) 0 80 0)).2.2.1 (s + 3)) 0 80 0) k2
  have k4 := kI _ (s + 4) (pf_I ((ja_oL (ja_oL (ja_oI h (s + 1) (pf_I (h.2.1 (s + 1)) 0 80 0)) (s + 2) (pf_L ((ja_oI h (s + 1) (pf_I (h.2.1 (s + 1)) 0 80 0)).2.2.1 (s + 2)) 0 80 0)) (s + 3) (pf_L ((ja_oL (ja_oI h (s + 1) (pf_I (h.2.1 (s + 1)) 0 80 0)) (s + 2) (pf_L ((ja_oI h (s + 1) (pf_I (h.2.1 (s + 1)) 0 80 0)).2.2.1 (s + 2)) 0 80 0)).2.2.1 (s + 3)) 0 80 0)).2.1 (s + 4)) 0 64 0) k3
  simp only [r_St_begin, st_R0 k, fI h (s + 1) 80 0 (by decide) k.2.1, jcV, st_R1 k1, fL _ (s + 2) 80 0 (by decide) k1.2.2.1, st_R2 k2, fL _ (s + 3) 80 0 (by decide) k2.2.2.2.1, st_R3 k3, fI _ (s + 4) 64 0 (by decide) k3.2.2.2.2.1]
  have w1 : ∀ (g : ja_H) (x : Int32) (K : ja_H → Option ja_H), st_ok g s → js_I g (s + 1) 1 x K = K (ja_sI g (s + 1) 1 x) := fun g x K q => by
    unfold js_I
    exact ja_inE q.2.1 (jn_jx (a := 1) (by decide) (by decide))
  have w2 : ∀ (g : ja_H) (x : Int32) (K : ja_H → Option ja_H), st_ok g s → js_I g (s + 1) 10 x K = K (ja_sI g (s + 1) 10 x) := fun g x K q => by
    unfold js_I
    exact ja_inE q.2.1 (jn_jx (a := 10) (by decide) (by decide))
  have hf : ∀ g, st_ok g s → jf_R g s 6 0 (fun a109 => js_I g a109 1 2 (fun h110 => jf_R h110 s 6 0 (fun a111 => js_I h110 a111 10 3 (fun h112 => some h112)))) = some (ja_sI (ja_sI g (s + 1) 1 2) (s + 1) 10 3) := fun g q => by
    have q1 : st_ok (ja_sI g (s + 1) 1 2) s := q
    rw [st_R0 q, w1 _ _ _ q]
    show jf_R (ja_sI g (s + 1) 1 2) s 6 0 _ = _
    rw [st_R0 q1, w2 _ _ _ q1]
  refine (hf _ k4).trans ?_
  congr 1
  refine ja_hext rfl (fun a b => ?_) (fun a b => ?_) rfl
  · rw [st_wI, ja_rI, ja_rI]
    simp only [ja_oI, ja_oL, pf_I, pb_0]
    by_cases a1 : a = s + 1
    · subst a1
      by_cases b10 : b = 10
      · subst b10
        simp
      · by_cases b1 : b = 1
        · subst b1
          simp
        · by_cases b80 : b < 80
          · simp [b10, b1, b80]
          · simp [b10, b1, b80, st_c]
    · by_cases a4 : a = s + 4
      · subst a4
        by_cases b64 : b < 64 <;> simp [b64]
      · simp [a1, a4]
  · rw [st_wL, ja_rIL, ja_rIL]
    simp only [ja_oI, ja_oL, pf_L, pb_0]
    by_cases a1 : a = s + 2
    · subst a1
      by_cases b10 : b = 10
      · subst b10
        simp
      · by_cases b1 : b = 1
        · subst b1
          simp
        · by_cases b80 : b < 80
          · simp [b10, b1, b80]
          · simp [b10, b1, b80, st_c]
    · by_cases a4 : a = s + 3
      · subst a4
        by_cases b10 : b = 10
        · subst b10
          simp
        · by_cases b1 : b = 1
          · subst b1
            simp
          · by_cases b80 : b < 80
            · simp [b10, b1, b80]
            · simp [b10, b1, b80, st_c]
      · simp [a1, a4]
end SU
