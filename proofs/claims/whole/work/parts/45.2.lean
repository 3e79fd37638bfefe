section M6
variable {h g f : ja_H} {k n m j : Nat} {W : Nat → Int64} {T : Nat → Option sg_S} {len x : Int32}
def mo_g (h g : ja_H) : Prop := g.1 = h.1 ∧ g.2.2.2 = h.2.2.2 ∧ (∀ a b, a ≠ 27 → a ≠ 28 → a ≠ 30 → a ≠ 33 → ¬ (a = 25 ∧ (b = 0 ∨ b = 5 ∨ b = 6 ∨ b = 7 ∨ b = 16)) → g.2.1 a b = h.2.1 a b) ∧ (∀ a b, a ≠ 31 → a ≠ 32 → g.2.2.1 a b = h.2.2.1 a b)
theorem mo_g0 : mo_g h h := ⟨rfl, rfl, fun _ _ _ _ _ _ _ => rfl, fun _ _ _ _ => rfl⟩
theorem mo_gt (p : mo_g h g) (q : mo_g g f) : mo_g h f := ⟨q.1.trans p.1, q.2.1.trans p.2.1, fun a b x y z w v => (q.2.2.1 a b x y z w v).trans (p.2.2.1 a b x y z w v), fun a b x y => (q.2.2.2 a b x y).trans (p.2.2.2 a b x y)⟩
theorem mo_gf (p : mo_f h g) : mo_g h g := ⟨p.1, p.2.1, fun a b _ h2 h3 h4 h5 => p.2.2.1 a b h2 h3 h4 (fun q => h5 ⟨q.1, by omega⟩), p.2.2.2⟩
theorem mo_gB (b : jv_B h) (p : mo_g h g) : jv_B g := by
  refine ⟨fun i hi => ?_, fun q hq => ?_⟩
  · rw [p.1]
    exact b.1 i hi
  · rw [p.2.1]
    exact b.2 q hq
theorem mo_g25 {b : Nat} (hb : b = 0 ∨ b = 5 ∨ b = 6 ∨ b = 7 ∨ b = 16) : mo_g h (ja_sI h 25 b x) := by
  refine ⟨rfl, rfl, fun a c _ _ _ _ q => ?_, fun _ _ _ _ => rfl⟩
  rw [ja_rI, if_neg (fun z => q ⟨z.1, by omega⟩)]
theorem mo_g27 : mo_g h (ja_sI h 27 j x) := by
  refine ⟨rfl, rfl, fun a c q _ _ _ _ => ?_, fun _ _ _ _ => rfl⟩
  rw [ja_rI, if_neg (fun z => q z.1)]
def m27 (h g : ja_H) : Prop := g.1 = h.1 ∧ g.2.2 = h.2.2 ∧ ∀ a, a ≠ 27 → g.2.1 a = h.2.1 a
theorem m27_0 : m27 h h := ⟨rfl, rfl, fun _ _ => rfl⟩
theorem m27_t (p : m27 h g) (q : m27 g f) : m27 h f := ⟨q.1.trans p.1, q.2.1.trans p.2.1, fun a ha => (q.2.2 a ha).trans (p.2.2 a ha)⟩
theorem m27_s : m27 h (ja_sI h 27 j x) := by
  refine ⟨rfl, rfl, fun a ha => ?_⟩
  funext b
  rw [ja_rI, if_neg (fun z => ha z.1)]
theorem m27_B (b : jv_B h) (p : m27 h g) : jv_B g := by
  refine ⟨fun i hi => ?_, fun q hq => ?_⟩
  · rw [p.1]
    exact b.1 i hi
  · rw [p.2.1]
    exact b.2 q hq
theorem m27_g (p : m27 h g) : mo_g h g := ⟨p.1, by rw [p.2.1], fun a b q _ _ _ _ => by rw [p.2.2 a q], fun a b _ _ => by rw [p.2.1]⟩
theorem bz0 : vp_nar .boolean 0 = 0 := by decide
theorem bz1 : vp_nar .boolean 1 = 1 := by decide
theorem mo_v39 (n1 : n ≤ 1024) : ∀ (t : Nat) (h : ja_H) (j : Nat), jv_B h → h.2.1 25 2 = nI n → j ≤ n + 1 → n + 1 - j < t → ∃ h', r_Mo_verify_39 t h 25 (nI j) = r_Mo_verify_62 ja_fu h' 25 0 ∧ m27 h h' ∧ (∀ k, k ≤ n → h'.2.1 27 k = if j ≤ k then 0 else h.2.1 27 k) := by
  intro t
  induction t with
  | zero => intro h j _ _ _ ht; omega
  | succ t ih =>
    intro h j b hn hj ht
    show ∃ h', q_Mo_verify_39 (r_Mo_verify_39 t) h 25 (nI j) = _ ∧ _
    rw [q_Mo_verify_39, jI_25 b, hn]
    by_cases q : n < j
    · rw [if_pos ((jn_lt (by omega) (by omega)).mpr q), jlE]
      refine ⟨h, rfl, m27_0, fun k hk => ?_⟩
      rw [if_neg (by omega)]
    · rw [if_neg (fun z => q ((jn_lt (by omega) (by omega)).mp z)), jR_25_3 b, jW_27 b (jn_jx (by omega) (by decide)), jn_clamp (by omega), bz0, jlE, lq_ad1]
      obtain ⟨h', u1, u2, u3⟩ := ih (ja_sI h 27 j 0) (j + 1) b (by rw [ja_rI, if_neg (by omega)]; exact hn) (by omega) (by omega)
      refine ⟨h', u1, m27_t m27_s u2, fun k hk => ?_⟩
      rw [u3 k hk, ja_rI]
      by_cases z : k = j
      · rw [if_neg (by omega), if_pos ⟨rfl, z⟩, if_pos (by omega)]
      · rw [if_neg (c := 27 = 27 ∧ k = j) (fun y => z y.2)]
        by_cases y : j + 1 ≤ k
        · rw [if_pos y, if_pos (by omega)]
        · rw [if_neg y, if_neg (by omega)]
theorem mt_24 : ∀ i : Fin 256, (pw_s3 (nI i.val) 0 (nI i.val >>> (4 &&& 31)) = 7 ↔ nI i.val = 24) ∧ (pw_s3 (nI i.val) 16 (nI i.val >>> (4 &&& 31)) = 7 ↔ nI i.val = 24) ∧ (pw_s3 (nI i.val) 32 (nI i.val >>> (4 &&& 31)) = 7 ↔ nI i.val = 24) ∧ (pw_s3 (nI i.val) 64 (nI i.val >>> (4 &&& 31)) = 7 ↔ nI i.val = 24) := by decide +kernel
theorem jw_24 (w : Int64) : jw_sort w = 7 ↔ jw_op w = 24 := by
  show jw_f w 5 = 7 ↔ _
  rw [jw_f5]
  obtain ⟨i, hi⟩ := jw_op_n w
  obtain ⟨a0, a1, a2, a3⟩ := mt_24 i
  rw [hi]
  by_cases y1 : jw_imm w = 16
  · rw [y1]
    exact a1
  · by_cases y2 : jw_imm w = 32
    · rw [y2]
      exact a2
    · by_cases y3 : jw_imm w = 64
      · rw [y3]
        exact a3
      · rw [s3_y y1 y2 y3]
        exact a0
theorem mo_v62 (n1 : n ≤ 1024) : ∀ (t : Nat) (h : ja_H) (j : Nat), jv_B h → h.2.1 25 2 = nI n → (∀ k, k < n → h.2.2.1 26 k = W k) → (∀ k, k ≤ j → h.2.1 27 k = bo (sec W k)) → (∀ k, j < k → k ≤ n → h.2.1 27 k = 0) → j ≤ n → n - j < t → ∃ h', r_Mo_verify_62 t h 25 (nI j) = r_Mo_verify_106 ja_fu h' 25 0 ∧ m27 h h' ∧ (∀ k, k ≤ n → h'.2.1 27 k = bo (sec W k)) := by
  intro t
  induction t with
  | zero => intro h j _ _ _ _ _ _ ht; omega
  | succ t ih =>
    intro h j b hn hW s1 s2 hj ht
    show ∃ h', q_Mo_verify_62 (r_Mo_verify_62 t) h 25 (nI j) = _ ∧ _
    rw [q_Mo_verify_62, jI_25 b, hn]
    by_cases q : n ≤ j
    · rw [if_pos ((jn_le (by omega) (by omega)).mpr q), jlE]
      exact ⟨h, rfl, m27_0, fun k hk => s1 k (by omega)⟩
    · have jn : j < n := by omega
      rw [if_neg (fun z => q ((jn_le (by omega) (by omega)).mp z)), jR_25_3 b, jE_27 b (jn_jx (by omega) (by decide)), jn_clamp (by omega), s1 j (Nat.le_refl _)]
      have step : sec W (j + 1) = false → ∃ h', r_Mo_verify_98 (r_Mo_verify_62 t) h 25 (nI j) = r_Mo_verify_106 ja_fu h' 25 0 ∧ m27 h h' ∧ (∀ k, k ≤ n → h'.2.1 27 k = bo (sec W k)) := fun sf => by
        rw [r_Mo_verify_98, jlE, lq_ad1]
        exact ih h (j + 1) b hn hW (fun k hk => by
          by_cases z : k = j + 1
          · rw [z, s2 (j + 1) (by omega) (by omega), sf]
            rfl
          · exact s1 k (by omega)) (fun k h1 h2 => s2 k (by omega) h2) (by omega) (by omega)
      cases z : sec W j
      · rw [if_pos bo_f, jk_25 b, mo_op b (by omega), jcI, hW j jn]
        by_cases y : jw_op (W j) = 24
        · have st : sec W (j + 1) = true := by
            rw [sec_s, z, decide_eq_true ((jw_24 (W j)).mpr y)]
            rfl
          rw [if_pos y, jR_25_3 b, lq_ad1, jW_27 b (jn_jx (by omega) (by decide)), jn_clamp (by omega), bz1, r_Mo_verify_98, jlE, lq_ad1]
          obtain ⟨h', u1, u2, u3⟩ := ih (ja_sI h 27 (j + 1) 1) (j + 1) b (by rw [ja_rI, if_neg (by omega)]; exact hn) hW (fun k hk => by
            rw [ja_rI]
            by_cases z2 : k = j + 1
            · rw [if_pos ⟨rfl, z2⟩, z2, st]
              rfl
            · rw [if_neg (fun y => z2 y.2)]
              exact s1 k (by omega)) (fun k h1 h2 => by
            rw [ja_rI, if_neg (by omega)]
            exact s2 k (by omega) h2) (by omega) (by omega)
          exact ⟨h', u1, m27_t m27_s u2, u3⟩
        · rw [if_neg y]
          exact step (by rw [sec_s, decide_eq_false (fun q => y ((jw_24 (W j)).mp q)), Bool.and_false])
      · rw [if_neg (show ¬ bo true = 0 by decide)]
        exact step (by rw [sec_s, z]; rfl)
theorem mo_found : r_Mo_found h 25 (nI k) 0 = some (0, h) := by
  rw [r_Mo_found, if_pos rfl, jb0]
theorem mo_found1 (b : jv_B h) (q : ¬ x = 0) : r_Mo_found h 25 (nI k) x = some (1, ja_sI (ja_sI h 25 6 x) 25 7 (nI k)) := by
  have b1 : jv_B (ja_sI h 25 6 x) := b
  rw [r_Mo_found, if_neg q, jpI_25 b, jpI_25 b1, jb1]
theorem mo_v106 (n1 : n ≤ 1024) (b : jv_B h) (hn : h.2.1 25 2 = nI n) (hW : ∀ k, k < n → h.2.2.1 26 k = W k) (hs : ∀ k, k < n → h.2.1 27 k = bo (sec W k)) : ∀ (t j : Nat), j ≤ n → n - j < t → ((px W n (n - j) j).1 = 0 → r_Mo_verify_106 t h 25 (nI j) = r_Mo_verify_152 ja_fu h 25 0) ∧ (¬ (px W n (n - j) j).1 = 0 → r_Mo_verify_106 t h 25 (nI j) = some ((px W n (n - j) j).1, ja_sI (ja_sI h 25 6 (px W n (n - j) j).1) 25 7 (px W n (n - j) j).2)) := by
  intro t
  induction t with
  | zero => intro j _ ht; omega
  | succ t ih =>
    intro j hj ht
    have e0 : r_Mo_verify_106 (t + 1) h 25 (nI j) = q_Mo_verify_106 (r_Mo_verify_106 t) h 25 (nI j) := rfl
    rw [e0, q_Mo_verify_106, jI_25 b, hn]
    by_cases q : n ≤ j
    · rw [if_pos ((jn_le (by omega) (by omega)).mpr q), jlE, show n - j = 0 by omega]
      exact ⟨fun _ => rfl, fun z => absurd rfl z⟩
    · have jn : j < n := by omega
      rw [if_neg (fun z => q ((jn_le (by omega) (by omega)).mp z)), jR_25_3 b, jE_27 b (jn_jx (by omega) (by decide)), jn_clamp (by omega), hs j jn, show n - j = n - (j + 1) + 1 by omega, px_s]
      have ic := ih (j + 1) (by omega) (by omega)
      cases z : sec W j
      · have ec : r_Mo_form h 25 (nI j) = some (pc W n j, h) := by
          rw [mo_form b hn n1 jn, hW j jn, pf_goal_c (s' := fun j => bo (sec W j)) n1 hs]
          unfold pc
          have : pf_nx (h.2.2.1 26) n (j + 1) = pf_nx W n (j + 1) := by
            unfold pf_nx
            by_cases y : j + 1 < n
            · rw [if_pos y, if_pos y, hW _ y]
            · rw [if_neg y, if_neg y]
          rw [this]
        rw [if_pos bo_f, if_neg Bool.false_ne_true, jk_25 b, ec, jcI, jk_25 b]
        by_cases y : pc W n j = 0
        · rw [y, mo_found, jcI, if_pos rfl, if_pos rfl, r_Mo_verify_144, jlE, lq_ad1]
          exact ic
        · have b1 : jv_B (ja_sI (ja_sI h 25 6 (pc W n j)) 25 7 (nI j)) := b
          have e6 : (ja_sI (ja_sI h 25 6 (pc W n j)) 25 7 (nI j)).2.1 25 6 = pc W n j := by
            rw [ja_rI, if_neg (by omega), ja_rI, if_pos ⟨rfl, rfl⟩]
          rw [mo_found1 b y, jcI, if_neg i10, if_neg y, jI_25 b1, e6]
          exact ⟨fun q => absurd q y, fun _ => rfl⟩
      · rw [if_neg (show ¬ bo true = 0 by decide), if_pos rfl, r_Mo_verify_144, jlE, lq_ad1]
        exact ic
theorem mo_v152 (n1 : n ≤ 1024) : ∀ (t : Nat) (h : ja_H) (j : Nat), jv_B h → h.2.1 25 2 = nI n → j ≤ n → n - j < t → ∃ h', r_Mo_verify_152 t h 25 (nI j) = jc_V (r_Mo_begin h' 25) (fun h2 => r_Mo_verify_179 ja_fu h2 25 0) ∧ mo_f h h' ∧ (∀ k, k < n → h'.2.1 28 k = if j ≤ k then 0 else h.2.1 28 k) := by
  intro t
  induction t with
  | zero => intro h j _ _ _ ht; omega
  | succ t ih =>
    intro h j b hn hj ht
    show ∃ h', q_Mo_verify_152 (r_Mo_verify_152 t) h 25 (nI j) = _ ∧ _
    rw [q_Mo_verify_152, jI_25 b, hn]
    by_cases q : n ≤ j
    · rw [if_pos ((jn_le (by omega) (by omega)).mpr q), jk_25 b]
      refine ⟨h, rfl, mo_f0, fun k hk => ?_⟩
      rw [if_neg (by omega)]
    · rw [if_neg (fun z => q ((jn_le (by omega) (by omega)).mp z)), jR_25_4 b, jW_28 b (jn_jx (by omega) (by decide)), jn_clamp (by omega), bz0, jlE, lq_ad1]
      obtain ⟨h', u1, u2, u3⟩ := ih (ja_sI h 28 j 0) (j + 1) b (by rw [ja_rI, if_neg (by omega)]; exact hn) (by omega) (by omega)
      refine ⟨h', u1, mo_ft mo_f28 u2, fun k hk => ?_⟩
      rw [u3 k hk, ja_rI]
      by_cases z : k = j
      · rw [if_neg (by omega), if_pos ⟨rfl, z⟩, if_pos (by omega)]
      · rw [if_neg (c := 28 = 28 ∧ k = j) (fun y => z y.2)]
        by_cases y : j + 1 ≤ k
        · rw [if_pos y, if_pos (by omega)]
        · rw [if_neg y, if_neg (by omega)]
theorem mT_25 {b : Nat} (t : mT h n T) : mT (ja_sI h 25 b x) n T := by
  intro k hk
  have e : (ja_sI h 25 b x).2.1 28 k = h.2.1 28 k := by rw [ja_rI, if_neg (by omega)]
  rw [e]
  rcases t k hk with q | ⟨σ, q1, q2, q3⟩
  · exact Or.inl q
  · exact Or.inr ⟨σ, q1, q2, mS_I (by decide) (by decide) q3⟩
theorem mo_v179 (n1 : n ≤ 1024) (F : jq_F W n (sec W)) : ∀ (t : Nat) (h : ja_H) (k : Nat) (T : Nat → Option sg_S) (c : Int32), jv_B h → mT h n T → h.2.1 25 2 = nI n → h.2.1 25 9 = len → (∀ k, k < n → h.2.2.1 26 k = W k) → h.2.1 25 7 = -1 → jq_T n (sec W) T → k ≤ n → n - k < t → ∃ h', r_Mo_verify_179 t h 25 (nI k) = some ((pe W n len (n - k) k T c).1, h') ∧ mo_g h h' ∧ h'.2.1 25 0 = h.2.1 25 0 ∧ h'.2.1 25 5 = (if (pe W n len (n - k) k T c).1 = 0 then 1 else h.2.1 25 5) ∧ h'.2.1 25 7 = (pe W n len (n - k) k T c).2.1 ∧ ((pe W n len (n - k) k T c).1 = 0 → mT h' n (pe W n len (n - k) k T c).2.2.1) ∧ ∀ b, h'.2.1 27 b = h.2.1 27 b := by
  intro t
  induction t with
  | zero => intro h k T c _ _ _ _ _ _ _ _ ht; omega
  | succ t ih =>
    intro h k T c b mt hn h9 hW h7 Q hk ht
    show ∃ h', q_Mo_verify_179 (r_Mo_verify_179 t) h 25 (nI k) = _ ∧ _
    rw [q_Mo_verify_179, jI_25 b, hn]
    by_cases q : n ≤ k
    · rw [if_pos ((jn_le (by omega) (by omega)).mpr q), jpZ_25 b (Or.inr rfl), show n - k = 0 by omega]
      refine ⟨ja_sI h 25 5 1, rfl, mo_g25 (by omega), ?_, ?_, ?_, fun _ => mT_25 mt, fun b => by rw [ja_rI, if_neg (by omega)]⟩
      · rw [ja_rI, if_neg (by omega)]
      · rw [ja_rI, if_pos ⟨rfl, rfl⟩]
        rfl
      · rw [ja_rI, if_neg (by omega)]
        exact h7
    · have kn : k < n := by omega
      rw [if_neg (fun z => q ((jn_le (by omega) (by omega)).mp z)), jR_25_4 b, jE_28 b (jn_jx (by omega) (by decide)), jn_clamp (by omega), show n - k = n - (k + 1) + 1 by omega]
      rcases mt k kn with ⟨y1, y2⟩ | ⟨σ, y1, y2, y3⟩
      · rw [y2, if_pos rfl, pe_n y1, r_Mo_verify_214, jlE, lq_ad1]
        exact ih h (k + 1) T c b mt hn h9 hW h7 Q (by omega) (by omega)
      · obtain ⟨_, hsec, ok⟩ := Q k σ y1
        obtain ⟨Fw, Fp⟩ := F k kn hsec
        have nx : pf_nx (h.2.2.1 26) n (k + 1) = pf_nx W n (k + 1) := by
          unfold pf_nx
          by_cases y : k + 1 < n
          · rw [if_pos y, if_pos y, hW _ y]
          · rw [if_neg y, if_neg y]
        have res := mo_one (g := jw_f (W k)) b n1 kn (by rw [hW k kn]) Fw mt y3 ok (fun j τ e => (Q j τ e).2.2) (fun p hp => (Fp _ _ _ p hp).1)
        rw [nx, h9] at res
        obtain ⟨h1, u1, u2, u3⟩ := res
        have b1 := mo_fB b u2
        rw [y2, if_neg i10, pe_s y1, jk_25 b, u1, jcI, jk_25 b1]
        have i25 : ∀ i, i ≠ 16 → h1.2.1 25 i = h.2.1 25 i := fun i hi => u2.2.2.1 25 i (by omega) (by omega) (by omega) (fun z => hi z.2)
        by_cases z : (sg_one (jw_f (W k)) (pf_nx W n (k + 1)) len k σ).1 = 0
        · rw [if_pos z, z, mo_found, jcI, if_pos rfl, r_Mo_verify_214, jlE, lq_ad1]
          have Q4 : jq_T n (sec W) (fls T (sg_one (jw_f (W k)) (pf_nx W n (k + 1)) len k σ).2) := fls_q _ _ Q (fun p hp => ⟨(Fp _ _ _ p hp).1, (Fp _ _ _ p hp).2, sg_one_ok Fw ok p hp⟩)
          obtain ⟨h', v1, v2, v3, v4, v5, v6, v7⟩ := ih h1 (k + 1) _ (c + 1) b1 (u3 z) ((i25 2 (by decide)).trans hn) ((i25 9 (by decide)).trans h9) (fun j hj => (u2.2.2.2 26 j (by omega) (by omega)).trans (hW j hj)) ((i25 7 (by decide)).trans h7) Q4 (by omega) (by omega)
          refine ⟨h', v1, mo_gt (mo_gf u2) v2, v3.trans (i25 0 (by decide)), ?_, v5, v6, fun b => (v7 b).trans (u2.2.2.1 27 b (by omega) (by omega) (by omega) (by omega))⟩
          rw [v4, i25 5 (by decide)]
        · have b2 : jv_B (ja_sI (ja_sI h1 25 6 (sg_one (jw_f (W k)) (pf_nx W n (k + 1)) len k σ).1) 25 7 (nI k)) := b1
          rw [if_neg z, mo_found1 b1 z, jcI, if_neg i10, jI_25 b2]
          refine ⟨ja_sI (ja_sI h1 25 6 (sg_one (jw_f (W k)) (pf_nx W n (k + 1)) len k σ).1) 25 7 (nI k), ?_, mo_gt (mo_gf u2) (mo_gt (mo_g25 (b := 6) (by omega)) (mo_g25 (b := 7) (by omega))), ?_, ?_, ?_, fun w => absurd w z, fun b => by
            rw [ja_rI, if_neg (by omega), ja_rI, if_neg (by omega)]
            exact u2.2.2.1 27 b (by omega) (by omega) (by omega) (by omega)⟩
          · rw [ja_rI, if_neg (by omega), ja_rI, if_pos ⟨rfl, rfl⟩]
          · rw [ja_rI, if_neg (by omega), ja_rI, if_neg (by omega)]
            exact i25 0 (by decide)
          · rw [ja_rI, if_neg (by omega), ja_rI, if_neg (by omega), if_neg z]
            exact i25 5 (by decide)
          · rw [ja_rI, if_pos ⟨rfl, rfl⟩]
def vr (W : Nat → Int64) (n : Nat) (len : Int32) : Int32 × Int32 × (Nat → Option sg_S) × Int32 := if (px W n n 0).1 = 0 then pe W n len n 0 pe_0 0 else ((px W n n 0).1, (px W n n 0).2, fun _ => none, 0)
theorem pe_0_q (n0 : 0 < n) : jq_T n (sec W) pe_0 := fun k σ e => by
  unfold pe_0 at e
  by_cases z : k = 0
  · rw [if_pos z] at e
    cases e
    subst z
    exact ⟨n0, rfl, sg_b_ok⟩
  · rw [if_neg z] at e
    cases e
theorem mo_verify (b : jv_B h) (n1 : n ≤ 1024) (n0 : 0 < n) (hn : h.2.1 25 2 = nI n) (h9 : h.2.1 25 9 = len) (hW : ∀ k, k < n → h.2.2.1 26 k = W k) : ∃ h', r_Mo_verify h 25 = some ((vr W n len).1, h') ∧ mo_g h h' ∧ h'.2.1 25 0 = 0 ∧ h'.2.1 25 5 = (if (vr W n len).1 = 0 then 1 else 0) ∧ h'.2.1 25 7 = (vr W n len).2.1 ∧ ((vr W n len).1 = 0 → mT h' n (vr W n len).2.2.1 ∧ ∀ k, k < n → h'.2.1 27 k = bo (sec W k)) := by
  have n0' : ¬ nI n = 0 := fun q => by
    have := (jn_inj (a := n) (b := 0) (by omega) (by decide)).mp q
    omega
  have b1 : jv_B (ja_sI h 25 0 0) := b
  have b2 : jv_B (ja_sI (ja_sI h 25 0 0) 25 5 0) := b
  have b3 : jv_B (ja_sI (ja_sI (ja_sI h 25 0 0) 25 5 0) 25 6 0) := b
  have b4 : jv_B (ja_sI (ja_sI (ja_sI (ja_sI h 25 0 0) 25 5 0) 25 6 0) 25 7 (-1)) := b
  rw [r_Mo_verify, jI_25 b, hn, if_neg n0', r_Mo_verify_13, jk_25 b, lw_fails0 b, jcI, if_pos rfl, jpZ_25 b1 (Or.inl rfl), jpI_25 b2, jpI_25 b3, jlE]
  have g4 : mo_g h (ja_sI (ja_sI (ja_sI (ja_sI h 25 0 0) 25 5 0) 25 6 0) 25 7 (-1)) := mo_gt (mo_gt (mo_gt (mo_g25 (by omega)) (mo_g25 (by omega))) (mo_g25 (by omega))) (mo_g25 (by omega))
  generalize hh4 : ja_sI (ja_sI (ja_sI (ja_sI h 25 0 0) 25 5 0) 25 6 0) 25 7 (-1) = h4 at *
  have i0 : h4.2.1 25 0 = 0 := by
    rw [← hh4]
    simp [ja_rI]
  have i5 : h4.2.1 25 5 = 0 := by
    rw [← hh4]
    simp [ja_rI]
  have i7 : h4.2.1 25 7 = -1 := by
    rw [← hh4]
    simp [ja_rI]
  have i2 : h4.2.1 25 2 = nI n := (g4.2.2.1 25 2 (by omega) (by omega) (by omega) (by omega) (by omega)).trans hn
  have i9 : h4.2.1 25 9 = len := (g4.2.2.1 25 9 (by omega) (by omega) (by omega) (by omega) (by omega)).trans h9
  have iW : ∀ k, k < n → h4.2.2.1 26 k = W k := fun k hk => (g4.2.2.2 26 k (by omega) (by omega)).trans (hW k hk)
  obtain ⟨h5, u1, u2, u3⟩ := mo_v39 n1 ja_fu h4 0 b4 i2 (by omega) (by rw [ja_fu_eq]; omega)
  have b5 := m27_B b4 u2
  have r25 : ∀ i, h5.2.1 25 i = h4.2.1 25 i := fun i => by rw [u2.2.2 25 (by decide)]
  obtain ⟨h6, v1, v2, v3⟩ := mo_v62 (W := W) n1 ja_fu h5 0 b5 ((r25 2).trans i2) (fun k hk => by rw [u2.2.1]; exact iW k hk) (fun k hk => by
    have : k = 0 := by omega
    subst this
    rw [u3 0 (by omega), if_pos (by omega)]
    rfl) (fun k _ hk => by rw [u3 k hk, if_pos (by omega)]) (by omega) (by rw [ja_fu_eq]; omega)
  have b6 := m27_B b5 v2
  have s25 : ∀ i, h6.2.1 25 i = h4.2.1 25 i := fun i => by rw [v2.2.2 25 (by decide), r25]
  have g6 : mo_g h h6 := mo_gt g4 (mo_gt (m27_g u2) (m27_g v2))
  have W6 : ∀ k, k < n → h6.2.2.1 26 k = W k := fun k hk => by
    rw [v2.2.1, u2.2.1]
    exact iW k hk
  have fo := mo_v106 n1 b6 ((s25 2).trans i2) W6 (fun k hk => v3 k (by omega)) ja_fu 0 (by omega) (by rw [ja_fu_eq]; omega)
  rw [Nat.sub_zero] at fo
  have start : r_Mo_verify_39 ja_fu h4 25 0 = r_Mo_verify_106 ja_fu h6 25 0 := u1.trans v1
  rw [start]
  unfold vr
  by_cases z : (px W n n 0).1 = 0
  · have e1 : r_Mo_verify_106 ja_fu h6 25 0 = r_Mo_verify_152 ja_fu h6 25 0 := fo.1 z
    obtain ⟨h7, w1, w2, w3⟩ := mo_v152 n1 ja_fu h6 0 b6 ((s25 2).trans i2) (by omega) (by rw [ja_fu_eq]; omega)
    have w1' : r_Mo_verify_152 ja_fu h6 25 0 = _ := w1
    have b7 := mo_fB b6 w2
    obtain ⟨h8, x1, x2, x3⟩ := mo_begin (n := n) b7 (fun k hk => by rw [w3 k hk, if_pos (by omega)])
    have b8 := mo_fB b7 x2
    have f8 := mo_ft w2 x2
    have t25 : ∀ i, i ≠ 16 → h8.2.1 25 i = h4.2.1 25 i := fun i hi => (f8.2.2.1 25 i (by omega) (by omega) (by omega) (fun z => hi z.2)).trans (s25 i)
    obtain ⟨h9', y1, y2, y3, y4, y5, y6, y7⟩ := mo_v179 (len := len) n1 (jq_of n1 z) ja_fu h8 0 pe_0 0 b8 x3 ((t25 2 (by decide)).trans i2) ((t25 9 (by decide)).trans i9) (fun k hk => (f8.2.2.2 26 k (by omega) (by omega)).trans (W6 k hk)) ((t25 7 (by decide)).trans i7) (pe_0_q n0) (by omega) (by rw [ja_fu_eq]; omega)
    rw [Nat.sub_zero] at y1 y4 y5 y6
    have y1' : r_Mo_verify_179 ja_fu h8 25 0 = _ := y1
    rw [e1, w1', x1, jcV, y1', if_pos z]
    refine ⟨h9', rfl, mo_gt g6 (mo_gt (mo_gf f8) y2), y3.trans ((t25 0 (by decide)).trans i0), ?_, y5, fun q => ⟨y6 q, fun k hk => ?_⟩⟩
    · rw [y4, t25 5 (by decide), i5]
    · rw [y7, f8.2.2.1 27 k (by omega) (by omega) (by omega) (by omega)]
      exact v3 k (by omega)
  · have e1 : r_Mo_verify_106 ja_fu h6 25 0 = _ := fo.2 z
    rw [e1, if_neg z]
    refine ⟨_, rfl, mo_gt g6 (mo_gt (mo_g25 (by omega)) (mo_g25 (by omega))), ?_, ?_, ?_, fun q => absurd q z⟩
    · rw [ja_rI, if_neg (by omega), ja_rI, if_neg (by omega), s25]
      exact i0
    · rw [ja_rI, if_neg (by omega), ja_rI, if_neg (by omega), s25, if_neg z]
      exact i5
    · rw [ja_rI, if_pos ⟨rfl, rfl⟩]
end M6
