section S4
variable {J : jS} {σ : sg_S} {g : Nat → Int32} {v r : pv_T} {C f m : Nat → Int32} {a b n k : Nat} {R : Int32 × Int64} {Y : Int64} {len : Int32}
theorem n8_s {i : Nat} : n8 m a (i + 1) = (m a).toNatClampNeg + 256 * n8 m (a + 1) i := rfl
theorem n8_lt (hm : ∀ j, (m j).toNatClampNeg < 256) : ∀ (i a : Nat), n8 m a i < 256 ^ i := by
  intro i
  induction i with
  | zero =>
    intro a
    show 0 < 1
    decide
  | succ i ih =>
    intro a
    rw [n8_s, Nat.pow_succ]
    have := hm a
    have := ih (a + 1)
    omega
theorem n8_c : ∀ (i a b : Nat), (∀ j, j < i → m (a + j) = f (b + j)) → n8 m a i = n8 f b i := by
  intro i
  induction i with
  | zero => intro a b _; rfl
  | succ i ih =>
    intro a b e
    rw [n8_s, n8_s, show m a = f b from e 0 (by omega), ih (a + 1) (b + 1) (fun j hj => by
      have := e (j + 1) (by omega)
      rw [show a + 1 + j = a + (j + 1) by omega, show b + 1 + j = b + (j + 1) by omega]
      exact this)]
theorem jo_m_n {i : Nat} (hi : i < 8) : jo_m Y i = nI (uN Y / 2 ^ (8 * i) % 256) := by
  have e8 : (8 : Int32) * nI i = nI (8 * i) := jn_mul 8 i
  unfold jo_m
  rw [e8]
  have q := uN_shr (x := Y) (j := 8 * i) (by omega)
  generalize UInt64.toInt64 (Int64.toUInt64 Y >>> (Int64.toUInt64 (Int32.toInt64 (nI (8 * i))) &&& Int64.toUInt64 63)) = Z at *
  apply Int32.toBitVec_inj.mp
  apply BitVec.eq_of_toNat_eq
  rw [Int32.toBitVec_and, BitVec.toNat_and]
  have t : (Int64.toInt32 Z).toBitVec.toNat = uN Z % 4294967296 := by
    show (Z.toBitVec.signExtend 32).toNat = _
    rw [BitVec.signExtend_eq_setWidth_of_le _ (by decide), BitVec.toNat_setWidth]
    rfl
  rw [t, show (255 : Int32).toBitVec.toNat = 2 ^ 8 - 1 from rfl, Nat.and_two_pow_sub_one_eq_mod, q]
  show _ = (BitVec.ofNat 32 (uN Y / 2 ^ (8 * i) % 256)).toNat
  rw [BitVec.toNat_ofNat]
  omega
theorem n8_dig {U : Nat} : ∀ (i s a : Nat), (∀ j, j < i → (m (a + j)).toNatClampNeg = U / 2 ^ (8 * (s + j)) % 256) → n8 m a i = U / 2 ^ (8 * s) % 256 ^ i := by
  intro i
  induction i with
  | zero =>
    intro s a _
    rw [Nat.pow_zero, Nat.mod_one]
    rfl
  | succ i ih =>
    intro s a e
    rw [n8_s, ih (s + 1) (a + 1) (fun j hj => by
      have := e (j + 1) (by omega)
      rw [show a + 1 + j = a + (j + 1) by omega, show s + 1 + j = s + (j + 1) by omega]
      exact this)]
    have e0 := e 0 (by omega)
    rw [Nat.add_zero, Nat.add_zero] at e0
    rw [e0, Nat.pow_succ, Nat.mul_comm (256 ^ i) 256, Nat.mod_mul, Nat.div_div_eq_div_mul, show 2 ^ (8 * s) * 256 = 2 ^ (8 * (s + 1)) by rw [show 8 * (s + 1) = 8 * s + 8 by omega, Nat.pow_add]]
theorem lI_uN : lI (uN Y) = Y := by
  apply uN_inj.mp
  exact uN_of (uN_lt Y)
theorem n8_num (e : ∀ j, j < 8 → m (a + j) = jo_m Y j) : lI (n8 m a 8) = Y := by
  have q : n8 m a 8 = uN Y / 2 ^ (8 * 0) % 256 ^ 8 := n8_dig 8 0 a (fun j hj => by
    rw [e j hj, jo_m_n hj, jn_clamp (by omega), Nat.zero_add])
  have l := uN_lt Y
  rw [q, show 8 * 0 = 0 from rfl, Nat.pow_zero, Nat.div_one, Nat.mod_eq_of_lt (by omega), lI_uN]
def jat (g : Nat → Int32) (R : Int32 × Int64) : Nat := (R.2.toInt + (g 3).toInt + 512).toNat
def jct (g : Nat → Int32) (R : Int32 × Int64) : Nat := (R.2.toInt + (g 3).toInt).toNat
def jrd (g : Nat → Int32) (C : Nat → Int32) (J : jS) (R : Int32 × Int64) : Int32 × Int64 := if R.1 = 2 then (1, lI (n8 C (jct g R) (pw_size g).toNatClampNeg)) else if pw_size g = 8 ∧ jat g R % 8 = 0 ∧ ¬ (J.2.1 (jat g R / 8)).1 = 0 then J.2.1 (jat g R / 8) else (1, lI (n8 J.2.2.1 (jat g R) (pw_size g).toNatClampNeg))
theorem num_s {N : Nat} (hN : N < 256 ^ (pw_size g).toNatClampNeg) : sv (pj_num g) (1, lI N) := by
  obtain ⟨z, hz, hz2⟩ := pw_size_n g
  have zc : (pw_size g).toNatClampNeg = z := by rw [hz, jn_clamp (by omega)]
  rw [zc] at hN
  unfold pj_num
  by_cases c : pw_size g = 8
  · rw [if_pos c]
    exact Or.inr ⟨rfl, sd_any⟩
  · rw [if_neg c]
    have z8 : z ≠ 8 := fun q => c (by rw [hz, q]; rfl)
    refine Or.inr ⟨rfl, ?_⟩
    have h4 : N < 4294967296 := by
      rcases hz2 with q | q | q | q
      · subst q
        omega
      · subst q
        omega
      · subst q
        omega
      · exact absurd q z8
    have i := jl_int (n := N) (by omega)
    have key : ∀ Q : Int64, Q.toInt = 256 ^ z - 1 → iv (1, 0, Q) (lI N) := fun Q hQ => by
      refine ⟨?_, ?_⟩
      · show (0 : Int64).toInt ≤ _
        rw [i]
        show (0 : Int) ≤ _
        omega
      · show _ ≤ Q.toInt
        rw [i, hQ]
        have : ((256 ^ z : Nat) : Int) = 256 ^ z := by
          rw [Int.natCast_pow]
          rfl
        omega
    apply key
    rcases hz2 with q | q | q | q
    · subst q
      rw [hz]
      decide
    · subst q
      rw [hz]
      decide
    · subst q
      rw [hz]
      decide
    · exact absurd q z8
theorem sg_rd_t : ∀ (i a : Nat), sg_rd σ a i = true → ∀ j, j < i → σ.2 (a + j) = true ∧ pn_ptr (σ.1 (11 + (a + j) / 8)) = 0 := by
  intro i
  induction i with
  | zero => intro a _ j hj; omega
  | succ i ih =>
    intro a h j hj
    have e : sg_rd σ a (i + 1) = (σ.2 a && decide (pn_ptr (σ.1 (11 + a / 8)) = 0) && sg_rd σ (a + 1) i) := rfl
    rw [e, Bool.and_eq_true, Bool.and_eq_true] at h
    by_cases z : j = 0
    · subst z
      exact ⟨h.1.1, of_decide_eq_true h.1.2⟩
    · have := ih (a + 1) h.2 (j - 1) (by omega)
      rw [show a + 1 + (j - 1) = a + j by omega] at this
      exact this
theorem rd_s (w : gw g) (ok : sg_ok σ) (hJ : sJ J σ) (hm : ∀ j, (J.2.2.1 j).toNatClampNeg < 256) (hC : ∀ j, (C j).toNatClampNeg < 256) (st0 : pw_stores g = 0) (l0 : 0 ≤ len.toInt) (r0 : (sg_r g σ).1 ≠ 0) (c0 : (sg_rdv g len σ).1 = 0) : sv (sg_rdv g len σ).2 (jrd g C J (jr_v g J)) ∧ ((jr_v g J).1 = 2 ∧ (0 ≤ (jr_v g J).2.toInt + (g 3).toInt ∧ (jr_v g J).2.toInt + (g 3).toInt + ((pw_size g).toNatClampNeg : Int) ≤ len.toInt) ∨ (jr_v g J).1 = 3 ∧ 0 ≤ (jr_v g J).2.toInt + (g 3).toInt + 512 ∧ jat g (jr_v g J) + (pw_size g).toNatClampNeg ≤ 512 ∧ ((pw_size g = 8 ∧ jat g (jr_v g J) % 8 = 0 ∧ ¬ (J.2.1 (jat g (jr_v g J) / 8)).1 = 0) ∨ ∀ i, i < (pw_size g).toNatClampNeg → J.2.2.2 (jat g (jr_v g J) + i) = true ∧ (J.2.1 ((jat g (jr_v g J) + i) / 8)).1 = 0)) := by
  have hr := (sv_r w hJ).resolve_left r0
  have ro := sg_r_ok w ok
  obtain ⟨z, hz, hz2⟩ := pw_size_n g
  have zc : (pw_size g).toNatClampNeg = z := by rw [hz, jn_clamp (by omega)]
  have z8 : z ≤ 8 ∧ 0 < z := by omega
  have e1 := ai_of32 (g 3)
  have o := w.2.2.1
  rw [rd_xe] at c0 ⊢
  by_cases c1 : pj_reach g len (sg_r g σ) = 0
  · rw [if_pos c1] at c0 ⊢
    unfold rd_x at c0 ⊢
    have pr : pn_ptr (sg_r g σ) ≠ 0 := fun q => by
      unfold pj_reach at c1
      rw [if_pos q] at c1
      exact absurd c1 (by decide)
    rcases pp_1 pr with k2 | k3
    · have n3 : ¬ (sg_r g σ).1 = 3 := by rw [k2]; decide
      rw [if_neg n3]
      have R2 : (jr_v g J).1 = 2 := hr.1.symm.trans k2
      unfold jrd
      rw [if_pos R2]
      refine ⟨num_s (by rw [zc]; exact n8_lt hC z _), Or.inl ⟨R2, ?_⟩⟩
      have bnd := pv_k2 ro k2
      have h1 := hr.2.1
      have h2 := hr.2.2
      unfold pj_reach at c1
      rw [if_neg pr, if_pos k2, if_pos st0] at c1
      unfold pj_ins at c1
      have a2 := ai_add (x := (sg_r g σ).2.1) (y := (g 3).toInt64) (by omega) (by omega)
      have a3 := ai_add (x := (sg_r g σ).2.2) (y := (g 3).toInt64) (by omega) (by omega)
      have a4 : (pw_size g).toInt64.toInt = z := by rw [ai_of32, hz, jn_int (by omega)]
      have a5 := ai_add (x := (sg_r g σ).2.2 + (g 3).toInt64) (y := (pw_size g).toInt64) (by omega) (by omega)
      have a6 := ai_of32 len
      by_cases d1 : (sg_r g σ).2.1 + (g 3).toInt64 < 0
      · rw [if_pos d1] at c1
        exact absurd c1 (by decide)
      · rw [if_neg d1] at c1
        by_cases d2 : len.toInt64 < (sg_r g σ).2.2 + (g 3).toInt64 + (pw_size g).toInt64
        · rw [if_pos d2] at c1
          exact absurd c1 (by decide)
        · rw [ai_lt, ai_nz] at d1
          rw [ai_lt] at d2
          rw [zc]
          omega
    · rw [if_pos k3] at c0 ⊢
      have R3 : (jr_v g J).1 = 3 := hr.1.symm.trans k3
      have n2 : ¬ (jr_v g J).1 = 2 := by rw [R3]; decide
      obtain ⟨a1, a2, a3⟩ := sg_at_ok ro k3 hz z8.1 o c1
      have q3 := pv_k3 ro k3
      have h1 := hr.2.1
      have h2 := hr.2.2
      have ex : (jr_v g J).2.toInt = (sg_r g σ).2.1.toInt := by
        rw [← q3.1] at h2
        omega
      have ea : jat g (jr_v g J) = sg_at g (sg_r g σ) := by
        unfold jat sg_at
        rw [ex]
      unfold jrd
      rw [if_neg n2, ea, zc]
      rw [zc] at c0
      generalize sg_at g (sg_r g σ) = a at *
      have base : 0 ≤ (jr_v g J).2.toInt + (g 3).toInt + 512 ∧ a + z ≤ 512 := by
        rw [ex]
        omega
      by_cases c2 : pw_size g = 8 ∧ a % 8 = 0 ∧ ¬ (σ.1 (11 + a / 8)).1 = 0
      · rw [if_pos c2]
        have z88 : z = 8 := (jn_inj (a := z) (b := 8) (by omega) (by decide)).mp (hz.symm.trans c2.1)
        have a8 : 8 * (a / 8) = a := by omega
        rcases hJ.2.1 (a / 8) (by omega) with y | ⟨y1, y2, y3, y4⟩ | ⟨y1, y2, y3⟩
        · exact absurd y c2.2.2
        · rw [a8] at y3 y4
          rw [if_neg (fun q => q.2.2 y2), z88]
          refine ⟨Or.inr ⟨y1, y4⟩, Or.inr ⟨R3, base.1, by omega, Or.inr (fun i hi => ⟨y3 i hi, ?_⟩)⟩⟩
          rw [show (a + i) / 8 = a / 8 by omega]
          exact y2
        · have ne : ¬ (J.2.1 (a / 8)).1 = 0 := by
            rw [y2]
            exact c2.2.2
          rw [if_pos ⟨c2.1, c2.2.1, ne⟩]
          exact ⟨Or.inr ⟨y2.symm, y3⟩, Or.inr ⟨R3, base.1, base.2, Or.inl ⟨c2.1, c2.2.1, ne⟩⟩⟩
      · rw [if_neg c2] at c0 ⊢
        by_cases c3 : sg_rd σ a z = true
        · rw [if_pos c3]
          have al : ∀ i, i < z → J.2.2.2 (a + i) = true ∧ (J.2.1 ((a + i) / 8)).1 = 0 := fun i hi => by
            obtain ⟨s1, s2⟩ := sg_rd_t z a c3 i hi
            obtain ⟨s3, s4⟩ := hJ.2.2 (a + i) (by omega) s1
            exact ⟨s3, s4 s2⟩
          have nk : ¬ (pw_size g = 8 ∧ a % 8 = 0 ∧ ¬ (J.2.1 (a / 8)).1 = 0) := fun q => q.2.2 (al 0 z8.2).2
          rw [if_neg nk]
          exact ⟨num_s (by rw [zc]; exact n8_lt hm z _), Or.inr ⟨R3, base.1, base.2, Or.inr al⟩⟩
        · rw [if_neg c3] at c0
          exact absurd c0 (show ¬ (12 : Int32) = 0 by decide)
  · rw [if_neg c1] at c0
    exact absurd c0 c1
end S4
