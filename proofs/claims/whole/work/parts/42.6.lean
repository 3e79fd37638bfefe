section SV
variable {h : ja_H} {s t : Nat} {V W : Nat → pv_T} {B C : Nat → Int32}
theorem jn_div8 {n : Nat} (hn : n < 2147483648) : nI n / 8 = nI (n / 8) := by
  rw [← Int32.toInt_inj, jn_int (by omega), Int32.toInt_div_of_ne_right _ _ (by decide), jn_int hn]
  show (n : Int).tdiv 8 = _
  rw [Int.tdiv_eq_ediv_of_nonneg (by omega)]
  rfl
theorem jn_mul8 (n : Nat) : nI n * 8 = nI (n * 8) := by
  unfold nI
  exact (Int32.ofNat_mul n 8).symm
theorem jn_sub {a b : Nat} (h : b ≤ a) : nI a - nI b = nI (a - b) := by
  have := jn_add (a - b) b
  rw [show a - b + b = a by omega] at this
  rw [← this]
  exact Int32.add_sub_cancel ..
theorem jn_mod8 {n : Nat} (hn : n < 2147483648) : nI n - nI n / 8 * 8 = nI (n % 8) := by
  rw [jn_div8 hn, jn_mul8, jn_sub (by omega)]
  congr 1
  omega
theorem jn_lt0 {x : Int32} : (x < 0) = (x.toInt < 0) := propext (by rw [Int32.lt_iff_toInt_lt]; rfl)
theorem jz8 {α : Type} {r : Option α} : jz_I 8 r = r := if_neg (by decide)
def jb_t (x : Int32) (i : Nat) : Bool := x.toBitVec.getLsbD i
theorem jb_and31 {i : Nat} (hi : i < 32) : nI i &&& 31 = nI i := by
  have : ∀ i : Fin 32, nI i.val &&& 31 = nI i.val := by decide
  exact this ⟨i, hi⟩
theorem jb_shr {x : Int32} {i : Nat} (hi : i < 8) : ((x >>> (nI i &&& 31)) &&& 1 = 0) ↔ jb_t x i = false := by
  rw [jb_and31 (by omega), ← Int32.toBitVec_inj]
  have e : (nI i).toBitVec.smod 32#32 = BitVec.ofNat 32 i := by
    have : ∀ i : Fin 8, (nI i.val).toBitVec.smod 32#32 = BitVec.ofNat 32 i.val := by decide
    exact this ⟨i, hi⟩
  constructor
  · intro q
    have q0 := congrArg (fun z => BitVec.getLsbD z 0) q
    have q1 : (x.toBitVec.sshiftRight (i % 4294967296)).getLsbD 0 = false := by simpa [e] using q0
    have hm : i % 4294967296 = i := Nat.mod_eq_of_lt (by omega)
    rw [hm, BitVec.getLsbD_sshiftRight] at q1
    have q2 : x.toBitVec.getLsbD i = false := by simpa [show i < 32 by omega] using q1
    exact q2
  · intro q
    apply BitVec.eq_of_getLsbD_eq
    intro j hj
    simp [e, BitVec.getLsbD_sshiftRight]
    have hm : i % 4294967296 = i := Nat.mod_eq_of_lt (by omega)
    rw [hm]
    intro _ hj0 j0
    subst j0
    rw [Nat.add_zero, if_pos (by omega)] at hj0
    have q' : x.toBitVec.getLsbD i = false := q
    rw [q'] at hj0
    exact absurd hj0 (by decide)
theorem jb_or {x : Int32} {i j : Nat} (hi : i < 8) (hj : j < 8) : jb_t (x ||| (1 <<< (nI i &&& 31))) j = (jb_t x j || decide (j = i)) := by
  rw [jb_and31 (by omega)]
  have : ∀ (i j : Fin 8), ((1 : Int32) <<< nI i.val).toBitVec.getLsbD j.val = decide (j.val = i.val) := by decide
  have h2 := this ⟨i, hi⟩ ⟨j, hj⟩
  simp only at h2
  simp only [jb_t, Int32.toBitVec_or, BitVec.getLsbD_or, h2]
theorem jb_and {x y : Int32} {i : Nat} : jb_t (x &&& y) i = (jb_t x i && jb_t y i) := by
  simp [jb_t]
theorem jb_255 {i : Nat} (hi : i < 8) : jb_t 255 i = true := by
  have : ∀ i : Fin 8, jb_t 255 i.val = true := by decide
  exact this ⟨i, hi⟩
theorem jb_0 {i : Nat} : jb_t 0 i = false := by
  simp [jb_t]
def st_b (B : Nat → Int32) (j : Nat) : Bool := jb_t (B (j / 8)) (j % 8)
theorem st_8at {i : Nat} (hi : i < 512) : r_St_eightAt h s (nI i) = some (if i % 8 = 0 then nI (16 + i / 8) else -1, h) := by
  have e0 : (nI (i % 8) = 0) = (i % 8 = 0) := propext (jn_inj (b := 0) (by omega) (by omega))
  have e1 : ((512 : Int32) ≤ nI i) = (512 ≤ i) := propext (jn_le (a := 512) (by omega) (by omega))
  have e2 : (16 : Int32) + nI i / 8 = nI (16 + i / 8) := by
    rw [jn_div8 (by omega)]
    exact jn_add 16 (i / 8)
  simp only [r_St_eightAt, r_St_eightAt_28, r_St_eightAt_29, jz8, jn_mod8 (show i < 2147483648 by omega), e0, if_neg (jn_neg (show i < 2147483648 by omega)), e1, if_neg (show ¬ 512 ≤ i by omega), e2, pw_ite]
theorem st_kept {i : Nat} (k : st_ok h s) (hi : i < 80) : r_St_isKept h s (nI i) = some (if (st_c h s i).1 = 0 then 0 else 1, h) := by
  simp only [r_St_isKept, r_St_isKept_14, st_R0 k, st_E0 k hi, jb0, jb1, pw_ite]
def pb_rd (V : Nat → pv_T) (S : Nat → Bool) (a : Nat) : Nat → Bool
  | 0 => true
  | n + 1 => S a && decide (pn_ptr (V (16 + a / 8)) = 0) && pb_rd V S (a + 1) n
theorem st_rd (k : st_ok h s) {a n : Nat} (ha : a + n ≤ 512) : ∀ (m j : Nat), j ≤ n → n - j < m → r_St_isReadable_2 m h s (nI a) (nI n) (nI (a + j)) = some (if pb_rd (st_c h s) (st_b (h.2.1 (s + 4))) (a + j) (n - j) then 1 else 0, h) := by
  intro m
  induction m with
  | zero => intro j _ ht; omega
  | succ m ih =>
    intro j hj ht
    show q_St_isReadable_2 (r_St_isReadable_2 m) h s (nI a) (nI n) (nI (a + j)) = _
    have e1 : (nI (a + n) ≤ nI (a + j)) = (a + n ≤ a + j) := propext (jn_le (by omega) (by omega))
    have e2 : ((512 : Int32) ≤ nI (a + j)) = (512 ≤ a + j) := propext (jn_le (a := 512) (by omega) (by omega))
    simp only [q_St_isReadable_2, jn_add, e1, e2, jb1, if_neg (jn_neg (show a + j < 2147483648 by omega))]
    by_cases h1 : a + n ≤ a + j
    · rw [if_pos h1, show n - j = 0 by omega]
      rfl
    · have hj' : j < n := by omega
      have e3 : (16 : Int32) + nI ((a + j) / 8) = nI (16 + (a + j) / 8) := jn_add 16 _
      rw [if_neg h1, if_neg (show ¬ 512 ≤ a + j by omega), show n - j = (n - (j + 1)) + 1 by omega]
      have ih' := ih (j + 1) (by omega) (by omega)
      rw [show a + (j + 1) = a + j + 1 from rfl] at ih'
      simp only [r_St_isReadable_43, r_St_isReadable_44, r_St_isReadable_65, jlE, jz8, jb0, st_R3 k, jn_div8 (show a + j < 2147483648 by omega), st_E3 k (show (a + j) / 8 < 64 by omega), jkE k.1, e3, st_pts k (show 16 + (a + j) / 8 < 80 by omega), jcI, lq_ad1, if_true, if_neg i10, ih']
      have e4 : nI (a + j) - nI ((a + j) / 8) * 8 = nI ((a + j) % 8) := by
        rw [← jn_div8 (by omega)]
        exact jn_mod8 (by omega)
      simp only [e4, jb_shr (show (a + j) % 8 < 8 by omega)]
      show _ = some (if (st_b (h.2.1 (s + 4)) (a + j) && decide (pn_ptr (st_c h s (16 + (a + j) / 8)) = 0) && pb_rd (st_c h s) (st_b (h.2.1 (s + 4))) (a + j + 1) (n - (j + 1))) = true then 1 else 0, h)
      have e5 : st_b (h.2.1 (s + 4)) (a + j) = jb_t (h.2.1 (s + 4) ((a + j) / 8)) ((a + j) % 8) := rfl
      rw [← e5]
      by_cases c1 : st_b (h.2.1 (s + 4)) (a + j) = false
      · rw [if_pos c1, c1]
        rfl
      · rw [if_neg c1, (Bool.eq_false_or_eq_true _).resolve_right c1]
        by_cases c2 : pn_ptr (st_c h s (16 + (a + j) / 8)) = 0
        · rw [if_pos c2]
          simp [c2]
        · rw [if_neg c2]
          simp [c2]
theorem st_read (k : st_ok h s) {a n : Nat} (ha : a + n ≤ 512) : r_St_isReadable h s (nI a) (nI n) = some (if pb_rd (st_c h s) (st_b (h.2.1 (s + 4))) a n then 1 else 0, h) := by
  simp only [r_St_isReadable, jlE]
  exact st_rd k ha ja_fu 0 (by omega) (by rw [ja_fu_eq]; omega)
theorem st_keep {o i : Nat} (k : st_ok h s) (hi : i < 64) (ho : h.1[o]? = some (.inl 7)) (hd : o < s ∨ s + 4 < o) : r_St_keep (st_w h s V B) s (nI (16 + i)) o = some (st_w h s (pu_f V (16 + i) (jv_v h o)) (pu_f B i 255)) := by
  have kk : ∀ V B, st_ok (st_w h s V B) s := fun _ _ => k
  have e : nI (16 + i) - 16 = nI i := by
    have := jn_sub (a := 16 + i) (b := 16) (by omega)
    rw [show 16 + i - 16 = i by omega] at this
    exact this
  simp only [r_St_keep, jkE (kk _ _).1, st_save k (show 16 + i < 80 by omega) ho hd, jcV, st_R3 (kk _ _), e, st_W3 k hi]
def pb_V (V : Nat → pv_T) (a : Nat) : Nat → pv_T := pu_f V (16 + a / 8) (0, 0, 0)
def pb_B (V : Nat → pv_T) (B : Nat → Int32) (a : Nat) : Nat → Int32 := pu_f B (a / 8) ((if pn_ptr (V (16 + a / 8)) = 0 then B (a / 8) else 0) ||| (1 <<< (nI (a % 8) &&& 31)))
def pb_st (V : Nat → pv_T) (B : Nat → Int32) (a : Nat) : Nat → (Nat → pv_T) × (Nat → Int32)
  | 0 => (V, B)
  | n + 1 => pb_st (pb_V V a) (pb_B V B a) (a + 1) n
theorem st_st (k : st_ok h s) {a n : Nat} (ha : a + n ≤ 512) : ∀ (m j : Nat) (V : Nat → pv_T) (B : Nat → Int32), j ≤ n → n - j < m → r_St_store_2 m (st_w h s V B) s (nI a) (nI n) (nI (a + j)) = some (st_w h s (pb_st V B (a + j) (n - j)).1 (pb_st V B (a + j) (n - j)).2) := by
  intro m
  induction m with
  | zero => intro j _ _ _ ht; omega
  | succ m ih =>
    intro j V B hj ht
    show q_St_store_2 (r_St_store_2 m) (st_w h s V B) s (nI a) (nI n) (nI (a + j)) = _
    have kk : ∀ V B, st_ok (st_w h s V B) s := fun _ _ => k
    have e1 : (nI (a + n) ≤ nI (a + j)) = (a + n ≤ a + j) := propext (jn_le (by omega) (by omega))
    have e2 : ((512 : Int32) ≤ nI (a + j)) = (512 ≤ a + j) := propext (jn_le (a := 512) (by omega) (by omega))
    simp only [q_St_store_2, jn_add, e1, e2, if_neg (jn_neg (show a + j < 2147483648 by omega))]
    by_cases h1 : a + n ≤ a + j
    · rw [if_pos h1, show n - j = 0 by omega]
      rfl
    · have hj' : j < n := by omega
      have e3 : (16 : Int32) + nI ((a + j) / 8) = nI (16 + (a + j) / 8) := jn_add 16 _
      have i1 : (a + j) / 8 < 64 := by omega
      have i2 : 16 + (a + j) / 8 < 80 := by omega
      rw [if_neg h1, if_neg (show ¬ 512 ≤ a + j by omega), show n - j = (n - (j + 1)) + 1 by omega]
      have e4 : nI (a + j) - nI ((a + j) / 8) * 8 = nI ((a + j) % 8) := by
        rw [← jn_div8 (by omega)]
        exact jn_mod8 (by omega)
      have el : r_St_loseKept (st_w h s V B) s (nI ((a + j) / 8)) = some (st_w h s (pb_V V (a + j)) (if pn_ptr (V (16 + (a + j) / 8)) = 0 then B else pu_f B ((a + j) / 8) 0)) := by
        simp only [r_St_loseKept, r_St_loseKept_18, jkE (kk _ _).1, e3, st_pts (kk _ _) i2, st_wc, jcI, st_clear k i2, jcV, st_R3 (kk _ _), st_W3 k i1, pb_V]
        split <;> rfl
      simp only [jz8, jkE (kk _ _).1, jn_div8 (show a + j < 2147483648 by omega), el, jcV, st_R3 (kk _ _), st_E3 (kk _ _) i1, st_wb, st_W3 k i1, r_St_store_46, jlE, lq_ad1, e4]
      have e5 : pu_f (if pn_ptr (V (16 + (a + j) / 8)) = 0 then B else pu_f B ((a + j) / 8) 0) ((a + j) / 8) ((if pn_ptr (V (16 + (a + j) / 8)) = 0 then B else pu_f B ((a + j) / 8) 0) ((a + j) / 8) ||| (1 <<< (nI ((a + j) % 8) &&& 31))) = pb_B V B (a + j) := by
        unfold pb_B
        split
        · rfl
        · rw [pu_up, pu_at]
      rw [e5]
      exact ih (j + 1) (pb_V V (a + j)) (pb_B V B (a + j)) (by omega) (by omega)
theorem st_store (k : st_ok h s) {a n : Nat} (ha : a + n ≤ 512) : r_St_store (st_w h s V B) s (nI a) (nI n) = some (st_w h s (pb_st V B a n).1 (pb_st V B a n).2) := by
  simp only [r_St_store, jlE]
  exact st_st k ha ja_fu 0 V B (by omega) (by rw [ja_fu_eq]; omega)
end SV
