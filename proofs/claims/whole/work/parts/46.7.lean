section C2
variable {h f : ja_H} {J : jS} {σ : sg_S} {g C : Nat → Int32} {L R q : Int32 × Int64} {a s d c k m : Nat} {v X Y z : Int64} {len : Int32}
def vs_r (g : Nat → Int32) (m : Nat) (J : jS) (R : Int32 × Int64) : Prop := (R.1 = 2 ∧ (0 ≤ R.2.toInt + (g 3).toInt ∧ R.2.toInt + (g 3).toInt + ((pw_size g).toNatClampNeg : Int) ≤ m) ∨ R.1 = 3 ∧ 0 ≤ R.2.toInt + (g 3).toInt + 512 ∧ jat g R + (pw_size g).toNatClampNeg ≤ 512 ∧ ((pw_size g = 8 ∧ jat g R % 8 = 0 ∧ ¬ (J.2.1 (jat g R / 8)).1 = 0) ∨ ∀ i, i < (pw_size g).toNatClampNeg → J.2.2.2 (jat g R + i) = true ∧ (J.2.1 ((jat g R + i) / 8)).1 = 0))
def vs_s (g : Nat → Int32) (L R : Int32 × Int64) : Prop := L.1 = 3 ∧ 0 ≤ L.2.toInt + (g 3).toInt + 512 ∧ jat g L + (pw_size g).toNatClampNeg ≤ 512 ∧ (R.1 = 1 ∨ (g 5 = 5 ∧ pw_size g = 8 ∧ jat g L % 8 = 0 ∧ (R.1 = 2 ∨ R.1 = 3)))
def vs (g : Nat → Int32) (m : Nat) (J : jS) : Prop := (¬ pw_usesOldD g = 0 → (jl_v g J).1 ≠ 0) ∧ (jr_v g J).1 ≠ 0 ∧ (g 5 = 1 → (∀ A, (g 6 ≠ 11 → A = jN (jl_v g J)) → ar_reck (g 0) A (jN (jr_v g J)) = jN (jar g (jl_v g J) (jr_v g J))) ∧ (jar g (jl_v g J) (jr_v g J)).1 ≠ 0) ∧ (g 5 = 2 → (jl_v g J).1 = 1 ∧ (jr_v g J).1 = 1) ∧ (g 5 = 3 → vs_r g m J (jr_v g J)) ∧ (g 5 = 4 ∨ g 5 = 5 → vs_s g (jl_v g J) (jr_v g J)) ∧ (g 5 = 8 → (J.1 0).1 = 1)
theorem sg_to0 {k : Nat} {q : Int32 × sg_S} (e : (sg_to k q).1 = 0) : q.1 = 0 := by
  unfold sg_to at e
  by_cases y : q.1 = 0
  · exact y
  · rw [if_neg y] at e
    exact e
theorem vs_of (w : gw g) (g6 : g 6 = g 0 >>> (4 &&& 31)) (ok : sg_ok σ) (jo : jok J) (hm : m ≤ 256) (hJ : sJ J σ) (c0 : (sg_one g z (nI m) k σ).1 = 0) : vs g m J := by
  have lm : (nI m).toInt = m := jn_int (by omega)
  rw [sg_one_e] at c0
  by_cases n1 : ¬ pw_usesOldD g = 0 ∧ (sg_l g σ).1 = 0
  · rw [if_pos n1] at c0
    exact absurd c0 (show ¬ (6 : Int32) = 0 by decide)
  rw [if_neg n1] at c0
  by_cases n2 : ¬ pw_usesS g = 0 ∧ (sg_r g σ).1 = 0
  · rw [if_pos n2] at c0
    exact absurd c0 (show ¬ (6 : Int32) = 0 by decide)
  rw [if_neg n2] at c0
  have r0 : (sg_r g σ).1 ≠ 0 := by
    by_cases q : pw_usesS g = 0
    · unfold sg_r
      rw [if_pos q]
      exact i10
    · exact fun y => n2 ⟨q, y⟩
  have l0 : ¬ pw_usesOldD g = 0 → (sg_l g σ).1 ≠ 0 := fun q y => n1 ⟨q, y⟩
  have hl := sv_l w hJ
  have hr := sv_r w hJ
  have hr' := hr.resolve_left r0
  have lo := sg_l_ok w ok
  have ro := sg_r_ok w ok
  unfold sg_65 at c0
  refine ⟨fun q => ?_, ?_, fun s1 => ?_, fun s2 => ?_, fun s3 => ?_, fun s45 => ?_, fun s8 => ?_⟩
  · rw [← (hl.resolve_left (l0 q)).1]
    exact l0 q
  · rw [← hr'.1]
    exact r0
  · rw [if_pos s1] at c0
    have c1 := sg_to0 c0
    rw [sg_gd_1] at c1
    have u : g 6 ≠ 11 → (sg_l g σ).1 ≠ 0 := fun e => l0 (by rw [pw_u1 s1 e]; exact i10)
    exact ⟨fun A hA => (jar_N (w.2.2.2.1 s1) g6 lo ro u r0 hl hr c1 A hA).1, (jar_N (w.2.2.2.1 s1) g6 lo ro u r0 hl hr c1 (jN (jl_v g J)) (fun _ => rfl)).2⟩
  · rw [if_neg (by rw [s2]; decide), if_pos s2] at c0
    unfold sg_cnd at c0
    have u := l0 (by rw [pw_u2 s2]; exact i10)
    by_cases p1 : pn_ptr (sg_l g σ) = 0
    · rw [if_pos p1] at c0
      by_cases p2 : pn_ptr (sg_r g σ) = 0
      · exact ⟨(hl.resolve_left u).1.symm.trans (pp_n lo u p1), hr'.1.symm.trans (pp_n ro r0 p2)⟩
      · rw [if_neg p2] at c0
        exact absurd c0 (show ¬ (8 : Int32) = 0 by decide)
    · rw [if_neg p1] at c0
      exact absurd c0 (show ¬ (8 : Int32) = 0 by decide)
  · rw [if_neg (by rw [s3]; decide), if_neg (by rw [s3]; decide), if_pos s3] at c0
    have c1 := sg_to0 c0
    rw [sg_gd_1] at c1
    have q := (rd_s (C := fun _ => 0) w ok hJ jo (fun _ => by decide) (by simp (decide := true) only [pw_stores, s3, reduceIte]) (by rw [lm]; omega) r0 c1).2
    rw [lm] at q
    exact q
  · have st : pw_stores g = 1 := by
      rcases s45 with q | q <;> simp (decide := true) only [pw_stores, q, reduceIte]
    have uo : pw_usesOldD g = 1 := by
      unfold pw_usesOldD
      rw [st, if_neg i10]
    have c1 : (sg_stv g (nI m) σ).1 = 0 := by
      rcases s45 with q | q
      · rw [if_neg (by rw [q]; decide), if_neg (by rw [q]; decide), if_neg (by rw [q]; decide), if_pos q] at c0
        exact sg_to0 c0
      · rw [if_neg (by rw [q]; decide), if_neg (by rw [q]; decide), if_neg (by rw [q]; decide), if_neg (by rw [q]; decide), if_pos q] at c0
        exact sg_to0 c0
    exact (stv_s w ok hJ (by rw [st]; exact i10) (l0 (by rw [uo]; exact i10)) r0 c1).2
  · rw [if_neg (by rw [s8]; decide), if_neg (by rw [s8]; decide), if_neg (by rw [s8]; decide), if_neg (by rw [s8]; decide), if_neg (by rw [s8]; decide), if_neg (by rw [s8]; decide), if_neg (by rw [s8]; decide)] at c0
    by_cases e : (σ.1 0).1 = 1
    · rcases hJ.1 0 (by decide) with y | y
      · rw [e] at y
        exact absurd y i10
      · rw [← y.1]
        exact e
    · have c2 : (if (σ.1 0).1 = 1 then (0 : Int32) else 14) = 0 := c0
      rw [if_neg e] at c2
      exact absurd c2 (by decide)
theorem ad_st (R3 : R.1 = 3) (o : -32768 ≤ (g 3).toInt ∧ (g 3).toInt ≤ 32767) (l0 : 0 ≤ R.2.toInt + (g 3).toInt + 512) (h5 : jat g R ≤ 512) : (jN R + (g 3).toInt64).toInt = 2199023255552 + (jat g R : Nat) := by
  have k := k41
  have e : jN R = R.2 + 2199023256064 := by
    unfold jN
    rw [if_neg (by rw [R3]; decide), if_pos R3]
  have e1 := ai_of32 (g 3)
  unfold jat at h5 ⊢
  have a1 := ai_add (x := R.2) (y := 2199023256064) (by omega) (by omega)
  rw [e, ai_add (by omega) (by omega), a1]
  omega
theorem ad_cx (R2 : R.1 = 2) (o : -32768 ≤ (g 3).toInt ∧ (g 3).toInt ≤ 32767) (l0 : 0 ≤ R.2.toInt + (g 3).toInt) (h5 : R.2.toInt + (g 3).toInt ≤ 256) : (jN R + (g 3).toInt64).toInt = 1099511627776 + (jct g R : Nat) := by
  have k := k41
  have e : jN R = R.2 + 1099511627776 := if_pos R2
  have e1 := ai_of32 (g 3)
  unfold jct
  have a1 := ai_add (x := R.2) (y := 1099511627776) (by omega) (by omega)
  rw [e, ai_add (by omega) (by omega), a1]
  omega
theorem oc_c (x : Int32) : (x &&& 255).toNatClampNeg < 256 := by
  obtain ⟨v, h1, h2⟩ := oc_n x
  rw [h2, jn_clamp (by omega)]
  exact h1
theorem jN_k1 {x : Int64} : jN (1, x) = x := jN_1 rfl
theorem ma_read (b : jv_B h) (cr : cR h J) (w : gw g) (jo : jok J) (hm : m ≤ 256) (e3 : h.2.1 3 1 = nI m) (hC : ∀ i, C i = h.2.1 4 i &&& 255) (V : vs_r g m J R) : r_Ma_read h 19 (jN R + (g 3).toInt64) (pw_size g) 3 = some (jN (jrd g C J R), h) ∧ (jrd g C J R).1 ≠ 0 := by
  obtain ⟨s, hs, hs2⟩ := pw_size_n g
  have sc : (pw_size g).toNatClampNeg = s := by rw [hs, jn_clamp (by omega)]
  have o := w.2.2.1
  unfold vs_r at V
  unfold jrd
  rw [sc] at V ⊢
  rcases V with ⟨R2, V1, V2⟩ | ⟨R3, V1, V2, V3⟩
  · rw [if_pos R2, jN_k1, hs]
    refine ⟨?_, i10⟩
    have ad := ad_cx R2 o V1 (by omega)
    have ct : jct g R + s ≤ m := by
      unfold jct
      omega
    refine rd_all b (by omega) (by omega) (fun j => by rw [hC]; exact oc_c _) (fun i hi => ⟨by rw [hC]; exact oc_n _, ?_⟩)
    have ei : (Int32.toInt64 (nI i)).toInt = i := by rw [ai_of32, jn_int (by omega)]
    rw [hC]
    refine ro_cx b hm e3 ?_ (by omega)
    rw [ai_add (by omega) (by omega)]
    omega
  · rw [if_neg (by rw [R3]; decide)]
    have ad := ad_st R3 o V1 (by omega)
    generalize jat g R = a at *
    have ex : ∀ i, i < s → (jN R + (g 3).toInt64 + Int32.toInt64 (nI i)).toInt = 2199023255552 + (a + i : Nat) := fun i hi => by
      have ei : (Int32.toInt64 (nI i)).toInt = i := by rw [ai_of32, jn_int (by omega)]
      rw [ai_add (by omega) (by omega)]
      omega
    by_cases kp : pw_size g = 8 ∧ a % 8 = 0 ∧ ¬ (J.2.1 (a / 8)).1 = 0
    · rw [if_pos kp, hs]
      have s8 : s = 8 := (jn_inj (a := s) (b := 8) (by omega) (by decide)).mp (hs.symm.trans kp.1)
      subst s8
      have oo : ∀ i, i < 8 → h.2.1 23 (a + i) = 1 ∧ h.2.1 22 (a + i) &&& 255 = jo_m (jN (J.2.1 (a / 8))) i := fun i hi => by
        have q := (cr.2.1 (a + i) (by omega)).2
        rw [show (a + i) / 8 = a / 8 by omega, show (a + i) % 8 = i by omega] at q
        exact q kp.2.2
      have e := rd_all (q := fun j => h.2.1 22 j &&& 255) (a := a) (X := jN R + (g 3).toInt64) (s := 8) b (by decide) (by decide) (fun j => oc_c _) (fun i hi => ⟨oc_n _, ro_st b hm e3 (ex i hi) (by omega) (oo i hi).1⟩)
      rw [e, n8_num (Y := jN (J.2.1 (a / 8))) (fun j hj => (oo j hj).2)]
      exact ⟨rfl, kp.2.2⟩
    · rw [if_neg kp, jN_k1, hs]
      have V4 := V3.resolve_left kp
      refine ⟨?_, i10⟩
      have oo : ∀ i, i < s → h.2.1 23 (a + i) = 1 ∧ h.2.1 22 (a + i) &&& 255 = J.2.2.1 (a + i) := fun i hi => (cr.2.1 (a + i) (by omega)).1 (V4 i hi).2 (V4 i hi).1
      refine rd_all b (by omega) (by omega) jo (fun i hi => ⟨?_, ?_⟩)
      · rw [← (oo i hi).2]
        exact oc_n _
      · rw [← (oo i hi).2]
        exact ro_st b hm e3 (ex i hi) (by omega) (oo i hi).1
theorem ma_wR (cr : cR h J) (s0 : 0 < s) (M : mw h f a 0 s (jN R)) (K : R.1 = 1 ∨ (s = 8 ∧ a % 8 = 0 ∧ (R.1 = 2 ∨ R.1 = 3))) : cR f (jso J a s R) ∧ mc_f h f := by
  obtain ⟨f1, f2, f3, f4, f5⟩ := M
  refine ⟨⟨fun c hc n0 => ?_, fun j hj => ?_, ?_⟩, f1, by rw [f2], fun x y n1 n2 n3 => f3 x y n2 n3, fun x y _ => by rw [f2]⟩
  · rw [f3 21 c (by decide) (by decide), f2]
    exact cr.1 c hc n0
  · rw [f4 j, f5 j, jso_s, jso_m, jso_h, Nat.add_zero]
    by_cases i : a ≤ j ∧ j < a + s
    · rw [if_pos i, if_pos i, if_pos i, if_pos i, if_pos (show a / 8 ≤ j / 8 ∧ j / 8 ≤ (a + s - 1) / 8 by omega)]
      rcases K with R1 | ⟨s8, a8, R2⟩
      · rw [if_pos (show R.1 < 2 by rw [R1]; exact i12), jN_1 R1]
        exact ⟨fun _ _ => ⟨rfl, rfl⟩, fun q => absurd rfl q⟩
      · rw [if_neg (n2p R2)]
        have z : R.1 ≠ 0 := by rcases R2 with q | q <;> rw [q] <;> decide
        refine ⟨fun q => absurd q z, fun _ => ⟨rfl, ?_⟩⟩
        rw [show j % 8 = j - a by omega]
    · rw [if_neg i, if_neg i, if_neg i, if_neg i]
      by_cases t : a / 8 ≤ j / 8 ∧ j / 8 ≤ (a + s - 1) / 8
      · rw [if_pos t]
        rcases K with R1 | ⟨s8, a8, R2⟩
        · rw [if_pos (show R.1 < 2 by rw [R1]; exact i12)]
          refine ⟨fun _ q => ?_, fun q => absurd rfl q⟩
          by_cases kp : (J.2.1 (j / 8)).1 = 0
          · rw [if_neg (fun y => y.2 kp)] at q
            exact (cr.2.1 j hj).1 kp q
          · rw [if_pos ⟨t, kp⟩] at q
            cases q
        · exfalso
          omega
      · rw [if_neg t, if_neg (fun y => t y.1)]
        exact cr.2.1 j hj
  · rw [f3 19 7 (by decide) (by decide)]
    exact cr.2.2
end C2
