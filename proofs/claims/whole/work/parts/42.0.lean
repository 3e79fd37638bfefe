section WD
variable {h : ja_H} {o : Nat}
theorem jfI {α : Type} {i c k : Nat} {K : Int32 → Option α} (hs : h.1[i]? = some (.inl c)) : jf_I h i c k K = K (h.2.1 i k) := if_pos hs
theorem jfL {α : Type} {i c k : Nat} {K : Int64 → Option α} (hs : h.1[i]? = some (.inl c)) : jf_L h i c k K = K (h.2.2.1 i k) := if_pos hs
theorem jkE {α : Type} {i c : Nat} {r : Option α} (hs : h.1[i]? = some (.inl c)) : jk h i c r = r := if_pos hs
theorem jpI {α : Type} {i c k : Nat} {x : Int32} {K : ja_H → Option α} (hs : h.1[i]? = some (.inl c)) : jp_I h i c k x K = K (ja_sI h i k x) := if_pos hs
theorem jpL {α : Type} {i c k : Nat} {x : Int64} {K : ja_H → Option α} (hs : h.1[i]? = some (.inl c)) : jp_L h i c k x K = K (ja_sL h i k x) := if_pos hs
theorem jfR {α : Type} {i c k r : Nat} {K : Nat → Option α} (hs : h.1[i]? = some (.inl c)) (hr : h.2.2.2.1 i k = some r) : jf_R h i c k K = K r := by
  simp only [jf_R, if_pos hs, hr, Option.bind_some]
theorem pw_ite {c : Prop} [Decidable c] {a b : Int32} : some ((if c then a else b), h) = (if c then some (a, h) else some (b, h)) := by
  split <;> rfl
theorem pw_itL {c : Prop} [Decidable c] {a b : Int64} : some ((if c then a else b), h) = (if c then some (a, h) else some (b, h)) := by
  split <;> rfl
def pw_hasReg (f : Nat → Int32) : Int32 := if f 0 &&& 8 = 0 then 0 else if f 5 = 2 then 1 else if f 5 = 1 then (if f 6 = 13 then 0 else 1) else 0
def pw_usesS (f : Nat → Int32) : Int32 := if f 5 = 3 then 1 else if f 5 = 5 then 1 else if pw_hasReg f = 0 then 0 else 1
def pw_usesD (f : Nat → Int32) : Int32 := if f 5 = 6 then 0 else if f 5 = 8 then 0 else 1
def pw_usesImm (f : Nat → Int32) : Int32 := if pw_usesS f = 0 then (if f 5 = 6 then 0 else if f 5 = 8 then 0 else 1) else 0
def pw_usesOff (f : Nat → Int32) : Int32 := if f 5 = 1 then 0 else if f 5 = 7 then 0 else if f 5 = 8 then 0 else 1
def pw_getsD (f : Nat → Int32) : Int32 := if f 5 = 1 then 1 else if f 5 = 3 then 1 else if f 5 = 7 then 1 else 0
def pw_goes (f : Nat → Int32) : Int32 := if f 5 = 6 then 1 else if f 5 = 2 then 1 else 0
def pw_words (f : Nat → Int32) : Int32 := if f 5 = 7 then 2 else 1
def pw_isOf32 (f : Nat → Int32) : Int32 := if f 0 &&& 7 = 4 then (if f 6 = 13 then 0 else 1) else 0
def pw_stores (f : Nat → Int32) : Int32 := if f 5 = 4 then 1 else if f 5 = 5 then 1 else 0
def pw_usesOldD (f : Nat → Int32) : Int32 := if pw_stores f = 0 then (if f 5 = 2 then 1 else if f 5 = 1 then (if f 6 = 11 then 0 else 1) else 0) else 1
def pw_size (f : Nat → Int32) : Int32 := if f 0 &&& 24 = 0 then 4 else if f 0 &&& 24 = 8 then 2 else if f 0 &&& 24 = 16 then 1 else 8
def pw_opp (f : Nat → Int32) : Int32 := if f 6 = 1 then 5 else if f 6 = 2 then 11 else if f 6 = 3 then 10 else if f 6 = 4 then f 6 else if f 6 = 5 then 1 else if f 6 = 6 then 13 else if f 6 = 7 then 12 else if f 6 = 8 then f 6 else if f 6 = 9 then f 6 else if f 6 = 10 then 3 else if f 6 = 11 then 2 else if f 6 = 12 then 7 else if f 6 = 13 then 6 else f 6
def pw_moves (f : Nat → Int32) : Int32 := if f 6 = 6 then 1 else if f 6 = 7 then 1 else 0
def pw_reck (f : Nat → Int32) : Int32 := if f 6 = 8 then (if f 0 &&& 8 = 0 then 1 else 0) else if f 6 = 13 then (if f 0 &&& 7 = 4 then (if f 4 = 16 then 1 else if f 4 = 32 then 1 else if f 4 = 64 then 1 else 0) else 0) else if 12 < f 6 then 0 else 1
def pw_going (f : Nat → Int32) : Int32 := if f 0 = 5 then 6 else if f 0 = 149 then 8 else if f 6 < 1 then (if f 6 < 10 then 0 else if 13 < f 6 then 0 else 2) else if f 6 ≤ 7 then 2 else (if f 6 < 10 then 0 else if 13 < f 6 then 0 else 2)
def pw_sort (f : Nat → Int32) : Int32 := if f 0 &&& 7 = 0 then (if f 0 = 24 then 7 else 0) else if f 0 &&& 7 = 1 then (if pw_moves f = 0 then 0 else 3) else if f 0 &&& 7 = 2 then (if pw_moves f = 0 then 0 else 4) else if f 0 &&& 7 = 3 then (if pw_moves f = 0 then 0 else 5) else if f 0 &&& 7 = 4 then (if pw_reck f = 0 then 0 else 1) else if f 0 &&& 7 = 5 then pw_going f else if f 0 &&& 7 = 6 then pw_going f else if f 0 &&& 7 = 7 then (if pw_reck f = 0 then 0 else 1) else pw_going f
theorem w_hasReg (hs : h.1[o]? = some (.inl 4)) : r_Wo_hasRegisterOperand h o = some (pw_hasReg (h.2.1 o), h) := by
  simp only [r_Wo_hasRegisterOperand, r_Wo_hasRegisterOperand_35, r_Wo_hasRegisterOperand_39, r_Wo_hasRegisterOperand_40, jfI hs, jb0, jb1, pw_hasReg, pw_ite]
theorem w_usesS (hs : h.1[o]? = some (.inl 4)) : r_Wo_usesS h o = some (pw_usesS (h.2.1 o), h) := by
  simp only [r_Wo_usesS, r_Wo_usesS_23, r_Wo_usesS_28, jfI hs, jkE hs, w_hasReg hs, jcI, jb0, jb1, pw_usesS, pw_ite]
theorem w_usesD (hs : h.1[o]? = some (.inl 4)) : r_Wo_usesD h o = some (pw_usesD (h.2.1 o), h) := by
  simp only [r_Wo_usesD, r_Wo_usesD_22, r_Wo_usesD_23, jfI hs, jb0, jb1, pw_usesD, pw_ite]
theorem w_usesImm (hs : h.1[o]? = some (.inl 4)) : r_Wo_usesImm h o = some (pw_usesImm (h.2.1 o), h) := by
  simp only [r_Wo_usesImm, r_Wo_usesImm_29, r_Wo_usesImm_30, jfI hs, jkE hs, w_usesS hs, jcI, jb0, jb1, pw_usesImm, pw_ite]
theorem w_usesOff (hs : h.1[o]? = some (.inl 4)) : r_Wo_usesOff h o = some (pw_usesOff (h.2.1 o), h) := by
  simp only [r_Wo_usesOff, r_Wo_usesOff_30, r_Wo_usesOff_31, jfI hs, jb0, jb1, pw_usesOff, pw_ite]
theorem w_getsD (hs : h.1[o]? = some (.inl 4)) : r_Wo_getsD h o = some (pw_getsD (h.2.1 o), h) := by
  simp only [r_Wo_getsD, r_Wo_getsD_25, r_Wo_getsD_30, jfI hs, jb0, jb1, pw_getsD, pw_ite]
theorem w_goes (hs : h.1[o]? = some (.inl 4)) : r_Wo_goes h o = some (pw_goes (h.2.1 o), h) := by
  simp only [r_Wo_goes, r_Wo_goes_17, r_Wo_goes_22, jfI hs, jb0, jb1, pw_goes, pw_ite]
theorem w_words (hs : h.1[o]? = some (.inl 4)) : r_Wo_words h o = some (pw_words (h.2.1 o), h) := by
  simp only [r_Wo_words, r_Wo_words_14, jfI hs, pw_words, pw_ite]
theorem w_goalFrom {k : Int32} (hs : h.1[o]? = some (.inl 4)) : r_Wo_goalFrom h o k = some (k + 1 + h.2.1 o 3, h) := by
  simp only [r_Wo_goalFrom, jfI hs]
theorem w_isOf32 (hs : h.1[o]? = some (.inl 4)) : r_Wo_isOf32 h o = some (pw_isOf32 (h.2.1 o), h) := by
  simp only [r_Wo_isOf32, r_Wo_isOf32_24, r_Wo_isOf32_25, jfI hs, jb0, jb1, pw_isOf32, pw_ite]
theorem w_stores (hs : h.1[o]? = some (.inl 4)) : r_Wo_stores h o = some (pw_stores (h.2.1 o), h) := by
  simp only [r_Wo_stores, r_Wo_stores_16, r_Wo_stores_21, jfI hs, jb0, jb1, pw_stores, pw_ite]
theorem w_usesOldD (hs : h.1[o]? = some (.inl 4)) : r_Wo_usesOldD h o = some (pw_usesOldD (h.2.1 o), h) := by
  simp only [r_Wo_usesOldD, r_Wo_usesOldD_32, r_Wo_usesOldD_36, r_Wo_usesOldD_37, jfI hs, jkE hs, w_stores hs, jcI, jb0, jb1, pw_usesOldD, pw_ite]
theorem w_size (hs : h.1[o]? = some (.inl 4)) : r_Wo_size h o = some (pw_size (h.2.1 o), h) := by
  simp only [r_Wo_size, jfI hs, jsw, pw_size, pw_ite]
theorem w_opp (hs : h.1[o]? = some (.inl 4)) : r_Wo_opposite h o = some (pw_opp (h.2.1 o), h) := by
  simp only [r_Wo_opposite, r_Wo_opposite_98, jfI hs, jsw, pw_opp, pw_ite]
theorem w_moves (hs : h.1[o]? = some (.inl 4)) : r_Wo_movesOctets h o = some (pw_moves (h.2.1 o), h) := by
  simp only [r_Wo_movesOctets, r_Wo_movesOctets_18, r_Wo_movesOctets_23, jfI hs, jb0, jb1, pw_moves, pw_ite]
theorem w_reck (hs : h.1[o]? = some (.inl 4)) : r_Wo_reckons h o = some (pw_reck (h.2.1 o), h) := by
  simp only [r_Wo_reckons, r_Wo_reckons_24, r_Wo_reckons_72, r_Wo_reckons_76, r_Wo_reckons_77, r_Wo_reckons_92, jfI hs, jb0, jb1, pw_reck, pw_ite]
theorem w_going (hs : h.1[o]? = some (.inl 4)) : r_Wo_findSortOfGoing h o = some (pw_going (h.2.1 o), h) := by
  simp only [r_Wo_findSortOfGoing, r_Wo_findSortOfGoing_41, r_Wo_findSortOfGoing_59, r_Wo_findSortOfGoing_63, r_Wo_findSortOfGoing_64, r_Wo_findSortOfGoing_74, jfI hs, jlE, if_true, if_neg i10, pw_going, pw_ite]
theorem w_sort (hs : h.1[o]? = some (.inl 4)) : r_Wo_findSort h o = some (pw_sort (h.2.1 o), h) := by
  simp only [r_Wo_findSort, r_Wo_findSort_67, r_Wo_findSort_80, r_Wo_findSort_93, r_Wo_findSort_106, r_Wo_findSort_107, r_Wo_findSort_119, r_Wo_findSort_120, jfI hs, jkE hs, w_moves hs, w_reck hs, w_going hs, jcI, jsw, pw_sort, pw_ite]
theorem w_wide {z : Int64} (hs : h.1[o]? = some (.inl 4)) : r_Wo_wideNumber h o z = some (((UInt64.toInt64 (Int64.toUInt64 z >>> (Int64.toUInt64 (Int32.toInt64 32) &&& Int64.toUInt64 63))) <<< (Int32.toInt64 32 &&& 63)) ||| ((Int32.toInt64 (h.2.1 o 4)) &&& 4294967295), h) := by
  simp only [r_Wo_wideNumber, jfI hs]
def jw_op (w : Int64) : Int32 := (Int64.toInt32 w) &&& 255
def jw_sh (w : Int64) (n : Int32) : Int32 := Int64.toInt32 (UInt64.toInt64 (Int64.toUInt64 w >>> (Int64.toUInt64 (Int32.toInt64 n) &&& Int64.toUInt64 63)))
def jw_d (w : Int64) : Int32 := jw_sh w 8 &&& 15
def jw_s (w : Int64) : Int32 := jw_sh w 12 &&& 15
def jw_off (w : Int64) : Int32 := Int16.toInt32 (Int32.toInt16 (jw_sh w 16))
def jw_imm (w : Int64) : Int32 := jw_sh w 32
def jw_kind (w : Int64) : Int32 := jw_op w >>> (4 &&& 31)
def jw_g (w : Int64) : Nat → Int32 := fun b => if b = 0 then jw_op w else if b = 1 then jw_d w else if b = 2 then jw_s w else if b = 3 then jw_off w else if b = 4 then jw_imm w else if b = 6 then jw_kind w else 0
def jw_sort (w : Int64) : Int32 := pw_sort (jw_g w)
def jw_f (w : Int64) : Nat → Int32 := fun b => if b = 5 then jw_sort w else jw_g w b
def jw_t (h : ja_H) (o : Nat) (w : Int64) : ja_H := ja_oI h o (fun b => if b < 7 then jw_f w b else h.2.1 o b)
def pw_s3 (x y z : Int32) : Int32 := pw_sort (fun b => if b = 0 then x else if b = 4 then y else z)
theorem pw_sort3 (f : Nat → Int32) : pw_sort f = pw_s3 (f 0) (f 4) (f 6) := rfl
theorem pw_sort_congr {f g : Nat → Int32} (h0 : f 0 = g 0) (h4 : f 4 = g 4) (h6 : f 6 = g 6) : pw_sort f = pw_sort g := by
  rw [pw_sort3 f, pw_sort3 g, h0, h4, h6]
theorem w_take {w : Int64} (hs : h.1[o]? = some (.inl 4)) : r_Wo_take h o w = some (jw_t h o w) := by
  have s1 : ∀ {g : ja_H} {k : Nat} {x : Int32}, g.1[o]? = some (.inl 4) → (ja_sI g o k x).1[o]? = some (.inl 4) := fun q => q
  have e0 := s1 (k := 0) (x := jw_op w) hs
  have e1 := s1 (k := 1) (x := jw_d w) e0
  have e2 := s1 (k := 2) (x := jw_s w) e1
  have e3 := s1 (k := 3) (x := jw_off w) e2
  have e4 := s1 (k := 4) (x := jw_imm w) e3
  have e6 := s1 (k := 6) (x := jw_kind w) e4
  have r0 : (ja_sI (ja_sI (ja_sI (ja_sI (ja_sI h o 0 (jw_op w)) o 1 (jw_d w)) o 2 (jw_s w)) o 3 (jw_off w)) o 4 (jw_imm w)).2.1 o 0 = jw_op w := by
    simp [ja_rI]
  have hsort : pw_sort ((ja_sI (ja_sI (ja_sI (ja_sI (ja_sI (ja_sI h o 0 (jw_op w)) o 1 (jw_d w)) o 2 (jw_s w)) o 3 (jw_off w)) o 4 (jw_imm w)) o 6 (jw_kind w)).2.1 o) = jw_sort w := by
    refine pw_sort_congr ?_ ?_ ?_ <;> simp [ja_rI, jw_g]
  have step : r_Wo_take h o w = some (ja_sI (ja_sI (ja_sI (ja_sI (ja_sI (ja_sI (ja_sI h o 0 (jw_op w)) o 1 (jw_d w)) o 2 (jw_s w)) o 3 (jw_off w)) o 4 (jw_imm w)) o 6 (jw_kind w)) o 5 (jw_sort w)) := by
    unfold r_Wo_take
    rw [jpI hs]
    show jp_I (ja_sI h o 0 (jw_op w)) o 4 1 (jw_d w) _ = _
    rw [jpI e0]
    show jp_I _ o 4 2 (jw_s w) _ = _
    rw [jpI e1]
    show jp_I _ o 4 3 (jw_off w) _ = _
    rw [jpI e2]
    show jp_I _ o 4 4 (jw_imm w) _ = _
    rw [jpI e3, jfI e4, r0]
    show jp_I _ o 4 6 (jw_kind w) _ = _
    rw [jpI e4, jkE e6, w_sort e6, jcI, jpI e6, hsort]
  rw [step]
  simp only [jw_t, ja_sI_o (h := h), ja_oI_sI]
  congr 2
  funext b
  simp only [jw_f, jw_g]
  by_cases b0 : b = 0
  · simp [b0]
  by_cases b1 : b = 1
  · simp [b1]
  by_cases b2 : b = 2
  · simp [b2]
  by_cases b3 : b = 3
  · simp [b3]
  by_cases b4 : b = 4
  · simp [b4]
  by_cases b5 : b = 5
  · simp [b5]
  by_cases b6 : b = 6
  · simp [b6]
  have b7 : ¬ b < 7 := by omega
  simp [b0, b1, b2, b3, b4, b5, b6, b7]
end WD
