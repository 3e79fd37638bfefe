noncomputable def r_Fo_isGoal_33 (h : ja_H) (z0 : Int32) : Option (Int32 × ja_H) := (jb z0 (some (z0, h)))
theorem t_Fo_isGoal_33 {h : ja_H} {z0 : Int32} : ja_D ja_gI M_Fo_isGoal 33 [none, none, none] [.int z0] h (r_Fo_isGoal_33 h z0) := by
  unfold r_Fo_isGoal_33
  exact jd_zreturn i_Fo_isGoal_33 rfl
noncomputable def r_Fo_isGoal_32 (h : ja_H) : Option (Int32 × ja_H) := (r_Fo_isGoal_33 h (0 : Int32))
theorem t_Fo_isGoal_32 {h : ja_H} : ja_D ja_gI M_Fo_isGoal 32 [none, none, none] [] h (r_Fo_isGoal_32 h) := by
  unfold r_Fo_isGoal_32
  refine jd_iconst 0 i_Fo_isGoal_32 (by decide) ?_
  exact jd_less (t_Fo_isGoal_33) trivial
noncomputable def r_Fo_isGoal (h : ja_H) (a0 : Nat) (a1 : Nat) (a2 : Int32) : Option (Int32 × ja_H) := (if a2 < (0 : Int32) then (r_Fo_isGoal_32 h) else (jf_I h a1 1 1 (fun v101 => (if v101 ≤ a2 then (r_Fo_isGoal_32 h) else (if (1024 : Int32) ≤ a2 then (r_Fo_isGoal_32 h) else (jf_R h a0 3 0 (fun a102 => (je_I h a102 2 a2 (fun v103 => (if v103 = (0 : Int32) then (r_Fo_isGoal_33 h (1 : Int32)) else (r_Fo_isGoal_32 h)))))))))))
theorem e_Fo_isGoal {h : ja_H} {a0 : Nat} {a1 : Nat} {a2 : Int32} : ja_D ja_gI M_Fo_isGoal 0 [some (.ref a0), some (.ref a1), some (.int a2)] [] h (r_Fo_isGoal h a0 a1 a2) := by
  unfold r_Fo_isGoal
  refine jd_iload_n i_Fo_isGoal_0 rfl ?_
  refine jd_if_lt 32 i_Fo_isGoal_1 (by decide) ?_ ?_
  · exact jd_less (t_Fo_isGoal_32) trivial
  · refine jd_iload_n i_Fo_isGoal_4 rfl ?_
    refine jd_aload_n i_Fo_isGoal_5 rfl ?_
    refine jd_getI F_Fo_30 i_Fo_isGoal_6 (fun v101 => ?_)
    refine jd_icmp_ge 32 i_Fo_isGoal_9 (by decide) ?_ ?_
    · exact jd_less (t_Fo_isGoal_32) trivial
    · refine jd_iload_n i_Fo_isGoal_12 rfl ?_
      refine jd_sipush 1024 i_Fo_isGoal_13 (by decide) ?_
      refine jd_icmp_ge 32 i_Fo_isGoal_16 (by decide) ?_ ?_
      · exact jd_less (t_Fo_isGoal_32) trivial
      · refine jd_aload_n i_Fo_isGoal_19 rfl ?_
        refine jd_getR F_Fo_9 i_Fo_isGoal_20 (fun a102 => ?_)
        refine jd_iload_n i_Fo_isGoal_23 rfl ?_
        refine jd_zald i_Fo_isGoal_24 (fun v103 => ?_)
        refine jd_if_ne 32 i_Fo_isGoal_25 (by decide) ?_ ?_
        · exact jd_less (t_Fo_isGoal_32) trivial
        · refine jd_iconst 1 i_Fo_isGoal_28 (by decide) ?_
          refine jd_goto 33 i_Fo_isGoal_29 (by decide) ?_
          exact jd_less (t_Fo_isGoal_33) trivial
theorem c_Fo_isGoal {h : ja_H} {a0 : Nat} {a1 : Nat} {a2 : Int32} {o : Int32 × ja_H} (e : r_Fo_isGoal h a0 a1 a2 = some o) : ja_M (0, 0) y_Fo_isGoal b_Fo_isGoal 3 (some .boolean) [.ref a0, .ref a1, .int a2] h [.int o.1] o.2 := jc_of (g := ja_gI) false _ e e_Fo_isGoal rfl (by decide +kernel) (fun q => nomatch q) (Nat.le_of_ble_eq_true rfl) (fun _ q => nomatch q) (Nat.le_of_ble_eq_true rfl)
noncomputable def r_Wo_getsD_30 (h : ja_H) (z0 : Int32) : Option (Int32 × ja_H) := (jb z0 (some (z0, h)))
theorem t_Wo_getsD_30 {h : ja_H} {z0 : Int32} : ja_D ja_gI M_Wo_getsD 30 [none] [.int z0] h (r_Wo_getsD_30 h z0) := by
  unfold r_Wo_getsD_30
  exact jd_zreturn i_Wo_getsD_30 rfl
noncomputable def r_Wo_getsD_25 (h : ja_H) : Option (Int32 × ja_H) := (r_Wo_getsD_30 h (1 : Int32))
theorem t_Wo_getsD_25 {h : ja_H} : ja_D ja_gI M_Wo_getsD 25 [none] [] h (r_Wo_getsD_25 h) := by
  unfold r_Wo_getsD_25
  refine jd_iconst 1 i_Wo_getsD_25 (by decide) ?_
  refine jd_goto 30 i_Wo_getsD_26 (by decide) ?_
  exact jd_less (t_Wo_getsD_30) trivial
noncomputable def r_Wo_getsD (h : ja_H) (a0 : Nat) : Option (Int32 × ja_H) := (jf_I h a0 4 5 (fun v101 => (if v101 = (1 : Int32) then (r_Wo_getsD_25 h) else (jf_I h a0 4 5 (fun v102 => (if v102 = (3 : Int32) then (r_Wo_getsD_25 h) else (jf_I h a0 4 5 (fun v103 => (if v103 = (7 : Int32) then (r_Wo_getsD_25 h) else (r_Wo_getsD_30 h (0 : Int32)))))))))))
theorem e_Wo_getsD {h : ja_H} {a0 : Nat} : ja_D ja_gI M_Wo_getsD 0 [some (.ref a0)] [] h (r_Wo_getsD h a0) := by
  unfold r_Wo_getsD
  refine jd_aload_n i_Wo_getsD_0 rfl ?_
  refine jd_getI F_Wo_34 i_Wo_getsD_1 (fun v101 => ?_)
  refine jd_iconst 1 i_Wo_getsD_4 (by decide) ?_
  refine jd_icmp_eq 25 i_Wo_getsD_5 (by decide) ?_ ?_
  · exact jd_less (t_Wo_getsD_25) trivial
  · refine jd_aload_n i_Wo_getsD_8 rfl ?_
    refine jd_getI F_Wo_34 i_Wo_getsD_9 (fun v102 => ?_)
    refine jd_iconst 3 i_Wo_getsD_12 (by decide) ?_
    refine jd_icmp_eq 25 i_Wo_getsD_13 (by decide) ?_ ?_
    · exact jd_less (t_Wo_getsD_25) trivial
    · refine jd_aload_n i_Wo_getsD_16 rfl ?_
      refine jd_getI F_Wo_34 i_Wo_getsD_17 (fun v103 => ?_)
      refine jd_bipush 7 i_Wo_getsD_20 (by decide) ?_
      refine jd_icmp_ne 29 i_Wo_getsD_22 (by decide) ?_ ?_
      · refine jd_iconst 0 i_Wo_getsD_29 (by decide) ?_
        exact jd_less (t_Wo_getsD_30) trivial
      · exact jd_less (t_Wo_getsD_25) trivial
theorem c_Wo_getsD {h : ja_H} {a0 : Nat} {o : Int32 × ja_H} (e : r_Wo_getsD h a0 = some o) : ja_M (0, 0) y_Wo_getsD b_Wo_getsD 1 (some .boolean) [.ref a0] h [.int o.1] o.2 := jc_of (g := ja_gI) false _ e e_Wo_getsD rfl (by decide +kernel) (fun q => nomatch q) (Nat.le_of_ble_eq_true rfl) (fun _ q => nomatch q) (Nat.le_of_ble_eq_true rfl)
noncomputable def r_Wo_goalFrom (h : ja_H) (a0 : Nat) (a1 : Int32) : Option (Int32 × ja_H) := (jf_I h a0 4 3 (fun v101 => (some (((a1 + (1 : Int32)) + v101), h))))
theorem e_Wo_goalFrom {h : ja_H} {a0 : Nat} {a1 : Int32} : ja_D ja_gI M_Wo_goalFrom 0 [some (.ref a0), some (.int a1)] [] h (r_Wo_goalFrom h a0 a1) := by
  unfold r_Wo_goalFrom
  refine jd_iload_n i_Wo_goalFrom_0 rfl ?_
  refine jd_iconst 1 i_Wo_goalFrom_1 (by decide) ?_
  refine jd_iadd i_Wo_goalFrom_2 ?_
  refine jd_aload_n i_Wo_goalFrom_3 rfl ?_
  refine jd_getI F_Wo_21 i_Wo_goalFrom_4 (fun v101 => ?_)
  refine jd_iadd i_Wo_goalFrom_7 ?_
  exact jd_ireturn i_Wo_goalFrom_8 rfl
theorem c_Wo_goalFrom {h : ja_H} {a0 : Nat} {a1 : Int32} {o : Int32 × ja_H} (e : r_Wo_goalFrom h a0 a1 = some o) : ja_M (0, 0) y_Wo_goalFrom b_Wo_goalFrom 2 (some .int) [.ref a0, .int a1] h [.int o.1] o.2 := jc_of (g := ja_gI) false _ e e_Wo_goalFrom rfl (by decide +kernel) (fun q => nomatch q) (Nat.le_of_ble_eq_true rfl) (fun _ q => nomatch q) (Nat.le_of_ble_eq_true rfl)
noncomputable def r_Wo_goes_22 (h : ja_H) (z0 : Int32) : Option (Int32 × ja_H) := (jb z0 (some (z0, h)))
theorem t_Wo_goes_22 {h : ja_H} {z0 : Int32} : ja_D ja_gI M_Wo_goes 22 [none] [.int z0] h (r_Wo_goes_22 h z0) := by
  unfold r_Wo_goes_22
  exact jd_zreturn i_Wo_goes_22 rfl
noncomputable def r_Wo_goes_17 (h : ja_H) : Option (Int32 × ja_H) := (r_Wo_goes_22 h (1 : Int32))
theorem t_Wo_goes_17 {h : ja_H} : ja_D ja_gI M_Wo_goes 17 [none] [] h (r_Wo_goes_17 h) := by
  unfold r_Wo_goes_17
  refine jd_iconst 1 i_Wo_goes_17 (by decide) ?_
  refine jd_goto 22 i_Wo_goes_18 (by decide) ?_
  exact jd_less (t_Wo_goes_22) trivial
noncomputable def r_Wo_goes (h : ja_H) (a0 : Nat) : Option (Int32 × ja_H) := (jf_I h a0 4 5 (fun v101 => (if v101 = (6 : Int32) then (r_Wo_goes_17 h) else (jf_I h a0 4 5 (fun v102 => (if v102 = (2 : Int32) then (r_Wo_goes_17 h) else (r_Wo_goes_22 h (0 : Int32))))))))
theorem e_Wo_goes {h : ja_H} {a0 : Nat} : ja_D ja_gI M_Wo_goes 0 [some (.ref a0)] [] h (r_Wo_goes h a0) := by
  unfold r_Wo_goes
  refine jd_aload_n i_Wo_goes_0 rfl ?_
  refine jd_getI F_Wo_34 i_Wo_goes_1 (fun v101 => ?_)
  refine jd_bipush 6 i_Wo_goes_4 (by decide) ?_
  refine jd_icmp_eq 17 i_Wo_goes_6 (by decide) ?_ ?_
  · exact jd_less (t_Wo_goes_17) trivial
  · refine jd_aload_n i_Wo_goes_9 rfl ?_
    refine jd_getI F_Wo_34 i_Wo_goes_10 (fun v102 => ?_)
    refine jd_iconst 2 i_Wo_goes_13 (by decide) ?_
    refine jd_icmp_ne 21 i_Wo_goes_14 (by decide) ?_ ?_
    · refine jd_iconst 0 i_Wo_goes_21 (by decide) ?_
      exact jd_less (t_Wo_goes_22) trivial
    · exact jd_less (t_Wo_goes_17) trivial
theorem c_Wo_goes {h : ja_H} {a0 : Nat} {o : Int32 × ja_H} (e : r_Wo_goes h a0 = some o) : ja_M (0, 0) y_Wo_goes b_Wo_goes 1 (some .boolean) [.ref a0] h [.int o.1] o.2 := jc_of (g := ja_gI) false _ e e_Wo_goes rfl (by decide +kernel) (fun q => nomatch q) (Nat.le_of_ble_eq_true rfl) (fun _ q => nomatch q) (Nat.le_of_ble_eq_true rfl)
noncomputable def r_Wo_words_14 (h : ja_H) (z0 : Int32) : Option (Int32 × ja_H) := (some (z0, h))
theorem t_Wo_words_14 {h : ja_H} {z0 : Int32} : ja_D ja_gI M_Wo_words 14 [none] [.int z0] h (r_Wo_words_14 h z0) := by
  unfold r_Wo_words_14
  exact jd_ireturn i_Wo_words_14 rfl
noncomputable def r_Wo_words (h : ja_H) (a0 : Nat) : Option (Int32 × ja_H) := (jf_I h a0 4 5 (fun v101 => (if v101 = (7 : Int32) then (r_Wo_words_14 h (2 : Int32)) else (r_Wo_words_14 h (1 : Int32)))))
theorem e_Wo_words {h : ja_H} {a0 : Nat} : ja_D ja_gI M_Wo_words 0 [some (.ref a0)] [] h (r_Wo_words h a0) := by
  unfold r_Wo_words
  refine jd_aload_n i_Wo_words_0 rfl ?_
  refine jd_getI F_Wo_34 i_Wo_words_1 (fun v101 => ?_)
  refine jd_bipush 7 i_Wo_words_4 (by decide) ?_
  refine jd_icmp_ne 13 i_Wo_words_6 (by decide) ?_ ?_
  · refine jd_iconst 1 i_Wo_words_13 (by decide) ?_
    exact jd_less (t_Wo_words_14) trivial
  · refine jd_iconst 2 i_Wo_words_9 (by decide) ?_
    refine jd_goto 14 i_Wo_words_10 (by decide) ?_
    exact jd_less (t_Wo_words_14) trivial
theorem c_Wo_words {h : ja_H} {a0 : Nat} {o : Int32 × ja_H} (e : r_Wo_words h a0 = some o) : ja_M (0, 0) y_Wo_words b_Wo_words 1 (some .int) [.ref a0] h [.int o.1] o.2 := jc_of (g := ja_gI) false _ e e_Wo_words rfl (by decide +kernel) (fun q => nomatch q) (Nat.le_of_ble_eq_true rfl) (fun _ q => nomatch q) (Nat.le_of_ble_eq_true rfl)
noncomputable def r_Fo_examineWord_185 (h : ja_H) : Option (Int32 × ja_H) := (some ((0 : Int32), h))
theorem t_Fo_examineWord_185 {h : ja_H} : ja_D ja_gI M_Fo_examineWord 185 [none, none, none, none] [] h (r_Fo_examineWord_185 h) := by
  unfold r_Fo_examineWord_185
  refine jd_iconst 0 i_Fo_examineWord_185 (by decide) ?_
  exact jd_ireturn i_Fo_examineWord_186 rfl
noncomputable def r_Fo_examineWord_183 (h : ja_H) : Option (Int32 × ja_H) := (some ((4 : Int32), h))
theorem t_Fo_examineWord_183 {h : ja_H} : ja_D ja_gI M_Fo_examineWord 183 [none, none, none, none] [] h (r_Fo_examineWord_183 h) := by
  unfold r_Fo_examineWord_183
  refine jd_iconst 4 i_Fo_examineWord_183 (by decide) ?_
  exact jd_ireturn i_Fo_examineWord_184 rfl
noncomputable def r_Fo_examineWord_167 (h : ja_H) (y0 : Nat) (y3 : Int32) : Option (Int32 × ja_H) := (if y3 = (0 : Int32) then (r_Fo_examineWord_185 h) else (jf_R h y0 3 1 (fun a1 => (jf_I h a1 4 5 (fun v2 => (if v2 = (8 : Int32) then (r_Fo_examineWord_185 h) else (r_Fo_examineWord_183 h)))))))
theorem t_Fo_examineWord_167 {h : ja_H} {y0 : Nat} {y3 : Int32} : ja_D ja_gI M_Fo_examineWord 167 [some (.ref y0), none, none, some (.int y3)] [] h (r_Fo_examineWord_167 h y0 y3) := by
  unfold r_Fo_examineWord_167
  refine jd_iload_n i_Fo_examineWord_167 rfl ?_
  refine jd_if_eq 185 i_Fo_examineWord_168 (by decide) ?_ ?_
  · exact jd_less (t_Fo_examineWord_185) trivial
  · refine jd_aload_n i_Fo_examineWord_171 rfl ?_
    refine jd_getR F_Fo_18 i_Fo_examineWord_172 (fun a1 => ?_)
    refine jd_getI F_Fo_47 i_Fo_examineWord_175 (fun v2 => ?_)
    refine jd_bipush 8 i_Fo_examineWord_178 (by decide) ?_
    refine jd_icmp_eq 185 i_Fo_examineWord_180 (by decide) ?_ ?_
    · exact jd_less (t_Fo_examineWord_185) trivial
    · exact jd_less (t_Fo_examineWord_183) trivial
noncomputable def r_Fo_examineWord_140 (h : ja_H) (y0 : Nat) (y1 : Nat) (y2 : Int32) (z0 : Int32) : Option (Int32 × ja_H) := (jl (z0 : Int32) (fun (x1 : Int32) => (jf_R h y0 3 1 (fun a2 => (jk h a2 4 (jc_I (r_Wo_goes h a2) (fun v4 h3 => (if v4 = (0 : Int32) then (r_Fo_examineWord_167 h3 y0 x1) else (jf_R h3 y0 3 1 (fun a5 => (jk h3 a5 4 (jc_I (r_Wo_goalFrom h3 a5 y2) (fun v7 h6 => (jk h6 y0 3 (jc_I (r_Fo_isGoal h6 y0 y1 v7) (fun v9 h8 => (if v9 = (0 : Int32) then (r_Fo_examineWord_183 h8) else (r_Fo_examineWord_167 h8 y0 x1))))))))))))))))))
theorem t_Fo_examineWord_140 {h : ja_H} {y0 : Nat} {y1 : Nat} {y2 : Int32} {z0 : Int32} : ja_D ja_gI M_Fo_examineWord 140 [some (.ref y0), some (.ref y1), some (.int y2), none] [.int z0] h (r_Fo_examineWord_140 h y0 y1 y2 z0) := by
  unfold r_Fo_examineWord_140
  refine jd_istore_n (fun x1 => [some (.ref y0), some (.ref y1), some (.int y2), some (.int x1)]) i_Fo_examineWord_140 (by decide) rfl (fun _ => rfl) (fun x1 => ?_)
  refine jd_aload_n i_Fo_examineWord_141 rfl ?_
  refine jd_getR F_Fo_18 i_Fo_examineWord_142 (fun a2 => ?_)
  refine jd_callVI G_Fo_65 in_Wo_goes se_Wo_goes rfl (fun _ e => c_Wo_goes e) rfl ⟨by decide, by decide⟩ rfl (Nat.le_of_ble_eq_true rfl) i_Fo_examineWord_145 (fun v4 h3 => ?_)
  refine jd_if_eq 167 i_Fo_examineWord_148 (by decide) ?_ ?_
  · exact jd_less (t_Fo_examineWord_167) ⟨rfl, rfl, trivial⟩
  · refine jd_aload_n i_Fo_examineWord_151 rfl ?_
    refine jd_aload_n i_Fo_examineWord_152 rfl ?_
    refine jd_aload_n i_Fo_examineWord_153 rfl ?_
    refine jd_getR F_Fo_18 i_Fo_examineWord_154 (fun a5 => ?_)
    refine jd_iload_n i_Fo_examineWord_157 rfl ?_
    refine jd_callVI G_Fo_75 in_Wo_goalFrom se_Wo_goalFrom rfl (fun _ e => c_Wo_goalFrom e) rfl ⟨by decide, by decide⟩ rfl (Nat.le_of_ble_eq_true rfl) i_Fo_examineWord_158 (fun v7 h6 => ?_)
    refine jd_callVI G_Fo_79 in_Fo_isGoal se_Fo_isGoal rfl (fun _ e => c_Fo_isGoal e) rfl ⟨by decide, by decide⟩ rfl (Nat.le_of_ble_eq_true rfl) i_Fo_examineWord_161 (fun v9 h8 => ?_)
    refine jd_if_eq 183 i_Fo_examineWord_164 (by decide) ?_ ?_
    · exact jd_less (t_Fo_examineWord_183) trivial
    · exact jd_less (t_Fo_examineWord_167) ⟨rfl, rfl, trivial⟩
noncomputable def r_Fo_examineWord_119 (h : ja_H) (y0 : Nat) (y1 : Nat) (y2 : Int32) : Option (Int32 × ja_H) := (jf_R h y0 3 1 (fun a1 => (jk h a1 4 (jc_I (r_Wo_words h a1) (fun v3 h2 => (jf_I h2 y1 1 1 (fun v4 => (if (y2 + v3) < v4 then (r_Fo_examineWord_140 h2 y0 y1 y2 (0 : Int32)) else (r_Fo_examineWord_140 h2 y0 y1 y2 (1 : Int32))))))))))
theorem t_Fo_examineWord_119 {h : ja_H} {y0 : Nat} {y1 : Nat} {y2 : Int32} : ja_D ja_gI M_Fo_examineWord 119 [some (.ref y0), some (.ref y1), some (.int y2), none] [] h (r_Fo_examineWord_119 h y0 y1 y2) := by
  unfold r_Fo_examineWord_119
  refine jd_iload_n i_Fo_examineWord_119 rfl ?_
  refine jd_aload_n i_Fo_examineWord_120 rfl ?_
  refine jd_getR F_Fo_18 i_Fo_examineWord_121 (fun a1 => ?_)
  refine jd_callVI G_Fo_71 in_Wo_words se_Wo_words rfl (fun _ e => c_Wo_words e) rfl ⟨by decide, by decide⟩ rfl (Nat.le_of_ble_eq_true rfl) i_Fo_examineWord_124 (fun v3 h2 => ?_)
  refine jd_iadd i_Fo_examineWord_127 ?_
  refine jd_aload_n i_Fo_examineWord_128 rfl ?_
  refine jd_getI F_Fo_30 i_Fo_examineWord_129 (fun v4 => ?_)
  refine jd_icmp_lt 139 i_Fo_examineWord_132 (by decide) ?_ ?_
  · refine jd_iconst 0 i_Fo_examineWord_139 (by decide) ?_
    exact jd_less (t_Fo_examineWord_140) ⟨rfl, rfl, rfl, trivial⟩
  · refine jd_iconst 1 i_Fo_examineWord_135 (by decide) ?_
    refine jd_goto 140 i_Fo_examineWord_136 (by decide) ?_
    exact jd_less (t_Fo_examineWord_140) ⟨rfl, rfl, rfl, trivial⟩
noncomputable def r_Fo_examineWord_97 (h : ja_H) (y0 : Nat) (y1 : Nat) (y2 : Int32) : Option (Int32 × ja_H) := (jf_R h y0 3 1 (fun a1 => (jk h a1 4 (jc_I (r_Wo_goes h a1) (fun v3 h2 => (if v3 = (0 : Int32) then (r_Fo_examineWord_119 h2 y0 y1 y2) else (jf_R h2 y0 3 1 (fun a4 => (jf_I h2 a4 4 3 (fun v5 => (if (0 : Int32) ≤ v5 then (r_Fo_examineWord_119 h2 y0 y1 y2) else (some ((5 : Int32), h2)))))))))))))
theorem t_Fo_examineWord_97 {h : ja_H} {y0 : Nat} {y1 : Nat} {y2 : Int32} : ja_D ja_gI M_Fo_examineWord 97 [some (.ref y0), some (.ref y1), some (.int y2), none] [] h (r_Fo_examineWord_97 h y0 y1 y2) := by
  unfold r_Fo_examineWord_97
  refine jd_aload_n i_Fo_examineWord_97 rfl ?_
  refine jd_getR F_Fo_18 i_Fo_examineWord_98 (fun a1 => ?_)
  refine jd_callVI G_Fo_65 in_Wo_goes se_Wo_goes rfl (fun _ e => c_Wo_goes e) rfl ⟨by decide, by decide⟩ rfl (Nat.le_of_ble_eq_true rfl) i_Fo_examineWord_101 (fun v3 h2 => ?_)
  refine jd_if_eq 119 i_Fo_examineWord_104 (by decide) ?_ ?_
  · exact jd_less (t_Fo_examineWord_119) ⟨rfl, rfl, rfl, trivial⟩
  · refine jd_aload_n i_Fo_examineWord_107 rfl ?_
    refine jd_getR F_Fo_18 i_Fo_examineWord_108 (fun a4 => ?_)
    refine jd_getI F_Fo_68 i_Fo_examineWord_111 (fun v5 => ?_)
    refine jd_if_ge 119 i_Fo_examineWord_114 (by decide) ?_ ?_
    · exact jd_less (t_Fo_examineWord_119) ⟨rfl, rfl, rfl, trivial⟩
    · refine jd_iconst 5 i_Fo_examineWord_117 (by decide) ?_
      exact jd_ireturn i_Fo_examineWord_118 rfl
noncomputable def r_Fo_examineWord_95 (h : ja_H) : Option (Int32 × ja_H) := (some ((3 : Int32), h))
theorem t_Fo_examineWord_95 {h : ja_H} : ja_D ja_gI M_Fo_examineWord 95 [none, none, none, none] [] h (r_Fo_examineWord_95 h) := by
  unfold r_Fo_examineWord_95
  refine jd_iconst 3 i_Fo_examineWord_95 (by decide) ?_
  exact jd_ireturn i_Fo_examineWord_96 rfl
noncomputable def r_Fo_examineWord_60 (h : ja_H) (y0 : Nat) (y1 : Nat) (y2 : Int32) : Option (Int32 × ja_H) := (jk h y0 3 (jc_I (r_Fo_hasUnusedNotZero h y0) (fun v2 h1 => (if v2 = (0 : Int32) then (jf_R h1 y0 3 1 (fun a3 => (jf_I h1 a3 4 5 (fun v4 => (if v4 = (7 : Int32) then (jk h1 y1 1 (jc_L (r_Co_at h1 y1 (y2 + (1 : Int32))) (fun v6 h5 => (if (v6 &&& (4294967295 : Int64)) = (0 : Int64) then (r_Fo_examineWord_97 h5 y0 y1 y2) else (r_Fo_examineWord_95 h5))))) else (r_Fo_examineWord_97 h1 y0 y1 y2)))))) else (r_Fo_examineWord_95 h1)))))
theorem t_Fo_examineWord_60 {h : ja_H} {y0 : Nat} {y1 : Nat} {y2 : Int32} : ja_D ja_gI M_Fo_examineWord 60 [some (.ref y0), some (.ref y1), some (.int y2), none] [] h (r_Fo_examineWord_60 h y0 y1 y2) := by
  unfold r_Fo_examineWord_60
  refine jd_aload_n i_Fo_examineWord_60 rfl ?_
  refine jd_callVI G_Fo_60 in_Fo_hasUnusedNotZero se_Fo_hasUnusedNotZero rfl (fun _ e => c_Fo_hasUnusedNotZero e) rfl ⟨by decide, by decide⟩ rfl (Nat.le_of_ble_eq_true rfl) i_Fo_examineWord_61 (fun v2 h1 => ?_)
  refine jd_if_ne 95 i_Fo_examineWord_64 (by decide) ?_ ?_
  · exact jd_less (t_Fo_examineWord_95) trivial
  · refine jd_aload_n i_Fo_examineWord_67 rfl ?_
    refine jd_getR F_Fo_18 i_Fo_examineWord_68 (fun a3 => ?_)
    refine jd_getI F_Fo_47 i_Fo_examineWord_71 (fun v4 => ?_)
    refine jd_bipush 7 i_Fo_examineWord_74 (by decide) ?_
    refine jd_icmp_ne 97 i_Fo_examineWord_76 (by decide) ?_ ?_
    · exact jd_less (t_Fo_examineWord_97) ⟨rfl, rfl, rfl, trivial⟩
    · refine jd_aload_n i_Fo_examineWord_79 rfl ?_
      refine jd_iload_n i_Fo_examineWord_80 rfl ?_
      refine jd_iconst 1 i_Fo_examineWord_81 (by decide) ?_
      refine jd_iadd i_Fo_examineWord_82 ?_
      refine jd_callVL G_Fo_35 in_Co_at se_Co_at rfl (fun _ e => c_Co_at e) rfl ⟨by decide, by decide⟩ rfl (Nat.le_of_ble_eq_true rfl) i_Fo_examineWord_83 (fun v6 h5 => ?_)
      refine jd_ldc2 i_Fo_examineWord_86 K_Fo_63 ?_
      refine jd_land i_Fo_examineWord_89 ?_
      refine jd_lconst 0 i_Fo_examineWord_90 (by decide) ?_
      refine jd_lcmp_eq 97 i_Fo_examineWord_91 i_Fo_examineWord_92 (by decide) ?_ ?_
      · exact jd_less (t_Fo_examineWord_97) ⟨rfl, rfl, rfl, trivial⟩
      · exact jd_less (t_Fo_examineWord_95) trivial
noncomputable def r_Fo_examineWord_58 (h : ja_H) : Option (Int32 × ja_H) := (some ((2 : Int32), h))
theorem t_Fo_examineWord_58 {h : ja_H} : ja_D ja_gI M_Fo_examineWord 58 [none, none, none, none] [] h (r_Fo_examineWord_58 h) := by
  unfold r_Fo_examineWord_58
  refine jd_iconst 2 i_Fo_examineWord_58 (by decide) ?_
  exact jd_ireturn i_Fo_examineWord_59 rfl
noncomputable def r_Fo_examineWord (h : ja_H) (a0 : Nat) (a1 : Nat) (a2 : Int32) : Option (Int32 × ja_H) := (jf_R h a0 3 1 (fun a101 => (jf_I h a101 4 5 (fun v102 => (if v102 = (0 : Int32) then (some ((1 : Int32), h)) else (jf_R h a0 3 1 (fun a103 => (jf_I h a103 4 1 (fun v104 => (if (11 : Int32) ≤ v104 then (r_Fo_examineWord_58 h) else (jf_R h a0 3 1 (fun a105 => (jf_I h a105 4 2 (fun v106 => (if (11 : Int32) ≤ v106 then (r_Fo_examineWord_58 h) else (jf_R h a0 3 1 (fun a107 => (jf_I h a107 4 1 (fun v108 => (if v108 = (10 : Int32) then (jf_R h a0 3 1 (fun a109 => (jk h a109 4 (jc_I (r_Wo_getsD h a109) (fun v111 h110 => (if v111 = (0 : Int32) then (r_Fo_examineWord_60 h110 a0 a1 a2) else (r_Fo_examineWord_58 h110))))))) else (r_Fo_examineWord_60 h a0 a1 a2)))))))))))))))))))))
theorem e_Fo_examineWord {h : ja_H} {a0 : Nat} {a1 : Nat} {a2 : Int32} : ja_D ja_gI M_Fo_examineWord 0 [some (.ref a0), some (.ref a1), some (.int a2), none] [] h (r_Fo_examineWord h a0 a1 a2) := by
  unfold r_Fo_examineWord
  refine jd_aload_n i_Fo_examineWord_0 rfl ?_
  refine jd_getR F_Fo_18 i_Fo_examineWord_1 (fun a101 => ?_)
  refine jd_getI F_Fo_47 i_Fo_examineWord_4 (fun v102 => ?_)
  refine jd_if_ne 12 i_Fo_examineWord_7 (by decide) ?_ ?_
  · refine jd_aload_n i_Fo_examineWord_12 rfl ?_
    refine jd_getR F_Fo_18 i_Fo_examineWord_13 (fun a103 => ?_)
    refine jd_getI F_Fo_50 i_Fo_examineWord_16 (fun v104 => ?_)
    refine jd_bipush 11 i_Fo_examineWord_19 (by decide) ?_
    refine jd_icmp_ge 58 i_Fo_examineWord_21 (by decide) ?_ ?_
    · exact jd_less (t_Fo_examineWord_58) trivial
    · refine jd_aload_n i_Fo_examineWord_24 rfl ?_
      refine jd_getR F_Fo_18 i_Fo_examineWord_25 (fun a105 => ?_)
      refine jd_getI F_Fo_53 i_Fo_examineWord_28 (fun v106 => ?_)
      refine jd_bipush 11 i_Fo_examineWord_31 (by decide) ?_
      refine jd_icmp_ge 58 i_Fo_examineWord_33 (by decide) ?_ ?_
      · exact jd_less (t_Fo_examineWord_58) trivial
      · refine jd_aload_n i_Fo_examineWord_36 rfl ?_
        refine jd_getR F_Fo_18 i_Fo_examineWord_37 (fun a107 => ?_)
        refine jd_getI F_Fo_50 i_Fo_examineWord_40 (fun v108 => ?_)
        refine jd_bipush 10 i_Fo_examineWord_43 (by decide) ?_
        refine jd_icmp_ne 60 i_Fo_examineWord_45 (by decide) ?_ ?_
        · exact jd_less (t_Fo_examineWord_60) ⟨rfl, rfl, rfl, trivial⟩
        · refine jd_aload_n i_Fo_examineWord_48 rfl ?_
          refine jd_getR F_Fo_18 i_Fo_examineWord_49 (fun a109 => ?_)
          refine jd_callVI G_Fo_56 in_Wo_getsD se_Wo_getsD rfl (fun _ e => c_Wo_getsD e) rfl ⟨by decide, by decide⟩ rfl (Nat.le_of_ble_eq_true rfl) i_Fo_examineWord_52 (fun v111 h110 => ?_)
          refine jd_if_eq 60 i_Fo_examineWord_55 (by decide) ?_ ?_
          · exact jd_less (t_Fo_examineWord_60) ⟨rfl, rfl, rfl, trivial⟩
          · exact jd_less (t_Fo_examineWord_58) trivial
  · refine jd_iconst 1 i_Fo_examineWord_10 (by decide) ?_
    exact jd_ireturn i_Fo_examineWord_11 rfl
theorem c_Fo_examineWord {h : ja_H} {a0 : Nat} {a1 : Nat} {a2 : Int32} {o : Int32 × ja_H} (e : r_Fo_examineWord h a0 a1 a2 = some o) : ja_M (4, 80) y_Fo_examineWord b_Fo_examineWord 4 (some .int) [.ref a0, .ref a1, .int a2] h [.int o.1] o.2 := jc_of (g := ja_gI) false _ e e_Fo_examineWord rfl (by decide +kernel) (fun q => nomatch q) (Nat.le_of_ble_eq_true rfl) (fun _ q => nomatch q) (Nat.le_of_ble_eq_true rfl)
noncomputable def r_Wo_findSortOfGoing_74 (h : ja_H) (z0 : Int32) : Option (Int32 × ja_H) := (some (z0, h))
theorem t_Wo_findSortOfGoing_74 {h : ja_H} {z0 : Int32} : ja_D ja_gI M_Wo_findSortOfGoing 74 [none, none] [.int z0] h (r_Wo_findSortOfGoing_74 h z0) := by
  unfold r_Wo_findSortOfGoing_74
  exact jd_ireturn i_Wo_findSortOfGoing_74 rfl
noncomputable def r_Wo_findSortOfGoing_64 (h : ja_H) (z0 : Int32) : Option (Int32 × ja_H) := (jl (z0 : Int32) (fun (x1 : Int32) => (if x1 = (0 : Int32) then (r_Wo_findSortOfGoing_74 h (0 : Int32)) else (r_Wo_findSortOfGoing_74 h (2 : Int32)))))
theorem t_Wo_findSortOfGoing_64 {h : ja_H} {z0 : Int32} : ja_D ja_gI M_Wo_findSortOfGoing 64 [none, none] [.int z0] h (r_Wo_findSortOfGoing_64 h z0) := by
  unfold r_Wo_findSortOfGoing_64
  refine jd_istore_n (fun x1 => [none, some (.int x1)]) i_Wo_findSortOfGoing_64 (by decide) rfl (fun _ => rfl) (fun x1 => ?_)
  refine jd_iload_n i_Wo_findSortOfGoing_65 rfl ?_
  refine jd_if_eq 73 i_Wo_findSortOfGoing_66 (by decide) ?_ ?_
  · refine jd_iconst 0 i_Wo_findSortOfGoing_73 (by decide) ?_
    exact jd_less (t_Wo_findSortOfGoing_74) trivial
  · refine jd_iconst 2 i_Wo_findSortOfGoing_69 (by decide) ?_
    refine jd_goto 74 i_Wo_findSortOfGoing_70 (by decide) ?_
    exact jd_less (t_Wo_findSortOfGoing_74) trivial
noncomputable def r_Wo_findSortOfGoing_63 (h : ja_H) : Option (Int32 × ja_H) := (r_Wo_findSortOfGoing_64 h (0 : Int32))
theorem t_Wo_findSortOfGoing_63 {h : ja_H} : ja_D ja_gI M_Wo_findSortOfGoing 63 [none, none] [] h (r_Wo_findSortOfGoing_63 h) := by
  unfold r_Wo_findSortOfGoing_63
  refine jd_iconst 0 i_Wo_findSortOfGoing_63 (by decide) ?_
  exact jd_less (t_Wo_findSortOfGoing_64) trivial
noncomputable def r_Wo_findSortOfGoing_59 (h : ja_H) : Option (Int32 × ja_H) := (r_Wo_findSortOfGoing_64 h (1 : Int32))
theorem t_Wo_findSortOfGoing_59 {h : ja_H} : ja_D ja_gI M_Wo_findSortOfGoing 59 [none, none] [] h (r_Wo_findSortOfGoing_59 h) := by
  unfold r_Wo_findSortOfGoing_59
  refine jd_iconst 1 i_Wo_findSortOfGoing_59 (by decide) ?_
  refine jd_goto 64 i_Wo_findSortOfGoing_60 (by decide) ?_
  exact jd_less (t_Wo_findSortOfGoing_64) trivial
noncomputable def r_Wo_findSortOfGoing_41 (h : ja_H) (y0 : Nat) : Option (Int32 × ja_H) := (jf_I h y0 4 6 (fun v1 => (if v1 < (10 : Int32) then (r_Wo_findSortOfGoing_63 h) else (jf_I h y0 4 6 (fun v2 => (if (13 : Int32) < v2 then (r_Wo_findSortOfGoing_63 h) else (r_Wo_findSortOfGoing_59 h)))))))
theorem t_Wo_findSortOfGoing_41 {h : ja_H} {y0 : Nat} : ja_D ja_gI M_Wo_findSortOfGoing 41 [some (.ref y0), none] [] h (r_Wo_findSortOfGoing_41 h y0) := by
  unfold r_Wo_findSortOfGoing_41
  refine jd_aload_n i_Wo_findSortOfGoing_41 rfl ?_
  refine jd_getI F_Wo_27 i_Wo_findSortOfGoing_42 (fun v1 => ?_)
  refine jd_bipush 10 i_Wo_findSortOfGoing_45 (by decide) ?_
  refine jd_icmp_lt 63 i_Wo_findSortOfGoing_47 (by decide) ?_ ?_
  · exact jd_less (t_Wo_findSortOfGoing_63) trivial
  · refine jd_aload_n i_Wo_findSortOfGoing_50 rfl ?_
    refine jd_getI F_Wo_27 i_Wo_findSortOfGoing_51 (fun v2 => ?_)
    refine jd_bipush 13 i_Wo_findSortOfGoing_54 (by decide) ?_
    refine jd_icmp_gt 63 i_Wo_findSortOfGoing_56 (by decide) ?_ ?_
    · exact jd_less (t_Wo_findSortOfGoing_63) trivial
    · exact jd_less (t_Wo_findSortOfGoing_59) trivial
noncomputable def r_Wo_findSortOfGoing (h : ja_H) (a0 : Nat) : Option (Int32 × ja_H) := (jf_I h a0 4 0 (fun v101 => (if v101 = (5 : Int32) then (some ((6 : Int32), h)) else (jf_I h a0 4 0 (fun v102 => (if v102 = (149 : Int32) then (some ((8 : Int32), h)) else (jf_I h a0 4 6 (fun v103 => (if v103 < (1 : Int32) then (r_Wo_findSortOfGoing_41 h a0) else (jf_I h a0 4 6 (fun v104 => (if v104 ≤ (7 : Int32) then (r_Wo_findSortOfGoing_59 h) else (r_Wo_findSortOfGoing_41 h a0)))))))))))))
theorem e_Wo_findSortOfGoing {h : ja_H} {a0 : Nat} : ja_D ja_gI M_Wo_findSortOfGoing 0 [some (.ref a0), none] [] h (r_Wo_findSortOfGoing h a0) := by
  unfold r_Wo_findSortOfGoing
  refine jd_aload_n i_Wo_findSortOfGoing_0 rfl ?_
  refine jd_getI F_Wo_9 i_Wo_findSortOfGoing_1 (fun v101 => ?_)
  refine jd_iconst 5 i_Wo_findSortOfGoing_4 (by decide) ?_
  refine jd_icmp_ne 11 i_Wo_findSortOfGoing_5 (by decide) ?_ ?_
  · refine jd_aload_n i_Wo_findSortOfGoing_11 rfl ?_
    refine jd_getI F_Wo_9 i_Wo_findSortOfGoing_12 (fun v102 => ?_)
    refine jd_sipush 149 i_Wo_findSortOfGoing_15 (by decide) ?_
    refine jd_icmp_ne 24 i_Wo_findSortOfGoing_18 (by decide) ?_ ?_
    · refine jd_aload_n i_Wo_findSortOfGoing_24 rfl ?_
      refine jd_getI F_Wo_27 i_Wo_findSortOfGoing_25 (fun v103 => ?_)
      refine jd_iconst 1 i_Wo_findSortOfGoing_28 (by decide) ?_
      refine jd_icmp_lt 41 i_Wo_findSortOfGoing_29 (by decide) ?_ ?_
      · exact jd_less (t_Wo_findSortOfGoing_41) ⟨rfl, trivial⟩
      · refine jd_aload_n i_Wo_findSortOfGoing_32 rfl ?_
        refine jd_getI F_Wo_27 i_Wo_findSortOfGoing_33 (fun v104 => ?_)
        refine jd_bipush 7 i_Wo_findSortOfGoing_36 (by decide) ?_
        refine jd_icmp_le 59 i_Wo_findSortOfGoing_38 (by decide) ?_ ?_
        · exact jd_less (t_Wo_findSortOfGoing_59) trivial
        · exact jd_less (t_Wo_findSortOfGoing_41) ⟨rfl, trivial⟩
    · refine jd_bipush 8 i_Wo_findSortOfGoing_21 (by decide) ?_
      exact jd_ireturn i_Wo_findSortOfGoing_23 rfl
  · refine jd_bipush 6 i_Wo_findSortOfGoing_8 (by decide) ?_
    exact jd_ireturn i_Wo_findSortOfGoing_10 rfl
theorem c_Wo_findSortOfGoing {h : ja_H} {a0 : Nat} {o : Int32 × ja_H} (e : r_Wo_findSortOfGoing h a0 = some o) : ja_M (0, 0) y_Wo_findSortOfGoing b_Wo_findSortOfGoing 2 (some .int) [.ref a0] h [.int o.1] o.2 := jc_of (g := ja_gI) false _ e e_Wo_findSortOfGoing rfl (by decide +kernel) (fun q => nomatch q) (Nat.le_of_ble_eq_true rfl) (fun _ q => nomatch q) (Nat.le_of_ble_eq_true rfl)
noncomputable def r_Wo_movesOctets_23 (h : ja_H) (z0 : Int32) : Option (Int32 × ja_H) := (jb z0 (some (z0, h)))
theorem t_Wo_movesOctets_23 {h : ja_H} {z0 : Int32} : ja_D ja_gI M_Wo_movesOctets 23 [none] [.int z0] h (r_Wo_movesOctets_23 h z0) := by
  unfold r_Wo_movesOctets_23
  exact jd_zreturn i_Wo_movesOctets_23 rfl
noncomputable def r_Wo_movesOctets_18 (h : ja_H) : Option (Int32 × ja_H) := (r_Wo_movesOctets_23 h (1 : Int32))
theorem t_Wo_movesOctets_18 {h : ja_H} : ja_D ja_gI M_Wo_movesOctets 18 [none] [] h (r_Wo_movesOctets_18 h) := by
  unfold r_Wo_movesOctets_18
  refine jd_iconst 1 i_Wo_movesOctets_18 (by decide) ?_
  refine jd_goto 23 i_Wo_movesOctets_19 (by decide) ?_
  exact jd_less (t_Wo_movesOctets_23) trivial
noncomputable def r_Wo_movesOctets (h : ja_H) (a0 : Nat) : Option (Int32 × ja_H) := (jf_I h a0 4 6 (fun v101 => (if v101 = (6 : Int32) then (r_Wo_movesOctets_18 h) else (jf_I h a0 4 6 (fun v102 => (if v102 = (7 : Int32) then (r_Wo_movesOctets_18 h) else (r_Wo_movesOctets_23 h (0 : Int32))))))))
theorem e_Wo_movesOctets {h : ja_H} {a0 : Nat} : ja_D ja_gI M_Wo_movesOctets 0 [some (.ref a0)] [] h (r_Wo_movesOctets h a0) := by
  unfold r_Wo_movesOctets
  refine jd_aload_n i_Wo_movesOctets_0 rfl ?_
  refine jd_getI F_Wo_27 i_Wo_movesOctets_1 (fun v101 => ?_)
  refine jd_bipush 6 i_Wo_movesOctets_4 (by decide) ?_
  refine jd_icmp_eq 18 i_Wo_movesOctets_6 (by decide) ?_ ?_
  · exact jd_less (t_Wo_movesOctets_18) trivial
  · refine jd_aload_n i_Wo_movesOctets_9 rfl ?_
    refine jd_getI F_Wo_27 i_Wo_movesOctets_10 (fun v102 => ?_)
    refine jd_bipush 7 i_Wo_movesOctets_13 (by decide) ?_
    refine jd_icmp_ne 22 i_Wo_movesOctets_15 (by decide) ?_ ?_
    · refine jd_iconst 0 i_Wo_movesOctets_22 (by decide) ?_
      exact jd_less (t_Wo_movesOctets_23) trivial
    · exact jd_less (t_Wo_movesOctets_18) trivial
theorem c_Wo_movesOctets {h : ja_H} {a0 : Nat} {o : Int32 × ja_H} (e : r_Wo_movesOctets h a0 = some o) : ja_M (0, 0) y_Wo_movesOctets b_Wo_movesOctets 1 (some .boolean) [.ref a0] h [.int o.1] o.2 := jc_of (g := ja_gI) false _ e e_Wo_movesOctets rfl (by decide +kernel) (fun q => nomatch q) (Nat.le_of_ble_eq_true rfl) (fun _ q => nomatch q) (Nat.le_of_ble_eq_true rfl)
noncomputable def r_Wo_reckons_92 (h : ja_H) (z0 : Int32) : Option (Int32 × ja_H) := (jb z0 (some (z0, h)))
theorem t_Wo_reckons_92 {h : ja_H} {z0 : Int32} : ja_D ja_gI M_Wo_reckons 92 [none] [.int z0] h (r_Wo_reckons_92 h z0) := by
  unfold r_Wo_reckons_92
  exact jd_zreturn i_Wo_reckons_92 rfl
noncomputable def r_Wo_reckons_77 (h : ja_H) (z0 : Int32) : Option (Int32 × ja_H) := (jb z0 (some (z0, h)))
theorem t_Wo_reckons_77 {h : ja_H} {z0 : Int32} : ja_D ja_gI M_Wo_reckons 77 [none] [.int z0] h (r_Wo_reckons_77 h z0) := by
  unfold r_Wo_reckons_77
  exact jd_zreturn i_Wo_reckons_77 rfl
noncomputable def r_Wo_reckons_76 (h : ja_H) : Option (Int32 × ja_H) := (r_Wo_reckons_77 h (0 : Int32))
theorem t_Wo_reckons_76 {h : ja_H} : ja_D ja_gI M_Wo_reckons 76 [none] [] h (r_Wo_reckons_76 h) := by
  unfold r_Wo_reckons_76
  refine jd_iconst 0 i_Wo_reckons_76 (by decide) ?_
  exact jd_less (t_Wo_reckons_77) trivial
noncomputable def r_Wo_reckons_72 (h : ja_H) : Option (Int32 × ja_H) := (r_Wo_reckons_77 h (1 : Int32))
theorem t_Wo_reckons_72 {h : ja_H} : ja_D ja_gI M_Wo_reckons 72 [none] [] h (r_Wo_reckons_72 h) := by
  unfold r_Wo_reckons_72
  refine jd_iconst 1 i_Wo_reckons_72 (by decide) ?_
  refine jd_goto 77 i_Wo_reckons_73 (by decide) ?_
  exact jd_less (t_Wo_reckons_77) trivial
noncomputable def r_Wo_reckons_24 (h : ja_H) (z0 : Int32) : Option (Int32 × ja_H) := (jb z0 (some (z0, h)))
theorem t_Wo_reckons_24 {h : ja_H} {z0 : Int32} : ja_D ja_gI M_Wo_reckons 24 [none] [.int z0] h (r_Wo_reckons_24 h z0) := by
  unfold r_Wo_reckons_24
  exact jd_zreturn i_Wo_reckons_24 rfl
noncomputable def r_Wo_reckons (h : ja_H) (a0 : Nat) : Option (Int32 × ja_H) := (jf_I h a0 4 6 (fun v101 => (if v101 = (8 : Int32) then (jf_I h a0 4 0 (fun v108 => (if (v108 &&& (8 : Int32)) = (0 : Int32) then (r_Wo_reckons_24 h (1 : Int32)) else (r_Wo_reckons_24 h (0 : Int32))))) else (jf_I h a0 4 6 (fun v102 => (if v102 = (13 : Int32) then (jf_I h a0 4 0 (fun v104 => (if (v104 &&& (7 : Int32)) = (4 : Int32) then (jf_I h a0 4 4 (fun v105 => (if v105 = (16 : Int32) then (r_Wo_reckons_72 h) else (jf_I h a0 4 4 (fun v106 => (if v106 = (32 : Int32) then (r_Wo_reckons_72 h) else (jf_I h a0 4 4 (fun v107 => (if v107 = (64 : Int32) then (r_Wo_reckons_72 h) else (r_Wo_reckons_76 h)))))))))) else (r_Wo_reckons_76 h)))) else (jf_I h a0 4 6 (fun v103 => (if (12 : Int32) < v103 then (r_Wo_reckons_92 h (0 : Int32)) else (r_Wo_reckons_92 h (1 : Int32)))))))))))
theorem e_Wo_reckons {h : ja_H} {a0 : Nat} : ja_D ja_gI M_Wo_reckons 0 [some (.ref a0)] [] h (r_Wo_reckons h a0) := by
  unfold r_Wo_reckons
  refine jd_aload_n i_Wo_reckons_0 rfl ?_
  refine jd_getI F_Wo_27 i_Wo_reckons_1 (fun v101 => ?_)
  refine jd_bipush 8 i_Wo_reckons_4 (by decide) ?_
  refine jd_icmp_ne 25 i_Wo_reckons_6 (by decide) ?_ ?_
  · refine jd_aload_n i_Wo_reckons_25 rfl ?_
    refine jd_getI F_Wo_27 i_Wo_reckons_26 (fun v102 => ?_)
    refine jd_bipush 13 i_Wo_reckons_29 (by decide) ?_
    refine jd_icmp_ne 78 i_Wo_reckons_31 (by decide) ?_ ?_
    · refine jd_aload_n i_Wo_reckons_78 rfl ?_
      refine jd_getI F_Wo_27 i_Wo_reckons_79 (fun v103 => ?_)
      refine jd_bipush 12 i_Wo_reckons_82 (by decide) ?_
      refine jd_icmp_gt 91 i_Wo_reckons_84 (by decide) ?_ ?_
      · refine jd_iconst 0 i_Wo_reckons_91 (by decide) ?_
        exact jd_less (t_Wo_reckons_92) trivial
      · refine jd_iconst 1 i_Wo_reckons_87 (by decide) ?_
        refine jd_goto 92 i_Wo_reckons_88 (by decide) ?_
        exact jd_less (t_Wo_reckons_92) trivial
    · refine jd_aload_n i_Wo_reckons_34 rfl ?_
      refine jd_getI F_Wo_9 i_Wo_reckons_35 (fun v104 => ?_)
      refine jd_bipush 7 i_Wo_reckons_38 (by decide) ?_
      refine jd_iand i_Wo_reckons_40 ?_
      refine jd_iconst 4 i_Wo_reckons_41 (by decide) ?_
      refine jd_icmp_ne 76 i_Wo_reckons_42 (by decide) ?_ ?_
      · exact jd_less (t_Wo_reckons_76) trivial
      · refine jd_aload_n i_Wo_reckons_45 rfl ?_
        refine jd_getI F_Wo_24 i_Wo_reckons_46 (fun v105 => ?_)
        refine jd_bipush 16 i_Wo_reckons_49 (by decide) ?_
        refine jd_icmp_eq 72 i_Wo_reckons_51 (by decide) ?_ ?_
        · exact jd_less (t_Wo_reckons_72) trivial
        · refine jd_aload_n i_Wo_reckons_54 rfl ?_
          refine jd_getI F_Wo_24 i_Wo_reckons_55 (fun v106 => ?_)
          refine jd_bipush 32 i_Wo_reckons_58 (by decide) ?_
          refine jd_icmp_eq 72 i_Wo_reckons_60 (by decide) ?_ ?_
          · exact jd_less (t_Wo_reckons_72) trivial
          · refine jd_aload_n i_Wo_reckons_63 rfl ?_
            refine jd_getI F_Wo_24 i_Wo_reckons_64 (fun v107 => ?_)
            refine jd_bipush 64 i_Wo_reckons_67 (by decide) ?_
            refine jd_icmp_ne 76 i_Wo_reckons_69 (by decide) ?_ ?_
            · exact jd_less (t_Wo_reckons_76) trivial
            · exact jd_less (t_Wo_reckons_72) trivial
  · refine jd_aload_n i_Wo_reckons_9 rfl ?_
    refine jd_getI F_Wo_9 i_Wo_reckons_10 (fun v108 => ?_)
    refine jd_bipush 8 i_Wo_reckons_13 (by decide) ?_
    refine jd_iand i_Wo_reckons_15 ?_
    refine jd_if_ne 23 i_Wo_reckons_16 (by decide) ?_ ?_
    · refine jd_iconst 0 i_Wo_reckons_23 (by decide) ?_
      exact jd_less (t_Wo_reckons_24) trivial
    · refine jd_iconst 1 i_Wo_reckons_19 (by decide) ?_
      refine jd_goto 24 i_Wo_reckons_20 (by decide) ?_
      exact jd_less (t_Wo_reckons_24) trivial
theorem c_Wo_reckons {h : ja_H} {a0 : Nat} {o : Int32 × ja_H} (e : r_Wo_reckons h a0 = some o) : ja_M (0, 0) y_Wo_reckons b_Wo_reckons 1 (some .boolean) [.ref a0] h [.int o.1] o.2 := jc_of (g := ja_gI) false _ e e_Wo_reckons rfl (by decide +kernel) (fun q => nomatch q) (Nat.le_of_ble_eq_true rfl) (fun _ q => nomatch q) (Nat.le_of_ble_eq_true rfl)
noncomputable def r_Wo_findSort_120 (h : ja_H) (y0 : Nat) : Option (Int32 × ja_H) := (jk h y0 4 (jc_I (r_Wo_findSortOfGoing h y0) (fun v2 h1 => (some (v2, h1)))))
theorem t_Wo_findSort_120 {h : ja_H} {y0 : Nat} : ja_D ja_gI M_Wo_findSort 120 [some (.ref y0)] [] h (r_Wo_findSort_120 h y0) := by
  unfold r_Wo_findSort_120
  refine jd_aload_n i_Wo_findSort_120 rfl ?_
  refine jd_callVI G_Wo_44 in_Wo_findSortOfGoing se_Wo_findSortOfGoing rfl (fun _ e => c_Wo_findSortOfGoing e) rfl ⟨by decide, by decide⟩ rfl (Nat.le_of_ble_eq_true rfl) i_Wo_findSort_121 (fun v2 h1 => ?_)
  exact jd_ireturn i_Wo_findSort_124 rfl
noncomputable def r_Wo_findSort_119 (h : ja_H) (z0 : Int32) : Option (Int32 × ja_H) := (some (z0, h))
theorem t_Wo_findSort_119 {h : ja_H} {z0 : Int32} : ja_D ja_gI M_Wo_findSort 119 [none] [.int z0] h (r_Wo_findSort_119 h z0) := by
  unfold r_Wo_findSort_119
  exact jd_ireturn i_Wo_findSort_119 rfl
noncomputable def r_Wo_findSort_107 (h : ja_H) (y0 : Nat) : Option (Int32 × ja_H) := (jk h y0 4 (jc_I (r_Wo_reckons h y0) (fun v2 h1 => (if v2 = (0 : Int32) then (r_Wo_findSort_119 h1 (0 : Int32)) else (r_Wo_findSort_119 h1 (1 : Int32))))))
theorem t_Wo_findSort_107 {h : ja_H} {y0 : Nat} : ja_D ja_gI M_Wo_findSort 107 [some (.ref y0)] [] h (r_Wo_findSort_107 h y0) := by
  unfold r_Wo_findSort_107
  refine jd_aload_n i_Wo_findSort_107 rfl ?_
  refine jd_callVI G_Wo_41 in_Wo_reckons se_Wo_reckons rfl (fun _ e => c_Wo_reckons e) rfl ⟨by decide, by decide⟩ rfl (Nat.le_of_ble_eq_true rfl) i_Wo_findSort_108 (fun v2 h1 => ?_)
  refine jd_if_eq 118 i_Wo_findSort_111 (by decide) ?_ ?_
  · refine jd_iconst 0 i_Wo_findSort_118 (by decide) ?_
    exact jd_less (t_Wo_findSort_119) trivial
  · refine jd_iconst 1 i_Wo_findSort_114 (by decide) ?_
    refine jd_goto 119 i_Wo_findSort_115 (by decide) ?_
    exact jd_less (t_Wo_findSort_119) trivial
noncomputable def r_Wo_findSort_106 (h : ja_H) (z0 : Int32) : Option (Int32 × ja_H) := (some (z0, h))
theorem t_Wo_findSort_106 {h : ja_H} {z0 : Int32} : ja_D ja_gI M_Wo_findSort 106 [none] [.int z0] h (r_Wo_findSort_106 h z0) := by
  unfold r_Wo_findSort_106
  exact jd_ireturn i_Wo_findSort_106 rfl
noncomputable def r_Wo_findSort_93 (h : ja_H) (z0 : Int32) : Option (Int32 × ja_H) := (some (z0, h))
theorem t_Wo_findSort_93 {h : ja_H} {z0 : Int32} : ja_D ja_gI M_Wo_findSort 93 [none] [.int z0] h (r_Wo_findSort_93 h z0) := by
  unfold r_Wo_findSort_93
  exact jd_ireturn i_Wo_findSort_93 rfl
noncomputable def r_Wo_findSort_80 (h : ja_H) (z0 : Int32) : Option (Int32 × ja_H) := (some (z0, h))
theorem t_Wo_findSort_80 {h : ja_H} {z0 : Int32} : ja_D ja_gI M_Wo_findSort 80 [none] [.int z0] h (r_Wo_findSort_80 h z0) := by
  unfold r_Wo_findSort_80
  exact jd_ireturn i_Wo_findSort_80 rfl
noncomputable def r_Wo_findSort_67 (h : ja_H) (z0 : Int32) : Option (Int32 × ja_H) := (some (z0, h))
theorem t_Wo_findSort_67 {h : ja_H} {z0 : Int32} : ja_D ja_gI M_Wo_findSort 67 [none] [.int z0] h (r_Wo_findSort_67 h z0) := by
  unfold r_Wo_findSort_67
  exact jd_ireturn i_Wo_findSort_67 rfl
noncomputable def r_Wo_findSort (h : ja_H) (a0 : Nat) : Option (Int32 × ja_H) := (jf_I h a0 4 0 (fun v101 => (jsw (v101 &&& (7 : Int32)) [0, 1, 2, 3, 4, 5, 6, 7] [(jf_I h a0 4 0 (fun v102 => (if v102 = (24 : Int32) then (r_Wo_findSort_67 h (7 : Int32)) else (r_Wo_findSort_67 h (0 : Int32))))), (jk h a0 4 (jc_I (r_Wo_movesOctets h a0) (fun v104 h103 => (if v104 = (0 : Int32) then (r_Wo_findSort_80 h103 (0 : Int32)) else (r_Wo_findSort_80 h103 (3 : Int32)))))), (jk h a0 4 (jc_I (r_Wo_movesOctets h a0) (fun v106 h105 => (if v106 = (0 : Int32) then (r_Wo_findSort_93 h105 (0 : Int32)) else (r_Wo_findSort_93 h105 (4 : Int32)))))), (jk h a0 4 (jc_I (r_Wo_movesOctets h a0) (fun v108 h107 => (if v108 = (0 : Int32) then (r_Wo_findSort_106 h107 (0 : Int32)) else (r_Wo_findSort_106 h107 (5 : Int32)))))), (r_Wo_findSort_107 h a0), (r_Wo_findSort_120 h a0), (r_Wo_findSort_120 h a0), (r_Wo_findSort_107 h a0)] (r_Wo_findSort_120 h a0))))
theorem e_Wo_findSort {h : ja_H} {a0 : Nat} : ja_D ja_gI M_Wo_findSort 0 [some (.ref a0)] [] h (r_Wo_findSort h a0) := by
  unfold r_Wo_findSort
  refine jd_aload_n i_Wo_findSort_0 rfl ?_
  refine jd_getI F_Wo_9 i_Wo_findSort_1 (fun v101 => ?_)
  refine jd_bipush 7 i_Wo_findSort_4 (by decide) ?_
  refine jd_iand i_Wo_findSort_6 ?_
  refine jd_ts 120 [0, 1, 2, 3, 4, 5, 6, 7] [52, 68, 81, 94, 107, 120, 120, 107] i_Wo_findSort_7 rfl (by decide) (by decide) (by decide) ?_ ⟨?_, ?_, ?_, ?_, ?_, ?_, ?_, ?_, trivial⟩
  · exact jd_less (t_Wo_findSort_120) ⟨rfl, trivial⟩
  · refine jd_aload_n i_Wo_findSort_52 rfl ?_
    refine jd_getI F_Wo_9 i_Wo_findSort_53 (fun v102 => ?_)
    refine jd_bipush 24 i_Wo_findSort_56 (by decide) ?_
    refine jd_icmp_ne 66 i_Wo_findSort_58 (by decide) ?_ ?_
    · refine jd_iconst 0 i_Wo_findSort_66 (by decide) ?_
      exact jd_less (t_Wo_findSort_67) trivial
    · refine jd_bipush 7 i_Wo_findSort_61 (by decide) ?_
      refine jd_goto 67 i_Wo_findSort_63 (by decide) ?_
      exact jd_less (t_Wo_findSort_67) trivial
  · refine jd_aload_n i_Wo_findSort_68 rfl ?_
    refine jd_callVI G_Wo_37 in_Wo_movesOctets se_Wo_movesOctets rfl (fun _ e => c_Wo_movesOctets e) rfl ⟨by decide, by decide⟩ rfl (Nat.le_of_ble_eq_true rfl) i_Wo_findSort_69 (fun v104 h103 => ?_)
    refine jd_if_eq 79 i_Wo_findSort_72 (by decide) ?_ ?_
    · refine jd_iconst 0 i_Wo_findSort_79 (by decide) ?_
      exact jd_less (t_Wo_findSort_80) trivial
    · refine jd_iconst 3 i_Wo_findSort_75 (by decide) ?_
      refine jd_goto 80 i_Wo_findSort_76 (by decide) ?_
      exact jd_less (t_Wo_findSort_80) trivial
  · refine jd_aload_n i_Wo_findSort_81 rfl ?_
    refine jd_callVI G_Wo_37 in_Wo_movesOctets se_Wo_movesOctets rfl (fun _ e => c_Wo_movesOctets e) rfl ⟨by decide, by decide⟩ rfl (Nat.le_of_ble_eq_true rfl) i_Wo_findSort_82 (fun v106 h105 => ?_)
    refine jd_if_eq 92 i_Wo_findSort_85 (by decide) ?_ ?_
    · refine jd_iconst 0 i_Wo_findSort_92 (by decide) ?_
      exact jd_less (t_Wo_findSort_93) trivial
    · refine jd_iconst 4 i_Wo_findSort_88 (by decide) ?_
      refine jd_goto 93 i_Wo_findSort_89 (by decide) ?_
      exact jd_less (t_Wo_findSort_93) trivial
  · refine jd_aload_n i_Wo_findSort_94 rfl ?_
    refine jd_callVI G_Wo_37 in_Wo_movesOctets se_Wo_movesOctets rfl (fun _ e => c_Wo_movesOctets e) rfl ⟨by decide, by decide⟩ rfl (Nat.le_of_ble_eq_true rfl) i_Wo_findSort_95 (fun v108 h107 => ?_)
    refine jd_if_eq 105 i_Wo_findSort_98 (by decide) ?_ ?_
    · refine jd_iconst 0 i_Wo_findSort_105 (by decide) ?_
      exact jd_less (t_Wo_findSort_106) trivial
    · refine jd_iconst 5 i_Wo_findSort_101 (by decide) ?_
      refine jd_goto 106 i_Wo_findSort_102 (by decide) ?_
      exact jd_less (t_Wo_findSort_106) trivial
  · exact jd_less (t_Wo_findSort_107) ⟨rfl, trivial⟩
  · exact jd_less (t_Wo_findSort_120) ⟨rfl, trivial⟩
  · exact jd_less (t_Wo_findSort_120) ⟨rfl, trivial⟩
  · exact jd_less (t_Wo_findSort_107) ⟨rfl, trivial⟩
theorem c_Wo_findSort {h : ja_H} {a0 : Nat} {o : Int32 × ja_H} (e : r_Wo_findSort h a0 = some o) : ja_M (1, 21) y_Wo_findSort b_Wo_findSort 1 (some .int) [.ref a0] h [.int o.1] o.2 := jc_of (g := ja_gI) false _ e e_Wo_findSort rfl (by decide +kernel) (fun q => nomatch q) (Nat.le_of_ble_eq_true rfl) (fun _ q => nomatch q) (Nat.le_of_ble_eq_true rfl)
noncomputable def r_Wo_take (h : ja_H) (a0 : Nat) (a1 : Int64) : Option (ja_H) := (jp_I h a0 4 0 ((Int64.toInt32 a1) &&& (255 : Int32)) (fun h101 => (jp_I h101 a0 4 1 ((Int64.toInt32 (UInt64.toInt64 (Int64.toUInt64 a1 >>> (Int64.toUInt64 (Int32.toInt64 (8 : Int32)) &&& Int64.toUInt64 63)))) &&& (15 : Int32)) (fun h102 => (jp_I h102 a0 4 2 ((Int64.toInt32 (UInt64.toInt64 (Int64.toUInt64 a1 >>> (Int64.toUInt64 (Int32.toInt64 (12 : Int32)) &&& Int64.toUInt64 63)))) &&& (15 : Int32)) (fun h103 => (jp_I h103 a0 4 3 (Int16.toInt32 (Int32.toInt16 (Int64.toInt32 (UInt64.toInt64 (Int64.toUInt64 a1 >>> (Int64.toUInt64 (Int32.toInt64 (16 : Int32)) &&& Int64.toUInt64 63)))))) (fun h104 => (jp_I h104 a0 4 4 (Int64.toInt32 (UInt64.toInt64 (Int64.toUInt64 a1 >>> (Int64.toUInt64 (Int32.toInt64 (32 : Int32)) &&& Int64.toUInt64 63)))) (fun h105 => (jf_I h105 a0 4 0 (fun v106 => (jp_I h105 a0 4 6 (v106 >>> ((4 : Int32) &&& 31)) (fun h107 => (jk h107 a0 4 (jc_I (r_Wo_findSort h107 a0) (fun v109 h108 => (jp_I h108 a0 4 5 v109 (fun h110 => (some h110))))))))))))))))))))
theorem e_Wo_take {h : ja_H} {a0 : Nat} {a1 : Int64} : ja_D ja_gV M_Wo_take 0 [some (.ref a0), some (.long a1), none] [] h (r_Wo_take h a0 a1) := by
  unfold r_Wo_take
  refine jd_aload_n i_Wo_take_0 rfl ?_
  refine jd_lload_n i_Wo_take_1 rfl ?_
  refine jd_l2i i_Wo_take_2 ?_
  refine jd_sipush 255 i_Wo_take_3 (by decide) ?_
  refine jd_iand i_Wo_take_6 ?_
  refine jd_putI F_Wo_9 P_Wo_op i_Wo_take_7 (fun h101 => ?_)
  refine jd_aload_n i_Wo_take_10 rfl ?_
  refine jd_lload_n i_Wo_take_11 rfl ?_
  refine jd_bipush 8 i_Wo_take_12 (by decide) ?_
  refine jd_lushr i_Wo_take_14 ?_
  refine jd_l2i i_Wo_take_15 ?_
  refine jd_bipush 15 i_Wo_take_16 (by decide) ?_
  refine jd_iand i_Wo_take_18 ?_
  refine jd_putI F_Wo_15 P_Wo_d i_Wo_take_19 (fun h102 => ?_)
  refine jd_aload_n i_Wo_take_22 rfl ?_
  refine jd_lload_n i_Wo_take_23 rfl ?_
  refine jd_bipush 12 i_Wo_take_24 (by decide) ?_
  refine jd_lushr i_Wo_take_26 ?_
  refine jd_l2i i_Wo_take_27 ?_
  refine jd_bipush 15 i_Wo_take_28 (by decide) ?_
  refine jd_iand i_Wo_take_30 ?_
  refine jd_putI F_Wo_18 P_Wo_s i_Wo_take_31 (fun h103 => ?_)
  refine jd_aload_n i_Wo_take_34 rfl ?_
  refine jd_lload_n i_Wo_take_35 rfl ?_
  refine jd_bipush 16 i_Wo_take_36 (by decide) ?_
  refine jd_lushr i_Wo_take_38 ?_
  refine jd_l2i i_Wo_take_39 ?_
  refine jd_i2s i_Wo_take_40 ?_
  refine jd_putI F_Wo_21 P_Wo_off i_Wo_take_41 (fun h104 => ?_)
  refine jd_aload_n i_Wo_take_44 rfl ?_
  refine jd_lload_n i_Wo_take_45 rfl ?_
  refine jd_bipush 32 i_Wo_take_46 (by decide) ?_
  refine jd_lushr i_Wo_take_48 ?_
  refine jd_l2i i_Wo_take_49 ?_
  refine jd_putI F_Wo_24 P_Wo_imm i_Wo_take_50 (fun h105 => ?_)
  refine jd_aload_n i_Wo_take_53 rfl ?_
  refine jd_aload_n i_Wo_take_54 rfl ?_
  refine jd_getI F_Wo_9 i_Wo_take_55 (fun v106 => ?_)
  refine jd_iconst 4 i_Wo_take_58 (by decide) ?_
  refine jd_ishr i_Wo_take_59 ?_
  refine jd_putI F_Wo_27 P_Wo_kind i_Wo_take_60 (fun h107 => ?_)
  refine jd_aload_n i_Wo_take_63 rfl ?_
  refine jd_aload_n i_Wo_take_64 rfl ?_
  refine jd_callVI G_Wo_30 in_Wo_findSort se_Wo_findSort rfl (fun _ e => c_Wo_findSort e) rfl ⟨by decide, by decide⟩ rfl (Nat.le_of_ble_eq_true rfl) i_Wo_take_65 (fun v109 h108 => ?_)
  refine jd_putI F_Wo_34 P_Wo_sort i_Wo_take_68 (fun h110 => ?_)
  exact jd_return i_Wo_take_71 rfl
theorem c_Wo_take {h : ja_H} {a0 : Nat} {a1 : Int64} {o : ja_H} (e : r_Wo_take h a0 a1 = some o) : ja_M (2, 41) y_Wo_take b_Wo_take 3 (none) [.ref a0, .long a1] h [] o := jc_of (g := ja_gV) false _ e e_Wo_take rfl (by decide +kernel) (fun q => nomatch q) (Nat.le_of_ble_eq_true rfl) (fun _ q => nomatch q) (Nat.le_of_ble_eq_true rfl)
noncomputable def r_Fo_markSeconds_66 (h : ja_H) : Option (ja_H) := (some h)
theorem t_Fo_markSeconds_66 {h : ja_H} : ja_D ja_gV M_Fo_markSeconds 66 [none, none, none, none] [] h (r_Fo_markSeconds_66 h) := by
  unfold r_Fo_markSeconds_66
  exact jd_return i_Fo_markSeconds_66 rfl
noncomputable def r_Fo_markSeconds_59 (C4 : ja_H → Nat → Nat → Int32 → Int32 → Option (ja_H)) (h : ja_H) (y0 : Nat) (y1 : Nat) (y3 : Int32) (z0 : Int32) : Option (ja_H) := (jl (z0 : Int32) (fun (x1 : Int32) => (jl (y3 + 1 : Int32) (fun (x2 : Int32) => (C4 h y0 y1 x1 x2)))))
theorem t_Fo_markSeconds_59 {C4 : ja_H → Nat → Nat → Int32 → Int32 → Option (ja_H)} (k4 : ∀ (h : ja_H) (y0 : Nat) (y1 : Nat) (y2 : Int32) (y3 : Int32), ja_D ja_gV M_Fo_markSeconds 4 [some (.ref y0), some (.ref y1), some (.int y2), some (.int y3)] [] h (C4 h y0 y1 y2 y3)) {h : ja_H} {y0 : Nat} {y1 : Nat} {y3 : Int32} {z0 : Int32} : ja_D ja_gV M_Fo_markSeconds 59 [some (.ref y0), some (.ref y1), none, some (.int y3)] [.int z0] h (r_Fo_markSeconds_59 C4 h y0 y1 y3 z0) := by
  unfold r_Fo_markSeconds_59
  refine jd_istore_n (fun x1 => [some (.ref y0), some (.ref y1), some (.int x1), some (.int y3)]) i_Fo_markSeconds_59 (by decide) rfl (fun _ => rfl) (fun x1 => ?_)
  refine jd_iinc (fun x2 => [some (.ref y0), some (.ref y1), some (.int x1), some (.int x2)]) i_Fo_markSeconds_60 rfl rfl (by decide) rfl (fun _ => rfl) (fun x2 => ?_)
  refine jd_goto 4 i_Fo_markSeconds_63 (by decide) ?_
  exact jd_less (k4 _ _ _ _ _) ⟨rfl, rfl, rfl, rfl, trivial⟩
noncomputable def r_Fo_markSeconds_58 (C4 : ja_H → Nat → Nat → Int32 → Int32 → Option (ja_H)) (h : ja_H) (y0 : Nat) (y1 : Nat) (y3 : Int32) : Option (ja_H) := (r_Fo_markSeconds_59 C4 h y0 y1 y3 (0 : Int32))
theorem t_Fo_markSeconds_58 {C4 : ja_H → Nat → Nat → Int32 → Int32 → Option (ja_H)} (k4 : ∀ (h : ja_H) (y0 : Nat) (y1 : Nat) (y2 : Int32) (y3 : Int32), ja_D ja_gV M_Fo_markSeconds 4 [some (.ref y0), some (.ref y1), some (.int y2), some (.int y3)] [] h (C4 h y0 y1 y2 y3)) {h : ja_H} {y0 : Nat} {y1 : Nat} {y3 : Int32} : ja_D ja_gV M_Fo_markSeconds 58 [some (.ref y0), some (.ref y1), none, some (.int y3)] [] h (r_Fo_markSeconds_58 C4 h y0 y1 y3) := by
  unfold r_Fo_markSeconds_58
  refine jd_iconst 0 i_Fo_markSeconds_58 (by decide) ?_
  exact jd_less (t_Fo_markSeconds_59 k4) ⟨rfl, rfl, rfl, trivial⟩
noncomputable def q_Fo_markSeconds_4 (C4 : ja_H → Nat → Nat → Int32 → Int32 → Option (ja_H)) (h : ja_H) (y0 : Nat) (y1 : Nat) (y2 : Int32) (y3 : Int32) : Option (ja_H) := (jf_I h y1 1 1 (fun v1 => (if v1 ≤ y3 then (r_Fo_markSeconds_66 h) else (if (1024 : Int32) ≤ y3 then (r_Fo_markSeconds_66 h) else (jf_R h y0 3 0 (fun a2 => (js_Z h a2 y3 y2 (fun h3 => (jf_R h3 y0 3 1 (fun a4 => (jk h3 y1 1 (jc_L (r_Co_at h3 y1 y3) (fun v6 h5 => (jk h5 a4 4 (jc_V (r_Wo_take h5 a4 v6) (fun h7 => (if y2 = (0 : Int32) then (jf_R h7 y0 3 1 (fun a8 => (jf_I h7 a8 4 5 (fun v9 => (if v9 = (7 : Int32) then (r_Fo_markSeconds_59 C4 h7 y0 y1 y3 (1 : Int32)) else (r_Fo_markSeconds_58 C4 h7 y0 y1 y3)))))) else (r_Fo_markSeconds_58 C4 h7 y0 y1 y3))))))))))))))))))
theorem t_Fo_markSeconds_4 {C4 : ja_H → Nat → Nat → Int32 → Int32 → Option (ja_H)} (k4 : ∀ (h : ja_H) (y0 : Nat) (y1 : Nat) (y2 : Int32) (y3 : Int32), ja_D ja_gV M_Fo_markSeconds 4 [some (.ref y0), some (.ref y1), some (.int y2), some (.int y3)] [] h (C4 h y0 y1 y2 y3)) {h : ja_H} {y0 : Nat} {y1 : Nat} {y2 : Int32} {y3 : Int32} : ja_D ja_gV M_Fo_markSeconds 4 [some (.ref y0), some (.ref y1), some (.int y2), some (.int y3)] [] h (q_Fo_markSeconds_4 C4 h y0 y1 y2 y3) := by
  unfold q_Fo_markSeconds_4
  refine jd_iload_n i_Fo_markSeconds_4 rfl ?_
  refine jd_aload_n i_Fo_markSeconds_5 rfl ?_
  refine jd_getI F_Fo_30 i_Fo_markSeconds_6 (fun v1 => ?_)
  refine jd_icmp_ge 66 i_Fo_markSeconds_9 (by decide) ?_ ?_
  · exact jd_less (t_Fo_markSeconds_66) trivial
  · refine jd_iload_n i_Fo_markSeconds_12 rfl ?_
    refine jd_sipush 1024 i_Fo_markSeconds_13 (by decide) ?_
    refine jd_icmp_ge 66 i_Fo_markSeconds_16 (by decide) ?_ ?_
    · exact jd_less (t_Fo_markSeconds_66) trivial
    · refine jd_aload_n i_Fo_markSeconds_19 rfl ?_
      refine jd_getR F_Fo_9 i_Fo_markSeconds_20 (fun a2 => ?_)
      refine jd_iload_n i_Fo_markSeconds_23 rfl ?_
      refine jd_iload_n i_Fo_markSeconds_24 rfl ?_
      refine jd_zast i_Fo_markSeconds_25 (fun h3 => ?_)
      refine jd_aload_n i_Fo_markSeconds_26 rfl ?_
      refine jd_getR F_Fo_18 i_Fo_markSeconds_27 (fun a4 => ?_)
      refine jd_aload_n i_Fo_markSeconds_30 rfl ?_
      refine jd_iload_n i_Fo_markSeconds_31 rfl ?_
      refine jd_callVL G_Fo_35 in_Co_at se_Co_at rfl (fun _ e => c_Co_at e) rfl ⟨by decide, by decide⟩ rfl (Nat.le_of_ble_eq_true rfl) i_Fo_markSeconds_32 (fun v6 h5 => ?_)
      refine jd_callVV G_Fo_39 in_Wo_take se_Wo_take rfl (fun _ e => c_Wo_take e) rfl ⟨by decide, by decide⟩ rfl (Nat.le_of_ble_eq_true rfl) i_Fo_markSeconds_35 (fun h7 => ?_)
      refine jd_iload_n i_Fo_markSeconds_38 rfl ?_
      refine jd_if_ne 58 i_Fo_markSeconds_39 (by decide) ?_ ?_
      · exact jd_less (t_Fo_markSeconds_58 k4) ⟨rfl, rfl, rfl, trivial⟩
      · refine jd_aload_n i_Fo_markSeconds_42 rfl ?_
        refine jd_getR F_Fo_18 i_Fo_markSeconds_43 (fun a8 => ?_)
        refine jd_getI F_Fo_47 i_Fo_markSeconds_46 (fun v9 => ?_)
        refine jd_bipush 7 i_Fo_markSeconds_49 (by decide) ?_
        refine jd_icmp_ne 58 i_Fo_markSeconds_51 (by decide) ?_ ?_
        · exact jd_less (t_Fo_markSeconds_58 k4) ⟨rfl, rfl, rfl, trivial⟩
        · refine jd_iconst 1 i_Fo_markSeconds_54 (by decide) ?_
          refine jd_goto 59 i_Fo_markSeconds_55 (by decide) ?_
          exact jd_less (t_Fo_markSeconds_59 k4) ⟨rfl, rfl, rfl, trivial⟩
noncomputable def r_Fo_markSeconds_4 : Nat → ja_H → Nat → Nat → Int32 → Int32 → Option (ja_H) := ja_lo (q_Fo_markSeconds_4) (fun _ _ _ _ _ => none)
theorem s_Fo_markSeconds_4 : ∀ (n : Nat) (h : ja_H) (y0 : Nat) (y1 : Nat) (y2 : Int32) (y3 : Int32), ja_D ja_gV M_Fo_markSeconds 4 [some (.ref y0), some (.ref y1), some (.int y2), some (.int y3)] [] h (r_Fo_markSeconds_4 n h y0 y1 y2 y3) := by
  intro n
  induction n with
  | zero => intro h y0 y1 y2 y3 o e; cases e
  | succ n ih => intro h y0 y1 y2 y3; exact t_Fo_markSeconds_4 ih
noncomputable def r_Fo_markSeconds (h : ja_H) (a0 : Nat) (a1 : Nat) : Option (ja_H) := (jl ((0 : Int32) : Int32) (fun (x101 : Int32) => (jl ((0 : Int32) : Int32) (fun (x102 : Int32) => (r_Fo_markSeconds_4 ja_fu h a0 a1 x101 x102)))))
theorem e_Fo_markSeconds {h : ja_H} {a0 : Nat} {a1 : Nat} : ja_D ja_gV M_Fo_markSeconds 0 [some (.ref a0), some (.ref a1), none, none] [] h (r_Fo_markSeconds h a0 a1) := by
  unfold r_Fo_markSeconds
  refine jd_iconst 0 i_Fo_markSeconds_0 (by decide) ?_
  refine jd_istore_n (fun x101 => [some (.ref a0), some (.ref a1), some (.int x101), none]) i_Fo_markSeconds_1 (by decide) rfl (fun _ => rfl) (fun x101 => ?_)
  refine jd_iconst 0 i_Fo_markSeconds_2 (by decide) ?_
  refine jd_istore_n (fun x102 => [some (.ref a0), some (.ref a1), some (.int x101), some (.int x102)]) i_Fo_markSeconds_3 (by decide) rfl (fun _ => rfl) (fun x102 => ?_)
  exact jd_less (s_Fo_markSeconds_4 ja_fu _ _ _ _ _) ⟨rfl, rfl, rfl, rfl, trivial⟩
theorem c_Fo_markSeconds {h : ja_H} {a0 : Nat} {a1 : Nat} {o : ja_H} (e : r_Fo_markSeconds h a0 a1 = some o) : ja_M (3, 63) y_Fo_markSeconds b_Fo_markSeconds 4 (none) [.ref a0, .ref a1] h [] o := jc_of (g := ja_gV) false _ e e_Fo_markSeconds rfl (by decide +kernel) (fun q => nomatch q) (Nat.le_of_ble_eq_true rfl) (fun _ q => nomatch q) (Nat.le_of_ble_eq_true rfl)
noncomputable def r_Fo_examine_72 (h : ja_H) : Option (Int32 × ja_H) := (some ((0 : Int32), h))
theorem t_Fo_examine_72 {h : ja_H} : ja_D ja_gI M_Fo_examine 72 [none, none, none, none] [] h (r_Fo_examine_72 h) := by
  unfold r_Fo_examine_72
  refine jd_iconst 0 i_Fo_examine_72 (by decide) ?_
  exact jd_ireturn i_Fo_examine_73 rfl
noncomputable def r_Fo_examine_66 (C12 : ja_H → Nat → Nat → Int32 → Option (Int32 × ja_H)) (h : ja_H) (y0 : Nat) (y1 : Nat) (y2 : Int32) : Option (Int32 × ja_H) := (jl (y2 + 1 : Int32) (fun (x1 : Int32) => (C12 h y0 y1 x1)))
theorem t_Fo_examine_66 {C12 : ja_H → Nat → Nat → Int32 → Option (Int32 × ja_H)} (k12 : ∀ (h : ja_H) (y0 : Nat) (y1 : Nat) (y2 : Int32), ja_D ja_gI M_Fo_examine 12 [some (.ref y0), some (.ref y1), some (.int y2), none] [] h (C12 h y0 y1 y2)) {h : ja_H} {y0 : Nat} {y1 : Nat} {y2 : Int32} : ja_D ja_gI M_Fo_examine 66 [some (.ref y0), some (.ref y1), some (.int y2), none] [] h (r_Fo_examine_66 C12 h y0 y1 y2) := by
  unfold r_Fo_examine_66
  refine jd_iinc (fun x1 => [some (.ref y0), some (.ref y1), some (.int x1), none]) i_Fo_examine_66 rfl rfl (by decide) rfl (fun _ => rfl) (fun x1 => ?_)
  refine jd_goto 12 i_Fo_examine_69 (by decide) ?_
  exact jd_less (k12 _ _ _ _) ⟨rfl, rfl, rfl, trivial⟩
noncomputable def q_Fo_examine_12 (C12 : ja_H → Nat → Nat → Int32 → Option (Int32 × ja_H)) (h : ja_H) (y0 : Nat) (y1 : Nat) (y2 : Int32) : Option (Int32 × ja_H) := (jf_I h y1 1 1 (fun v1 => (if v1 ≤ y2 then (r_Fo_examine_72 h) else (if (1024 : Int32) ≤ y2 then (r_Fo_examine_72 h) else (jf_R h y0 3 0 (fun a2 => (je_I h a2 2 y2 (fun v3 => (if v3 = (0 : Int32) then (jf_R h y0 3 1 (fun a4 => (jk h y1 1 (jc_L (r_Co_at h y1 y2) (fun v6 h5 => (jk h5 a4 4 (jc_V (r_Wo_take h5 a4 v6) (fun h7 => (jk h7 y0 3 (jc_I (r_Fo_examineWord h7 y0 y1 y2) (fun v9 h8 => (jl (v9 : Int32) (fun (x10 : Int32) => (if x10 = (0 : Int32) then (r_Fo_examine_66 C12 h8 y0 y1 y2) else (jp_I h8 y0 3 2 y2 (fun h11 => (some (x10, h11)))))))))))))))))) else (r_Fo_examine_66 C12 h y0 y1 y2))))))))))
theorem t_Fo_examine_12 {C12 : ja_H → Nat → Nat → Int32 → Option (Int32 × ja_H)} (k12 : ∀ (h : ja_H) (y0 : Nat) (y1 : Nat) (y2 : Int32), ja_D ja_gI M_Fo_examine 12 [some (.ref y0), some (.ref y1), some (.int y2), none] [] h (C12 h y0 y1 y2)) {h : ja_H} {y0 : Nat} {y1 : Nat} {y2 : Int32} : ja_D ja_gI M_Fo_examine 12 [some (.ref y0), some (.ref y1), some (.int y2), none] [] h (q_Fo_examine_12 C12 h y0 y1 y2) := by
  unfold q_Fo_examine_12
  refine jd_iload_n i_Fo_examine_12 rfl ?_
  refine jd_aload_n i_Fo_examine_13 rfl ?_
  refine jd_getI F_Fo_30 i_Fo_examine_14 (fun v1 => ?_)
  refine jd_icmp_ge 72 i_Fo_examine_17 (by decide) ?_ ?_
  · exact jd_less (t_Fo_examine_72) trivial
  · refine jd_iload_n i_Fo_examine_20 rfl ?_
    refine jd_sipush 1024 i_Fo_examine_21 (by decide) ?_
    refine jd_icmp_ge 72 i_Fo_examine_24 (by decide) ?_ ?_
    · exact jd_less (t_Fo_examine_72) trivial
    · refine jd_aload_n i_Fo_examine_27 rfl ?_
      refine jd_getR F_Fo_9 i_Fo_examine_28 (fun a2 => ?_)
      refine jd_iload_n i_Fo_examine_31 rfl ?_
      refine jd_zald i_Fo_examine_32 (fun v3 => ?_)
      refine jd_if_ne 66 i_Fo_examine_33 (by decide) ?_ ?_
      · exact jd_less (t_Fo_examine_66 k12) ⟨rfl, rfl, rfl, trivial⟩
      · refine jd_aload_n i_Fo_examine_36 rfl ?_
        refine jd_getR F_Fo_18 i_Fo_examine_37 (fun a4 => ?_)
        refine jd_aload_n i_Fo_examine_40 rfl ?_
        refine jd_iload_n i_Fo_examine_41 rfl ?_
        refine jd_callVL G_Fo_35 in_Co_at se_Co_at rfl (fun _ e => c_Co_at e) rfl ⟨by decide, by decide⟩ rfl (Nat.le_of_ble_eq_true rfl) i_Fo_examine_42 (fun v6 h5 => ?_)
        refine jd_callVV G_Fo_39 in_Wo_take se_Wo_take rfl (fun _ e => c_Wo_take e) rfl ⟨by decide, by decide⟩ rfl (Nat.le_of_ble_eq_true rfl) i_Fo_examine_45 (fun h7 => ?_)
        refine jd_aload_n i_Fo_examine_48 rfl ?_
        refine jd_aload_n i_Fo_examine_49 rfl ?_
        refine jd_iload_n i_Fo_examine_50 rfl ?_
        refine jd_callVI G_Fo_43 in_Fo_examineWord se_Fo_examineWord rfl (fun _ e => c_Fo_examineWord e) rfl ⟨by decide, by decide⟩ rfl (Nat.le_of_ble_eq_true rfl) i_Fo_examine_51 (fun v9 h8 => ?_)
        refine jd_istore_n (fun x10 => [some (.ref y0), some (.ref y1), some (.int y2), some (.int x10)]) i_Fo_examine_54 (by decide) rfl (fun _ => rfl) (fun x10 => ?_)
        refine jd_iload_n i_Fo_examine_55 rfl ?_
        refine jd_if_eq 66 i_Fo_examine_56 (by decide) ?_ ?_
        · exact jd_less (t_Fo_examine_66 k12) ⟨rfl, rfl, rfl, trivial⟩
        · refine jd_aload_n i_Fo_examine_59 rfl ?_
          refine jd_iload_n i_Fo_examine_60 rfl ?_
          refine jd_putI F_Fo_22 P_Fo_faultAt i_Fo_examine_61 (fun h11 => ?_)
          refine jd_iload_n i_Fo_examine_64 rfl ?_
          exact jd_ireturn i_Fo_examine_65 rfl
noncomputable def r_Fo_examine_12 : Nat → ja_H → Nat → Nat → Int32 → Option (Int32 × ja_H) := ja_lo (q_Fo_examine_12) (fun _ _ _ _ => none)
theorem s_Fo_examine_12 : ∀ (n : Nat) (h : ja_H) (y0 : Nat) (y1 : Nat) (y2 : Int32), ja_D ja_gI M_Fo_examine 12 [some (.ref y0), some (.ref y1), some (.int y2), none] [] h (r_Fo_examine_12 n h y0 y1 y2) := by
  intro n
  induction n with
  | zero => intro h y0 y1 y2 o e; cases e
  | succ n ih => intro h y0 y1 y2; exact t_Fo_examine_12 ih
noncomputable def r_Fo_examine (h : ja_H) (a0 : Nat) (a1 : Nat) : Option (Int32 × ja_H) := (jp_I h a0 3 2 (-1 : Int32) (fun h101 => (jk h101 a0 3 (jc_V (r_Fo_markSeconds h101 a0 a1) (fun h102 => (jl ((0 : Int32) : Int32) (fun (x103 : Int32) => (r_Fo_examine_12 ja_fu h102 a0 a1 x103))))))))
theorem e_Fo_examine {h : ja_H} {a0 : Nat} {a1 : Nat} : ja_D ja_gI M_Fo_examine 0 [some (.ref a0), some (.ref a1), none, none] [] h (r_Fo_examine h a0 a1) := by
  unfold r_Fo_examine
  refine jd_aload_n i_Fo_examine_0 rfl ?_
  refine jd_iconst (-1) i_Fo_examine_1 (by decide) ?_
  refine jd_putI F_Fo_22 P_Fo_faultAt i_Fo_examine_2 (fun h101 => ?_)
  refine jd_aload_n i_Fo_examine_5 rfl ?_
  refine jd_aload_n i_Fo_examine_6 rfl ?_
  refine jd_callVV G_Fo_26 in_Fo_markSeconds se_Fo_markSeconds rfl (fun _ e => c_Fo_markSeconds e) rfl ⟨by decide, by decide⟩ rfl (Nat.le_of_ble_eq_true rfl) i_Fo_examine_7 (fun h102 => ?_)
  refine jd_iconst 0 i_Fo_examine_10 (by decide) ?_
  refine jd_istore_n (fun x103 => [some (.ref a0), some (.ref a1), some (.int x103), none]) i_Fo_examine_11 (by decide) rfl (fun _ => rfl) (fun x103 => ?_)
  exact jd_less (s_Fo_examine_12 ja_fu _ _ _ _) ⟨rfl, rfl, rfl, trivial⟩
theorem c_Fo_examine {h : ja_H} {a0 : Nat} {a1 : Nat} {o : Int32 × ja_H} (e : r_Fo_examine h a0 a1 = some o) : ja_M (5, 103) y_Fo_examine b_Fo_examine 4 (some .int) [.ref a0, .ref a1] h [.int o.1] o.2 := jc_of (g := ja_gI) false _ e e_Fo_examine rfl (by decide +kernel) (fun q => nomatch q) (Nat.le_of_ble_eq_true rfl) (fun _ q => nomatch q) (Nat.le_of_ble_eq_true rfl)
