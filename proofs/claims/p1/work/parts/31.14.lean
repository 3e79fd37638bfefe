noncomputable def r_Mo_opposite_91 (h : ja_H) : Option (Int32 × ja_H) := (some ((7 : Int32), h))
theorem t_Mo_opposite_91 {h : ja_H} : ja_D ja_gI M_Mo_opposite 91 [none] [] h (r_Mo_opposite_91 h) := by
  unfold r_Mo_opposite_91
  refine jd_bipush 7 i_Mo_opposite_91 (by decide) ?_
  exact jd_ireturn i_Mo_opposite_93 rfl
noncomputable def r_Mo_opposite (h : ja_H) (a0 : Int32) : Option (Int32 × ja_H) := (jsw a0 [1, 2, 3, 4, 5, 6, 7, 8, 9, 10, 11, 12, 13] [(some ((5 : Int32), h)), (some ((11 : Int32), h)), (some ((10 : Int32), h)), (r_Mo_opposite_91 h), (some ((1 : Int32), h)), (some ((13 : Int32), h)), (some ((12 : Int32), h)), (r_Mo_opposite_91 h), (r_Mo_opposite_91 h), (some ((3 : Int32), h)), (some ((2 : Int32), h)), (r_Mo_opposite_91 h), (some ((6 : Int32), h))] (r_Mo_opposite_91 h))
theorem e_Mo_opposite {h : ja_H} {a0 : Int32} : ja_D ja_gI M_Mo_opposite 0 [some (.int a0)] [] h (r_Mo_opposite h a0) := by
  unfold r_Mo_opposite
  refine jd_iload_n i_Mo_opposite_0 rfl ?_
  refine jd_ts 91 [1, 2, 3, 4, 5, 6, 7, 8, 9, 10, 11, 12, 13] [68, 72, 77, 91, 70, 82, 88, 91, 91, 80, 75, 91, 85] i_Mo_opposite_1 rfl (by decide) (by decide) (by decide) ?_ ⟨?_, ?_, ?_, ?_, ?_, ?_, ?_, ?_, ?_, ?_, ?_, ?_, ?_, trivial⟩
  · exact jd_less (t_Mo_opposite_91) trivial
  · refine jd_iconst 5 i_Mo_opposite_68 (by decide) ?_
    exact jd_ireturn i_Mo_opposite_69 rfl
  · refine jd_bipush 11 i_Mo_opposite_72 (by decide) ?_
    exact jd_ireturn i_Mo_opposite_74 rfl
  · refine jd_bipush 10 i_Mo_opposite_77 (by decide) ?_
    exact jd_ireturn i_Mo_opposite_79 rfl
  · exact jd_less (t_Mo_opposite_91) trivial
  · refine jd_iconst 1 i_Mo_opposite_70 (by decide) ?_
    exact jd_ireturn i_Mo_opposite_71 rfl
  · refine jd_bipush 13 i_Mo_opposite_82 (by decide) ?_
    exact jd_ireturn i_Mo_opposite_84 rfl
  · refine jd_bipush 12 i_Mo_opposite_88 (by decide) ?_
    exact jd_ireturn i_Mo_opposite_90 rfl
  · exact jd_less (t_Mo_opposite_91) trivial
  · exact jd_less (t_Mo_opposite_91) trivial
  · refine jd_iconst 3 i_Mo_opposite_80 (by decide) ?_
    exact jd_ireturn i_Mo_opposite_81 rfl
  · refine jd_iconst 2 i_Mo_opposite_75 (by decide) ?_
    exact jd_ireturn i_Mo_opposite_76 rfl
  · exact jd_less (t_Mo_opposite_91) trivial
  · refine jd_bipush 6 i_Mo_opposite_85 (by decide) ?_
    exact jd_ireturn i_Mo_opposite_87 rfl
theorem c_Mo_opposite {h : ja_H} {a0 : Int32} {o : Int32 × ja_H} (e : r_Mo_opposite h a0 = some o) : ja_M (0, 0) y_Mo_opposite b_Mo_opposite 1 (some .int) [.int a0] h [.int o.1] o.2 := jc_of (g := ja_gI) false _ e e_Mo_opposite rfl (by decide +kernel) (fun q => nomatch q) (Nat.le_of_ble_eq_true rfl) (fun _ q => nomatch q) (Nat.le_of_ble_eq_true rfl)
noncomputable def r_Mo_tested_249 (h : ja_H) : Option (Int32 × ja_H) := (some ((0 : Int32), h))
theorem t_Mo_tested_249 {h : ja_H} : ja_D ja_gI M_Mo_tested 249 [none, none, none, none, none, none, none, none, none, none, none] [] h (r_Mo_tested_249 h) := by
  unfold r_Mo_tested_249
  refine jd_iconst 0 i_Mo_tested_249 (by decide) ?_
  exact jd_ireturn i_Mo_tested_250 rfl
noncomputable def r_Mo_tested_239 (h : ja_H) (y0 : Nat) (y1 : Int32) : Option (Int32 × ja_H) := (jk h y0 9 (jc_V (r_Mo_comes h y0 (1025 : Int32) (y1 + (1 : Int32))) (fun h1 => (r_Mo_tested_249 h1))))
theorem t_Mo_tested_239 {h : ja_H} {y0 : Nat} {y1 : Int32} : ja_D ja_gI M_Mo_tested 239 [some (.ref y0), some (.int y1), none, none, none, none, none, none, none, none, none] [] h (r_Mo_tested_239 h y0 y1) := by
  unfold r_Mo_tested_239
  refine jd_aload_n i_Mo_tested_239 rfl ?_
  refine jd_sipush 1025 i_Mo_tested_240 (by decide) ?_
  refine jd_iload_n i_Mo_tested_243 rfl ?_
  refine jd_iconst 1 i_Mo_tested_244 (by decide) ?_
  refine jd_iadd i_Mo_tested_245 ?_
  refine jd_callVV G_Mo_186 in_Mo_comes se_Mo_comes rfl (fun _ e => c_Mo_comes e) rfl ⟨by decide, by decide⟩ rfl (Nat.le_of_ble_eq_true rfl) i_Mo_tested_246 (fun h1 => ?_)
  exact jd_less (t_Mo_tested_249) trivial
noncomputable def r_Mo_tested_205 (h : ja_H) (y0 : Nat) (y1 : Int32) (y3 : Int32) (y6 : Int64) (y10 : Int32) : Option (Int32 × ja_H) := (jk h y0 9 (jc_V (r_Mo_copy h y0 y1 (1025 : Int32)) (fun h1 => (if y10 = (0 : Int32) then (r_Mo_tested_239 h1 y0 y1) else (jk h1 y0 9 (jc_I (r_Mo_d h1 y0 y1) (fun v3 h2 => (jc_I (r_Mo_opposite h2 y3) (fun v5 h4 => (jk h4 y0 9 (jc_I (r_Mo_left h4 y0 (1025 : Int32) v3 v5 y6) (fun v7 h6 => (if v7 = (0 : Int32) then (r_Mo_tested_249 h6) else (r_Mo_tested_239 h6 y0 y1))))))))))))))
theorem t_Mo_tested_205 {h : ja_H} {y0 : Nat} {y1 : Int32} {y3 : Int32} {y6 : Int64} {y10 : Int32} : ja_D ja_gI M_Mo_tested 205 [some (.ref y0), some (.int y1), none, some (.int y3), none, none, some (.long y6), none, none, none, some (.int y10)] [] h (r_Mo_tested_205 h y0 y1 y3 y6 y10) := by
  unfold r_Mo_tested_205
  refine jd_aload_n i_Mo_tested_205 rfl ?_
  refine jd_iload_n i_Mo_tested_206 rfl ?_
  refine jd_sipush 1025 i_Mo_tested_207 (by decide) ?_
  refine jd_callVV G_Mo_155 in_Mo_copy se_Mo_copy rfl (fun _ e => c_Mo_copy e) rfl ⟨by decide, by decide⟩ rfl (Nat.le_of_ble_eq_true rfl) i_Mo_tested_210 (fun h1 => ?_)
  refine jd_iload i_Mo_tested_213 rfl ?_
  refine jd_if_eq 239 i_Mo_tested_215 (by decide) ?_ ?_
  · exact jd_less (t_Mo_tested_239) ⟨rfl, rfl, trivial⟩
  · refine jd_aload_n i_Mo_tested_218 rfl ?_
    refine jd_sipush 1025 i_Mo_tested_219 (by decide) ?_
    refine jd_aload_n i_Mo_tested_222 rfl ?_
    refine jd_iload_n i_Mo_tested_223 rfl ?_
    refine jd_callVI G_Mo_107 in_Mo_d se_Mo_d rfl (fun _ e => c_Mo_d e) rfl ⟨by decide, by decide⟩ rfl (Nat.le_of_ble_eq_true rfl) i_Mo_tested_224 (fun v3 h2 => ?_)
    refine jd_iload_n i_Mo_tested_227 rfl ?_
    refine jd_callSI G_Mo_244 sc_Mo_opposite (fun _ e => c_Mo_opposite e) rfl ⟨by decide, by decide⟩ rfl (Nat.le_of_ble_eq_true rfl) i_Mo_tested_228 (fun v5 h4 => ?_)
    refine jd_lload i_Mo_tested_231 rfl ?_
    refine jd_callVI G_Mo_240 in_Mo_left se_Mo_left rfl (fun _ e => c_Mo_left e) rfl ⟨by decide, by decide⟩ rfl (Nat.le_of_ble_eq_true rfl) i_Mo_tested_233 (fun v7 h6 => ?_)
    refine jd_if_eq 249 i_Mo_tested_236 (by decide) ?_ ?_
    · exact jd_less (t_Mo_tested_249) trivial
    · exact jd_less (t_Mo_tested_239) ⟨rfl, rfl, trivial⟩
noncomputable def r_Mo_tested_196 (h : ja_H) (y0 : Nat) (y1 : Int32) (y3 : Int32) (y4 : Int32) (y6 : Int64) (y10 : Int32) : Option (Int32 × ja_H) := (jk h y0 9 (jc_V (r_Mo_comes h y0 (1025 : Int32) y4) (fun h1 => (r_Mo_tested_205 h1 y0 y1 y3 y6 y10))))
theorem t_Mo_tested_196 {h : ja_H} {y0 : Nat} {y1 : Int32} {y3 : Int32} {y4 : Int32} {y6 : Int64} {y10 : Int32} : ja_D ja_gI M_Mo_tested 196 [some (.ref y0), some (.int y1), none, some (.int y3), some (.int y4), none, some (.long y6), none, none, none, some (.int y10)] [] h (r_Mo_tested_196 h y0 y1 y3 y4 y6 y10) := by
  unfold r_Mo_tested_196
  refine jd_aload_n i_Mo_tested_196 rfl ?_
  refine jd_sipush 1025 i_Mo_tested_197 (by decide) ?_
  refine jd_iload i_Mo_tested_200 rfl ?_
  refine jd_callVV G_Mo_186 in_Mo_comes se_Mo_comes rfl (fun _ e => c_Mo_comes e) rfl ⟨by decide, by decide⟩ rfl (Nat.le_of_ble_eq_true rfl) i_Mo_tested_202 (fun h1 => ?_)
  exact jd_less (t_Mo_tested_205) ⟨rfl, rfl, rfl, rfl, rfl, trivial⟩
noncomputable def r_Mo_tested_163 (h : ja_H) (y0 : Nat) (y1 : Int32) (y3 : Int32) (y4 : Int32) (y6 : Int64) (z0 : Int32) : Option (Int32 × ja_H) := (jl (z0 : Int32) (fun (x1 : Int32) => (jk h y0 9 (jc_V (r_Mo_copy h y0 y1 (1025 : Int32)) (fun h2 => (if x1 = (0 : Int32) then (r_Mo_tested_196 h2 y0 y1 y3 y4 y6 x1) else (jk h2 y0 9 (jc_I (r_Mo_d h2 y0 y1) (fun v4 h3 => (jk h3 y0 9 (jc_I (r_Mo_left h3 y0 (1025 : Int32) v4 y3 y6) (fun v6 h5 => (if v6 = (0 : Int32) then (r_Mo_tested_205 h5 y0 y1 y3 y6 x1) else (r_Mo_tested_196 h5 y0 y1 y3 y4 y6 x1))))))))))))))
theorem t_Mo_tested_163 {h : ja_H} {y0 : Nat} {y1 : Int32} {y3 : Int32} {y4 : Int32} {y6 : Int64} {z0 : Int32} : ja_D ja_gI M_Mo_tested 163 [some (.ref y0), some (.int y1), none, some (.int y3), some (.int y4), none, some (.long y6), none, none, none, none] [.int z0] h (r_Mo_tested_163 h y0 y1 y3 y4 y6 z0) := by
  unfold r_Mo_tested_163
  refine jd_istore (fun x1 => [some (.ref y0), some (.int y1), none, some (.int y3), some (.int y4), none, some (.long y6), none, none, none, some (.int x1)]) i_Mo_tested_163 (by decide) rfl (fun _ => rfl) (fun x1 => ?_)
  refine jd_aload_n i_Mo_tested_165 rfl ?_
  refine jd_iload_n i_Mo_tested_166 rfl ?_
  refine jd_sipush 1025 i_Mo_tested_167 (by decide) ?_
  refine jd_callVV G_Mo_155 in_Mo_copy se_Mo_copy rfl (fun _ e => c_Mo_copy e) rfl ⟨by decide, by decide⟩ rfl (Nat.le_of_ble_eq_true rfl) i_Mo_tested_170 (fun h2 => ?_)
  refine jd_iload i_Mo_tested_173 rfl ?_
  refine jd_if_eq 196 i_Mo_tested_175 (by decide) ?_ ?_
  · exact jd_less (t_Mo_tested_196) ⟨rfl, rfl, rfl, rfl, rfl, rfl, trivial⟩
  · refine jd_aload_n i_Mo_tested_178 rfl ?_
    refine jd_sipush 1025 i_Mo_tested_179 (by decide) ?_
    refine jd_aload_n i_Mo_tested_182 rfl ?_
    refine jd_iload_n i_Mo_tested_183 rfl ?_
    refine jd_callVI G_Mo_107 in_Mo_d se_Mo_d rfl (fun _ e => c_Mo_d e) rfl ⟨by decide, by decide⟩ rfl (Nat.le_of_ble_eq_true rfl) i_Mo_tested_184 (fun v4 h3 => ?_)
    refine jd_iload_n i_Mo_tested_187 rfl ?_
    refine jd_lload i_Mo_tested_188 rfl ?_
    refine jd_callVI G_Mo_240 in_Mo_left se_Mo_left rfl (fun _ e => c_Mo_left e) rfl ⟨by decide, by decide⟩ rfl (Nat.le_of_ble_eq_true rfl) i_Mo_tested_190 (fun v6 h5 => ?_)
    refine jd_if_eq 205 i_Mo_tested_193 (by decide) ?_ ?_
    · exact jd_less (t_Mo_tested_205) ⟨rfl, rfl, rfl, rfl, rfl, trivial⟩
    · exact jd_less (t_Mo_tested_196) ⟨rfl, rfl, rfl, rfl, rfl, rfl, trivial⟩
noncomputable def r_Mo_tested_162 (h : ja_H) (y0 : Nat) (y1 : Int32) (y3 : Int32) (y4 : Int32) (y6 : Int64) : Option (Int32 × ja_H) := (r_Mo_tested_163 h y0 y1 y3 y4 y6 (0 : Int32))
theorem t_Mo_tested_162 {h : ja_H} {y0 : Nat} {y1 : Int32} {y3 : Int32} {y4 : Int32} {y6 : Int64} : ja_D ja_gI M_Mo_tested 162 [some (.ref y0), some (.int y1), none, some (.int y3), some (.int y4), none, some (.long y6), none, none, none, none] [] h (r_Mo_tested_162 h y0 y1 y3 y4 y6) := by
  unfold r_Mo_tested_162
  refine jd_iconst 0 i_Mo_tested_162 (by decide) ?_
  exact jd_less (t_Mo_tested_163) ⟨rfl, rfl, rfl, rfl, rfl, trivial⟩
noncomputable def r_Mo_tested_135 (h : ja_H) (y0 : Nat) (y1 : Int32) (y2 : Int32) (y3 : Int32) (y4 : Int32) (y6 : Int64) (z0 : Int64) : Option (Int32 × ja_H) := (jl (z0 : Int64) (fun (x1 : Int64) => (if (y2 &&& (7 : Int32)) = (5 : Int32) then (if y3 = (4 : Int32) then (r_Mo_tested_162 h y0 y1 y3 y4 y6) else (if y6 = x1 then (r_Mo_tested_163 h y0 y1 y3 y4 y6 (1 : Int32)) else (r_Mo_tested_162 h y0 y1 y3 y4 y6))) else (r_Mo_tested_162 h y0 y1 y3 y4 y6))))
theorem t_Mo_tested_135 {h : ja_H} {y0 : Nat} {y1 : Int32} {y2 : Int32} {y3 : Int32} {y4 : Int32} {y6 : Int64} {z0 : Int64} : ja_D ja_gI M_Mo_tested 135 [some (.ref y0), some (.int y1), some (.int y2), some (.int y3), some (.int y4), none, some (.long y6), none, none, none, none] [.long z0] h (r_Mo_tested_135 h y0 y1 y2 y3 y4 y6 z0) := by
  unfold r_Mo_tested_135
  refine jd_lstore (fun x1 => [some (.ref y0), some (.int y1), some (.int y2), some (.int y3), some (.int y4), none, some (.long y6), none, some (.long x1), none, none]) i_Mo_tested_135 (by decide) rfl (fun _ => rfl) (fun x1 => ?_)
  refine jd_iload_n i_Mo_tested_137 rfl ?_
  refine jd_bipush 7 i_Mo_tested_138 (by decide) ?_
  refine jd_iand i_Mo_tested_140 ?_
  refine jd_iconst 5 i_Mo_tested_141 (by decide) ?_
  refine jd_icmp_ne 162 i_Mo_tested_142 (by decide) ?_ ?_
  · exact jd_less (t_Mo_tested_162) ⟨rfl, rfl, rfl, rfl, rfl, trivial⟩
  · refine jd_iload_n i_Mo_tested_145 rfl ?_
    refine jd_iconst 4 i_Mo_tested_146 (by decide) ?_
    refine jd_icmp_eq 162 i_Mo_tested_147 (by decide) ?_ ?_
    · exact jd_less (t_Mo_tested_162) ⟨rfl, rfl, rfl, rfl, rfl, trivial⟩
    · refine jd_lload i_Mo_tested_150 rfl ?_
      refine jd_lload i_Mo_tested_152 rfl ?_
      refine jd_lcmp_ne 162 i_Mo_tested_154 i_Mo_tested_155 (by decide) ?_ ?_
      · exact jd_less (t_Mo_tested_162) ⟨rfl, rfl, rfl, rfl, rfl, trivial⟩
      · refine jd_iconst 1 i_Mo_tested_158 (by decide) ?_
        refine jd_goto 163 i_Mo_tested_159 (by decide) ?_
        exact jd_less (t_Mo_tested_163) ⟨rfl, rfl, rfl, rfl, rfl, trivial⟩
noncomputable def r_Mo_tested_109 (h : ja_H) (y0 : Nat) (y1 : Int32) (y2 : Int32) (y3 : Int32) (y4 : Int32) (y5 : Int32) (z0 : Int64) : Option (Int32 × ja_H) := (jl (z0 : Int64) (fun (x1 : Int64) => (if y5 = (0 : Int32) then (jk h y0 9 (jc_I (r_Mo_imm h y0 y1) (fun v3 h2 => (r_Mo_tested_135 h2 y0 y1 y2 y3 y4 x1 (Int32.toInt64 v3))))) else (jk h y0 9 (jc_I (r_Mo_s h y0 y1) (fun v5 h4 => (jk h4 y0 9 (jc_L (r_Mo_most h4 y0 y1 v5) (fun v7 h6 => (r_Mo_tested_135 h6 y0 y1 y2 y3 y4 x1 v7))))))))))
theorem t_Mo_tested_109 {h : ja_H} {y0 : Nat} {y1 : Int32} {y2 : Int32} {y3 : Int32} {y4 : Int32} {y5 : Int32} {z0 : Int64} : ja_D ja_gI M_Mo_tested 109 [some (.ref y0), some (.int y1), some (.int y2), some (.int y3), some (.int y4), some (.int y5), none, none, none, none, none] [.long z0] h (r_Mo_tested_109 h y0 y1 y2 y3 y4 y5 z0) := by
  unfold r_Mo_tested_109
  refine jd_lstore (fun x1 => [some (.ref y0), some (.int y1), some (.int y2), some (.int y3), some (.int y4), some (.int y5), some (.long x1), none, none, none, none]) i_Mo_tested_109 (by decide) rfl (fun _ => rfl) (fun x1 => ?_)
  refine jd_iload i_Mo_tested_111 rfl ?_
  refine jd_if_eq 129 i_Mo_tested_113 (by decide) ?_ ?_
  · refine jd_aload_n i_Mo_tested_129 rfl ?_
    refine jd_iload_n i_Mo_tested_130 rfl ?_
    refine jd_callVI G_Mo_92 in_Mo_imm se_Mo_imm rfl (fun _ e => c_Mo_imm e) rfl ⟨by decide, by decide⟩ rfl (Nat.le_of_ble_eq_true rfl) i_Mo_tested_131 (fun v3 h2 => ?_)
    refine jd_i2l i_Mo_tested_134 ?_
    exact jd_less (t_Mo_tested_135) ⟨rfl, rfl, rfl, rfl, rfl, rfl, trivial⟩
  · refine jd_aload_n i_Mo_tested_116 rfl ?_
    refine jd_iload_n i_Mo_tested_117 rfl ?_
    refine jd_aload_n i_Mo_tested_118 rfl ?_
    refine jd_iload_n i_Mo_tested_119 rfl ?_
    refine jd_callVI G_Mo_110 in_Mo_s se_Mo_s rfl (fun _ e => c_Mo_s e) rfl ⟨by decide, by decide⟩ rfl (Nat.le_of_ble_eq_true rfl) i_Mo_tested_120 (fun v5 h4 => ?_)
    refine jd_callVL G_Mo_152 in_Mo_most se_Mo_most rfl (fun _ e => c_Mo_most e) rfl ⟨by decide, by decide⟩ rfl (Nat.le_of_ble_eq_true rfl) i_Mo_tested_123 (fun v7 h6 => ?_)
    refine jd_goto 135 i_Mo_tested_126 (by decide) ?_
    exact jd_less (t_Mo_tested_135) ⟨rfl, rfl, rfl, rfl, rfl, rfl, trivial⟩
noncomputable def r_Mo_tested_85 (h : ja_H) (y0 : Nat) (y1 : Int32) (y2 : Int32) (y3 : Int32) (y4 : Int32) (y5 : Int32) : Option (Int32 × ja_H) := (if y5 = (0 : Int32) then (jk h y0 9 (jc_I (r_Mo_imm h y0 y1) (fun v2 h1 => (r_Mo_tested_109 h1 y0 y1 y2 y3 y4 y5 (Int32.toInt64 v2))))) else (jk h y0 9 (jc_I (r_Mo_s h y0 y1) (fun v4 h3 => (jk h3 y0 9 (jc_L (r_Mo_least h3 y0 y1 v4) (fun v6 h5 => (r_Mo_tested_109 h5 y0 y1 y2 y3 y4 y5 v6))))))))
theorem t_Mo_tested_85 {h : ja_H} {y0 : Nat} {y1 : Int32} {y2 : Int32} {y3 : Int32} {y4 : Int32} {y5 : Int32} : ja_D ja_gI M_Mo_tested 85 [some (.ref y0), some (.int y1), some (.int y2), some (.int y3), some (.int y4), some (.int y5), none, none, none, none, none] [] h (r_Mo_tested_85 h y0 y1 y2 y3 y4 y5) := by
  unfold r_Mo_tested_85
  refine jd_iload i_Mo_tested_85 rfl ?_
  refine jd_if_eq 103 i_Mo_tested_87 (by decide) ?_ ?_
  · refine jd_aload_n i_Mo_tested_103 rfl ?_
    refine jd_iload_n i_Mo_tested_104 rfl ?_
    refine jd_callVI G_Mo_92 in_Mo_imm se_Mo_imm rfl (fun _ e => c_Mo_imm e) rfl ⟨by decide, by decide⟩ rfl (Nat.le_of_ble_eq_true rfl) i_Mo_tested_105 (fun v2 h1 => ?_)
    refine jd_i2l i_Mo_tested_108 ?_
    exact jd_less (t_Mo_tested_109) ⟨rfl, rfl, rfl, rfl, rfl, rfl, trivial⟩
  · refine jd_aload_n i_Mo_tested_90 rfl ?_
    refine jd_iload_n i_Mo_tested_91 rfl ?_
    refine jd_aload_n i_Mo_tested_92 rfl ?_
    refine jd_iload_n i_Mo_tested_93 rfl ?_
    refine jd_callVI G_Mo_110 in_Mo_s se_Mo_s rfl (fun _ e => c_Mo_s e) rfl ⟨by decide, by decide⟩ rfl (Nat.le_of_ble_eq_true rfl) i_Mo_tested_94 (fun v4 h3 => ?_)
    refine jd_callVL G_Mo_148 in_Mo_least se_Mo_least rfl (fun _ e => c_Mo_least e) rfl ⟨by decide, by decide⟩ rfl (Nat.le_of_ble_eq_true rfl) i_Mo_tested_97 (fun v6 h5 => ?_)
    refine jd_goto 109 i_Mo_tested_100 (by decide) ?_
    exact jd_less (t_Mo_tested_109) ⟨rfl, rfl, rfl, rfl, rfl, rfl, trivial⟩
noncomputable def r_Mo_tested_82 (h : ja_H) : Option (Int32 × ja_H) := (some ((8 : Int32), h))
theorem t_Mo_tested_82 {h : ja_H} : ja_D ja_gI M_Mo_tested 82 [none, none, none, none, none, none, none, none, none, none, none] [] h (r_Mo_tested_82 h) := by
  unfold r_Mo_tested_82
  refine jd_bipush 8 i_Mo_tested_82 (by decide) ?_
  exact jd_ireturn i_Mo_tested_84 rfl
noncomputable def r_Mo_tested_49 (h : ja_H) (y0 : Nat) (y1 : Int32) (y2 : Int32) (y3 : Int32) (y4 : Int32) (z0 : Int32) : Option (Int32 × ja_H) := (jl (z0 : Int32) (fun (x1 : Int32) => (jk h y0 9 (jc_I (r_Mo_d h y0 y1) (fun v3 h2 => (jk h2 y0 9 (jc_I (r_Mo_pointer h2 y0 y1 v3) (fun v5 h4 => (if v5 = (0 : Int32) then (if x1 = (0 : Int32) then (r_Mo_tested_85 h4 y0 y1 y2 y3 y4 x1) else (jk h4 y0 9 (jc_I (r_Mo_s h4 y0 y1) (fun v7 h6 => (jk h6 y0 9 (jc_I (r_Mo_pointer h6 y0 y1 v7) (fun v9 h8 => (if v9 = (0 : Int32) then (r_Mo_tested_85 h8 y0 y1 y2 y3 y4 x1) else (r_Mo_tested_82 h8))))))))) else (r_Mo_tested_82 h4))))))))))
theorem t_Mo_tested_49 {h : ja_H} {y0 : Nat} {y1 : Int32} {y2 : Int32} {y3 : Int32} {y4 : Int32} {z0 : Int32} : ja_D ja_gI M_Mo_tested 49 [some (.ref y0), some (.int y1), some (.int y2), some (.int y3), some (.int y4), none, none, none, none, none, none] [.int z0] h (r_Mo_tested_49 h y0 y1 y2 y3 y4 z0) := by
  unfold r_Mo_tested_49
  refine jd_istore (fun x1 => [some (.ref y0), some (.int y1), some (.int y2), some (.int y3), some (.int y4), some (.int x1), none, none, none, none, none]) i_Mo_tested_49 (by decide) rfl (fun _ => rfl) (fun x1 => ?_)
  refine jd_aload_n i_Mo_tested_51 rfl ?_
  refine jd_iload_n i_Mo_tested_52 rfl ?_
  refine jd_aload_n i_Mo_tested_53 rfl ?_
  refine jd_iload_n i_Mo_tested_54 rfl ?_
  refine jd_callVI G_Mo_107 in_Mo_d se_Mo_d rfl (fun _ e => c_Mo_d e) rfl ⟨by decide, by decide⟩ rfl (Nat.le_of_ble_eq_true rfl) i_Mo_tested_55 (fun v3 h2 => ?_)
  refine jd_callVI G_Mo_159 in_Mo_pointer se_Mo_pointer rfl (fun _ e => c_Mo_pointer e) rfl ⟨by decide, by decide⟩ rfl (Nat.le_of_ble_eq_true rfl) i_Mo_tested_58 (fun v5 h4 => ?_)
  refine jd_if_ne 82 i_Mo_tested_61 (by decide) ?_ ?_
  · exact jd_less (t_Mo_tested_82) trivial
  · refine jd_iload i_Mo_tested_64 rfl ?_
    refine jd_if_eq 85 i_Mo_tested_66 (by decide) ?_ ?_
    · exact jd_less (t_Mo_tested_85) ⟨rfl, rfl, rfl, rfl, rfl, rfl, trivial⟩
    · refine jd_aload_n i_Mo_tested_69 rfl ?_
      refine jd_iload_n i_Mo_tested_70 rfl ?_
      refine jd_aload_n i_Mo_tested_71 rfl ?_
      refine jd_iload_n i_Mo_tested_72 rfl ?_
      refine jd_callVI G_Mo_110 in_Mo_s se_Mo_s rfl (fun _ e => c_Mo_s e) rfl ⟨by decide, by decide⟩ rfl (Nat.le_of_ble_eq_true rfl) i_Mo_tested_73 (fun v7 h6 => ?_)
      refine jd_callVI G_Mo_159 in_Mo_pointer se_Mo_pointer rfl (fun _ e => c_Mo_pointer e) rfl ⟨by decide, by decide⟩ rfl (Nat.le_of_ble_eq_true rfl) i_Mo_tested_76 (fun v9 h8 => ?_)
      refine jd_if_eq 85 i_Mo_tested_79 (by decide) ?_ ?_
      · exact jd_less (t_Mo_tested_85) ⟨rfl, rfl, rfl, rfl, rfl, rfl, trivial⟩
      · exact jd_less (t_Mo_tested_82) trivial
noncomputable def r_Mo_tested (h : ja_H) (a0 : Nat) (a1 : Int32) : Option (Int32 × ja_H) := (jk h a0 9 (jc_I (r_Mo_op h a0 a1) (fun v102 h101 => (jl (v102 : Int32) (fun (x103 : Int32) => (jl ((x103 >>> ((4 : Int32) &&& 31)) : Int32) (fun (x104 : Int32) => (jk h101 a0 9 (jc_I (r_Mo_off h101 a0 a1) (fun v106 h105 => (jl (((a1 + (1 : Int32)) + v106) : Int32) (fun (x107 : Int32) => (jc_I (r_Mo_go h105 x103) (fun v109 h108 => (if v109 = (0 : Int32) then (if (x103 &&& (8 : Int32)) = (0 : Int32) then (r_Mo_tested_49 h108 a0 a1 x103 x104 x107 (0 : Int32)) else (r_Mo_tested_49 h108 a0 a1 x103 x104 x107 (1 : Int32))) else (jk h108 a0 9 (jc_V (r_Mo_comes h108 a0 a1 x107) (fun h110 => (some ((0 : Int32), h110))))))))))))))))))))
theorem e_Mo_tested {h : ja_H} {a0 : Nat} {a1 : Int32} : ja_D ja_gI M_Mo_tested 0 [some (.ref a0), some (.int a1), none, none, none, none, none, none, none, none, none] [] h (r_Mo_tested h a0 a1) := by
  unfold r_Mo_tested
  refine jd_aload_n i_Mo_tested_0 rfl ?_
  refine jd_iload_n i_Mo_tested_1 rfl ?_
  refine jd_callVI G_Mo_78 in_Mo_op se_Mo_op rfl (fun _ e => c_Mo_op e) rfl ⟨by decide, by decide⟩ rfl (Nat.le_of_ble_eq_true rfl) i_Mo_tested_2 (fun v102 h101 => ?_)
  refine jd_istore_n (fun x103 => [some (.ref a0), some (.int a1), some (.int x103), none, none, none, none, none, none, none, none]) i_Mo_tested_5 (by decide) rfl (fun _ => rfl) (fun x103 => ?_)
  refine jd_iload_n i_Mo_tested_6 rfl ?_
  refine jd_iconst 4 i_Mo_tested_7 (by decide) ?_
  refine jd_ishr i_Mo_tested_8 ?_
  refine jd_istore_n (fun x104 => [some (.ref a0), some (.int a1), some (.int x103), some (.int x104), none, none, none, none, none, none, none]) i_Mo_tested_9 (by decide) rfl (fun _ => rfl) (fun x104 => ?_)
  refine jd_iload_n i_Mo_tested_10 rfl ?_
  refine jd_iconst 1 i_Mo_tested_11 (by decide) ?_
  refine jd_iadd i_Mo_tested_12 ?_
  refine jd_aload_n i_Mo_tested_13 rfl ?_
  refine jd_iload_n i_Mo_tested_14 rfl ?_
  refine jd_callVI G_Mo_119 in_Mo_off se_Mo_off rfl (fun _ e => c_Mo_off e) rfl ⟨by decide, by decide⟩ rfl (Nat.le_of_ble_eq_true rfl) i_Mo_tested_15 (fun v106 h105 => ?_)
  refine jd_iadd i_Mo_tested_18 ?_
  refine jd_istore (fun x107 => [some (.ref a0), some (.int a1), some (.int x103), some (.int x104), some (.int x107), none, none, none, none, none, none]) i_Mo_tested_19 (by decide) rfl (fun _ => rfl) (fun x107 => ?_)
  refine jd_iload_n i_Mo_tested_21 rfl ?_
  refine jd_callSI G_Mo_101 sc_Mo_go (fun _ e => c_Mo_go e) rfl ⟨by decide, by decide⟩ rfl (Nat.le_of_ble_eq_true rfl) i_Mo_tested_22 (fun v109 h108 => ?_)
  refine jd_if_eq 37 i_Mo_tested_25 (by decide) ?_ ?_
  · refine jd_iload_n i_Mo_tested_37 rfl ?_
    refine jd_bipush 8 i_Mo_tested_38 (by decide) ?_
    refine jd_iand i_Mo_tested_40 ?_
    refine jd_if_eq 48 i_Mo_tested_41 (by decide) ?_ ?_
    · refine jd_iconst 0 i_Mo_tested_48 (by decide) ?_
      exact jd_less (t_Mo_tested_49) ⟨rfl, rfl, rfl, rfl, rfl, trivial⟩
    · refine jd_iconst 1 i_Mo_tested_44 (by decide) ?_
      refine jd_goto 49 i_Mo_tested_45 (by decide) ?_
      exact jd_less (t_Mo_tested_49) ⟨rfl, rfl, rfl, rfl, rfl, trivial⟩
  · refine jd_aload_n i_Mo_tested_28 rfl ?_
    refine jd_iload_n i_Mo_tested_29 rfl ?_
    refine jd_iload i_Mo_tested_30 rfl ?_
    refine jd_callVV G_Mo_186 in_Mo_comes se_Mo_comes rfl (fun _ e => c_Mo_comes e) rfl ⟨by decide, by decide⟩ rfl (Nat.le_of_ble_eq_true rfl) i_Mo_tested_32 (fun h110 => ?_)
    refine jd_iconst 0 i_Mo_tested_35 (by decide) ?_
    exact jd_ireturn i_Mo_tested_36 rfl
theorem c_Mo_tested {h : ja_H} {a0 : Nat} {a1 : Int32} {o : Int32 × ja_H} (e : r_Mo_tested h a0 a1 = some o) : ja_M (3, 76) y_Mo_tested b_Mo_tested 11 (some .int) [.ref a0, .int a1] h [.int o.1] o.2 := jc_of (g := ja_gI) false _ e e_Mo_tested rfl (by decide +kernel) (fun q => nomatch q) (Nat.le_of_ble_eq_true rfl) (fun _ q => nomatch q) (Nat.le_of_ble_eq_true rfl)
noncomputable def r_Mo_one_209 (h : ja_H) (y3 : Int32) : Option (Int32 × ja_H) := (some (y3, h))
theorem t_Mo_one_209 {h : ja_H} {y3 : Int32} : ja_D ja_gI M_Mo_one 209 [none, none, none, some (.int y3), none, none, none] [] h (r_Mo_one_209 h y3) := by
  unfold r_Mo_one_209
  refine jd_iload_n i_Mo_one_209 rfl ?_
  exact jd_ireturn i_Mo_one_210 rfl
noncomputable def r_Mo_one_196 (h : ja_H) (y0 : Nat) (y3 : Int32) (y4 : Int32) : Option (Int32 × ja_H) := (if y3 = (0 : Int32) then (jk h y0 9 (jc_V (r_Mo_comes h y0 (1024 : Int32) y4) (fun h1 => (r_Mo_one_209 h1 y3)))) else (r_Mo_one_209 h y3))
theorem t_Mo_one_196 {h : ja_H} {y0 : Nat} {y3 : Int32} {y4 : Int32} : ja_D ja_gI M_Mo_one 196 [some (.ref y0), none, none, some (.int y3), some (.int y4), none, none] [] h (r_Mo_one_196 h y0 y3 y4) := by
  unfold r_Mo_one_196
  refine jd_iload_n i_Mo_one_196 rfl ?_
  refine jd_if_ne 209 i_Mo_one_197 (by decide) ?_ ?_
  · exact jd_less (t_Mo_one_209) ⟨rfl, trivial⟩
  · refine jd_aload_n i_Mo_one_200 rfl ?_
    refine jd_sipush 1024 i_Mo_one_201 (by decide) ?_
    refine jd_iload i_Mo_one_204 rfl ?_
    refine jd_callVV G_Mo_186 in_Mo_comes se_Mo_comes rfl (fun _ e => c_Mo_comes e) rfl ⟨by decide, by decide⟩ rfl (Nat.le_of_ble_eq_true rfl) i_Mo_one_206 (fun h1 => ?_)
    exact jd_less (t_Mo_one_209) ⟨rfl, trivial⟩
noncomputable def r_Mo_one_102 (h : ja_H) (z0 : Int32) : Option (Int32 × ja_H) := (some (z0, h))
theorem t_Mo_one_102 {h : ja_H} {z0 : Int32} : ja_D ja_gI M_Mo_one 102 [none, none, none, none, none, none, none] [.int z0] h (r_Mo_one_102 h z0) := by
  unfold r_Mo_one_102
  exact jd_ireturn i_Mo_one_102 rfl
noncomputable def r_Mo_one_45 (h : ja_H) (y0 : Nat) (y1 : Int32) : Option (Int32 × ja_H) := (jk h y0 9 (jc_I (r_Mo_op h y0 y1) (fun v2 h1 => (jl (v2 : Int32) (fun (x3 : Int32) => (jl ((0 : Int32) : Int32) (fun (x4 : Int32) => (jl ((y1 + (1 : Int32)) : Int32) (fun (x5 : Int32) => (jc_I (r_Mo_test h1 x3) (fun v7 h6 => (if v7 = (0 : Int32) then (jk h6 y0 9 (jc_V (r_Mo_copy h6 y0 y1 (1024 : Int32)) (fun h8 => (if x3 = (149 : Int32) then (jk h8 y0 9 (jc_I (r_Mo_is h8 y0 y1 (0 : Int32)) (fun v32 h31 => (if v32 = (1 : Int32) then (r_Mo_one_102 h31 (0 : Int32)) else (r_Mo_one_102 h31 (14 : Int32)))))) else (if x3 = (24 : Int32) then (jk h8 y0 9 (jc_I (r_Mo_imm h8 y0 y1) (fun v23 h22 => (jk h22 y0 9 (jc_I (r_Mo_imm h22 y0 (y1 + (1 : Int32))) (fun v25 h24 => (jl ((((Int32.toInt64 v23) &&& (4294967295 : Int64)) ||| ((Int32.toInt64 v25) <<< (Int32.toInt64 (32 : Int32) &&& 63))) : Int64) (fun (x26 : Int64) => (jk h24 y0 9 (jc_I (r_Mo_d h24 y0 y1) (fun v28 h27 => (jk h27 y0 9 (jc_V (r_Mo_give h27 y0 (1024 : Int32) v28 (1 : Int32) x26 x26) (fun h29 => (jl ((y1 + (2 : Int32)) : Int32) (fun (x30 : Int32) => (r_Mo_one_196 h29 y0 x4 x30))))))))))))))))) else (jc_I (r_Mo_sum h8 x3) (fun v10 h9 => (if v10 = (0 : Int32) then (jc_I (r_Mo_reads h9 x3) (fun v12 h11 => (if v12 = (0 : Int32) then (jk h11 y0 9 (jc_I (r_Mo_stored h11 y0 y1) (fun v14 h13 => (jl (v14 : Int32) (fun (x15 : Int32) => (r_Mo_one_196 h13 y0 x15 x5)))))) else (jk h11 y0 9 (jc_I (r_Mo_read h11 y0 y1) (fun v17 h16 => (jl (v17 : Int32) (fun (x18 : Int32) => (r_Mo_one_196 h16 y0 x18 x5))))))))) else (jk h9 y0 9 (jc_I (r_Mo_summed h9 y0 y1) (fun v20 h19 => (jl (v20 : Int32) (fun (x21 : Int32) => (r_Mo_one_196 h19 y0 x21 x5)))))))))))))) else (jk h6 y0 9 (jc_I (r_Mo_tested h6 y0 y1) (fun v34 h33 => (some (v34, h33)))))))))))))))))
theorem t_Mo_one_45 {h : ja_H} {y0 : Nat} {y1 : Int32} : ja_D ja_gI M_Mo_one 45 [some (.ref y0), some (.int y1), none, none, none, none, none] [] h (r_Mo_one_45 h y0 y1) := by
  unfold r_Mo_one_45
  refine jd_aload_n i_Mo_one_45 rfl ?_
  refine jd_iload_n i_Mo_one_46 rfl ?_
  refine jd_callVI G_Mo_78 in_Mo_op se_Mo_op rfl (fun _ e => c_Mo_op e) rfl ⟨by decide, by decide⟩ rfl (Nat.le_of_ble_eq_true rfl) i_Mo_one_47 (fun v2 h1 => ?_)
  refine jd_istore_n (fun x3 => [some (.ref y0), some (.int y1), some (.int x3), none, none, none, none]) i_Mo_one_50 (by decide) rfl (fun _ => rfl) (fun x3 => ?_)
  refine jd_iconst 0 i_Mo_one_51 (by decide) ?_
  refine jd_istore_n (fun x4 => [some (.ref y0), some (.int y1), some (.int x3), some (.int x4), none, none, none]) i_Mo_one_52 (by decide) rfl (fun _ => rfl) (fun x4 => ?_)
  refine jd_iload_n i_Mo_one_53 rfl ?_
  refine jd_iconst 1 i_Mo_one_54 (by decide) ?_
  refine jd_iadd i_Mo_one_55 ?_
  refine jd_istore (fun x5 => [some (.ref y0), some (.int y1), some (.int x3), some (.int x4), some (.int x5), none, none]) i_Mo_one_56 (by decide) rfl (fun _ => rfl) (fun x5 => ?_)
  refine jd_iload_n i_Mo_one_58 rfl ?_
  refine jd_callSI G_Mo_98 sc_Mo_test (fun _ e => c_Mo_test e) rfl ⟨by decide, by decide⟩ rfl (Nat.le_of_ble_eq_true rfl) i_Mo_one_59 (fun v7 h6 => ?_)
  refine jd_if_eq 71 i_Mo_one_62 (by decide) ?_ ?_
  · refine jd_aload_n i_Mo_one_71 rfl ?_
    refine jd_iload_n i_Mo_one_72 rfl ?_
    refine jd_sipush 1024 i_Mo_one_73 (by decide) ?_
    refine jd_callVV G_Mo_155 in_Mo_copy se_Mo_copy rfl (fun _ e => c_Mo_copy e) rfl ⟨by decide, by decide⟩ rfl (Nat.le_of_ble_eq_true rfl) i_Mo_one_76 (fun h8 => ?_)
    refine jd_iload_n i_Mo_one_79 rfl ?_
    refine jd_sipush 149 i_Mo_one_80 (by decide) ?_
    refine jd_icmp_ne 103 i_Mo_one_83 (by decide) ?_ ?_
    · refine jd_iload_n i_Mo_one_103 rfl ?_
      refine jd_bipush 24 i_Mo_one_104 (by decide) ?_
      refine jd_icmp_ne 158 i_Mo_one_106 (by decide) ?_ ?_
      · refine jd_iload_n i_Mo_one_158 rfl ?_
        refine jd_callSI G_Mo_95 sc_Mo_sum (fun _ e => c_Mo_sum e) rfl ⟨by decide, by decide⟩ rfl (Nat.le_of_ble_eq_true rfl) i_Mo_one_159 (fun v10 h9 => ?_)
        refine jd_if_eq 174 i_Mo_one_162 (by decide) ?_ ?_
        · refine jd_iload_n i_Mo_one_174 rfl ?_
          refine jd_callSI G_Mo_82 sc_Mo_reads (fun _ e => c_Mo_reads e) rfl ⟨by decide, by decide⟩ rfl (Nat.le_of_ble_eq_true rfl) i_Mo_one_175 (fun v12 h11 => ?_)
          refine jd_if_eq 190 i_Mo_one_178 (by decide) ?_ ?_
          · refine jd_aload_n i_Mo_one_190 rfl ?_
            refine jd_iload_n i_Mo_one_191 rfl ?_
            refine jd_callVI G_Mo_183 in_Mo_stored se_Mo_stored rfl (fun _ e => c_Mo_stored e) rfl ⟨by decide, by decide⟩ rfl (Nat.le_of_ble_eq_true rfl) i_Mo_one_192 (fun v14 h13 => ?_)
            refine jd_istore_n (fun x15 => [some (.ref y0), some (.int y1), some (.int x3), some (.int x15), some (.int x5), none, none]) i_Mo_one_195 (by decide) rfl (fun _ => rfl) (fun x15 => ?_)
            exact jd_less (t_Mo_one_196) ⟨rfl, rfl, rfl, trivial⟩
          · refine jd_aload_n i_Mo_one_181 rfl ?_
            refine jd_iload_n i_Mo_one_182 rfl ?_
            refine jd_callVI G_Mo_180 in_Mo_read se_Mo_read rfl (fun _ e => c_Mo_read e) rfl ⟨by decide, by decide⟩ rfl (Nat.le_of_ble_eq_true rfl) i_Mo_one_183 (fun v17 h16 => ?_)
            refine jd_istore_n (fun x18 => [some (.ref y0), some (.int y1), some (.int x3), some (.int x18), some (.int x5), none, none]) i_Mo_one_186 (by decide) rfl (fun _ => rfl) (fun x18 => ?_)
            refine jd_goto 196 i_Mo_one_187 (by decide) ?_
            exact jd_less (t_Mo_one_196) ⟨rfl, rfl, rfl, trivial⟩
        · refine jd_aload_n i_Mo_one_165 rfl ?_
          refine jd_iload_n i_Mo_one_166 rfl ?_
          refine jd_callVI G_Mo_177 in_Mo_summed se_Mo_summed rfl (fun _ e => c_Mo_summed e) rfl ⟨by decide, by decide⟩ rfl (Nat.le_of_ble_eq_true rfl) i_Mo_one_167 (fun v20 h19 => ?_)
          refine jd_istore_n (fun x21 => [some (.ref y0), some (.int y1), some (.int x3), some (.int x21), some (.int x5), none, none]) i_Mo_one_170 (by decide) rfl (fun _ => rfl) (fun x21 => ?_)
          refine jd_goto 196 i_Mo_one_171 (by decide) ?_
          exact jd_less (t_Mo_one_196) ⟨rfl, rfl, rfl, trivial⟩
      · refine jd_aload_n i_Mo_one_109 rfl ?_
        refine jd_iload_n i_Mo_one_110 rfl ?_
        refine jd_callVI G_Mo_92 in_Mo_imm se_Mo_imm rfl (fun _ e => c_Mo_imm e) rfl ⟨by decide, by decide⟩ rfl (Nat.le_of_ble_eq_true rfl) i_Mo_one_111 (fun v23 h22 => ?_)
        refine jd_i2l i_Mo_one_114 ?_
        refine jd_ldc2 i_Mo_one_115 K_Mo_122 ?_
        refine jd_land i_Mo_one_118 ?_
        refine jd_aload_n i_Mo_one_119 rfl ?_
        refine jd_iload_n i_Mo_one_120 rfl ?_
        refine jd_iconst 1 i_Mo_one_121 (by decide) ?_
        refine jd_iadd i_Mo_one_122 ?_
        refine jd_callVI G_Mo_92 in_Mo_imm se_Mo_imm rfl (fun _ e => c_Mo_imm e) rfl ⟨by decide, by decide⟩ rfl (Nat.le_of_ble_eq_true rfl) i_Mo_one_123 (fun v25 h24 => ?_)
        refine jd_i2l i_Mo_one_126 ?_
        refine jd_bipush 32 i_Mo_one_127 (by decide) ?_
        refine jd_lshl i_Mo_one_129 ?_
        refine jd_lor i_Mo_one_130 ?_
        refine jd_lstore (fun x26 => [some (.ref y0), some (.int y1), some (.int x3), some (.int x4), some (.int x5), some (.long x26), none]) i_Mo_one_131 (by decide) rfl (fun _ => rfl) (fun x26 => ?_)
        refine jd_aload_n i_Mo_one_133 rfl ?_
        refine jd_sipush 1024 i_Mo_one_134 (by decide) ?_
        refine jd_aload_n i_Mo_one_137 rfl ?_
        refine jd_iload_n i_Mo_one_138 rfl ?_
        refine jd_callVI G_Mo_107 in_Mo_d se_Mo_d rfl (fun _ e => c_Mo_d e) rfl ⟨by decide, by decide⟩ rfl (Nat.le_of_ble_eq_true rfl) i_Mo_one_139 (fun v28 h27 => ?_)
        refine jd_iconst 1 i_Mo_one_142 (by decide) ?_
        refine jd_lload i_Mo_one_143 rfl ?_
        refine jd_lload i_Mo_one_145 rfl ?_
        refine jd_callVV G_Mo_144 in_Mo_give se_Mo_give rfl (fun _ e => c_Mo_give e) rfl ⟨by decide, by decide⟩ rfl (Nat.le_of_ble_eq_true rfl) i_Mo_one_147 (fun h29 => ?_)
        refine jd_iload_n i_Mo_one_150 rfl ?_
        refine jd_iconst 2 i_Mo_one_151 (by decide) ?_
        refine jd_iadd i_Mo_one_152 ?_
        refine jd_istore (fun x30 => [some (.ref y0), some (.int y1), some (.int x3), some (.int x4), some (.int x30), some (.long x26), none]) i_Mo_one_153 (by decide) rfl (fun _ => rfl) (fun x30 => ?_)
        refine jd_goto 196 i_Mo_one_155 (by decide) ?_
        exact jd_less (t_Mo_one_196) ⟨rfl, rfl, rfl, trivial⟩
    · refine jd_aload_n i_Mo_one_86 rfl ?_
      refine jd_iload_n i_Mo_one_87 rfl ?_
      refine jd_iconst 0 i_Mo_one_88 (by decide) ?_
      refine jd_callVI G_Mo_140 in_Mo_is se_Mo_is rfl (fun _ e => c_Mo_is e) rfl ⟨by decide, by decide⟩ rfl (Nat.le_of_ble_eq_true rfl) i_Mo_one_89 (fun v32 h31 => ?_)
      refine jd_iconst 1 i_Mo_one_92 (by decide) ?_
      refine jd_icmp_ne 100 i_Mo_one_93 (by decide) ?_ ?_
      · refine jd_bipush 14 i_Mo_one_100 (by decide) ?_
        exact jd_less (t_Mo_one_102) trivial
      · refine jd_iconst 0 i_Mo_one_96 (by decide) ?_
        refine jd_goto 102 i_Mo_one_97 (by decide) ?_
        exact jd_less (t_Mo_one_102) trivial
  · refine jd_aload_n i_Mo_one_65 rfl ?_
    refine jd_iload_n i_Mo_one_66 rfl ?_
    refine jd_callVI G_Mo_174 in_Mo_tested se_Mo_tested rfl (fun _ e => c_Mo_tested e) rfl ⟨by decide, by decide⟩ rfl (Nat.le_of_ble_eq_true rfl) i_Mo_one_67 (fun v34 h33 => ?_)
    exact jd_ireturn i_Mo_one_70 rfl
noncomputable def r_Mo_one_42 (h : ja_H) : Option (Int32 × ja_H) := (some ((6 : Int32), h))
theorem t_Mo_one_42 {h : ja_H} : ja_D ja_gI M_Mo_one 42 [none, none, none, none, none, none, none] [] h (r_Mo_one_42 h) := by
  unfold r_Mo_one_42
  refine jd_bipush 6 i_Mo_one_42 (by decide) ?_
  exact jd_ireturn i_Mo_one_44 rfl
noncomputable def r_Mo_one_21 (h : ja_H) (y0 : Nat) (y1 : Int32) : Option (Int32 × ja_H) := (jk h y0 9 (jc_I (r_Mo_usesS h y0 y1) (fun v2 h1 => (if v2 = (0 : Int32) then (r_Mo_one_45 h1 y0 y1) else (jk h1 y0 9 (jc_I (r_Mo_s h1 y0 y1) (fun v4 h3 => (jk h3 y0 9 (jc_I (r_Mo_is h3 y0 y1 v4) (fun v6 h5 => (if v6 = (0 : Int32) then (r_Mo_one_42 h5) else (r_Mo_one_45 h5 y0 y1))))))))))))
theorem t_Mo_one_21 {h : ja_H} {y0 : Nat} {y1 : Int32} : ja_D ja_gI M_Mo_one 21 [some (.ref y0), some (.int y1), none, none, none, none, none] [] h (r_Mo_one_21 h y0 y1) := by
  unfold r_Mo_one_21
  refine jd_aload_n i_Mo_one_21 rfl ?_
  refine jd_iload_n i_Mo_one_22 rfl ?_
  refine jd_callVI G_Mo_116 in_Mo_usesS se_Mo_usesS rfl (fun _ e => c_Mo_usesS e) rfl ⟨by decide, by decide⟩ rfl (Nat.le_of_ble_eq_true rfl) i_Mo_one_23 (fun v2 h1 => ?_)
  refine jd_if_eq 45 i_Mo_one_26 (by decide) ?_ ?_
  · exact jd_less (t_Mo_one_45) ⟨rfl, rfl, trivial⟩
  · refine jd_aload_n i_Mo_one_29 rfl ?_
    refine jd_iload_n i_Mo_one_30 rfl ?_
    refine jd_aload_n i_Mo_one_31 rfl ?_
    refine jd_iload_n i_Mo_one_32 rfl ?_
    refine jd_callVI G_Mo_110 in_Mo_s se_Mo_s rfl (fun _ e => c_Mo_s e) rfl ⟨by decide, by decide⟩ rfl (Nat.le_of_ble_eq_true rfl) i_Mo_one_33 (fun v4 h3 => ?_)
    refine jd_callVI G_Mo_140 in_Mo_is se_Mo_is rfl (fun _ e => c_Mo_is e) rfl ⟨by decide, by decide⟩ rfl (Nat.le_of_ble_eq_true rfl) i_Mo_one_36 (fun v6 h5 => ?_)
    refine jd_if_ne 45 i_Mo_one_39 (by decide) ?_ ?_
    · exact jd_less (t_Mo_one_45) ⟨rfl, rfl, trivial⟩
    · exact jd_less (t_Mo_one_42) trivial
noncomputable def r_Mo_one (h : ja_H) (a0 : Nat) (a1 : Int32) : Option (Int32 × ja_H) := (jk h a0 9 (jc_I (r_Mo_usesD h a0 a1) (fun v102 h101 => (if v102 = (0 : Int32) then (r_Mo_one_21 h101 a0 a1) else (jk h101 a0 9 (jc_I (r_Mo_d h101 a0 a1) (fun v104 h103 => (jk h103 a0 9 (jc_I (r_Mo_is h103 a0 a1 v104) (fun v106 h105 => (if v106 = (0 : Int32) then (r_Mo_one_42 h105) else (r_Mo_one_21 h105 a0 a1))))))))))))
theorem e_Mo_one {h : ja_H} {a0 : Nat} {a1 : Int32} : ja_D ja_gI M_Mo_one 0 [some (.ref a0), some (.int a1), none, none, none, none, none] [] h (r_Mo_one h a0 a1) := by
  unfold r_Mo_one
  refine jd_aload_n i_Mo_one_0 rfl ?_
  refine jd_iload_n i_Mo_one_1 rfl ?_
  refine jd_callVI G_Mo_171 in_Mo_usesD se_Mo_usesD rfl (fun _ e => c_Mo_usesD e) rfl ⟨by decide, by decide⟩ rfl (Nat.le_of_ble_eq_true rfl) i_Mo_one_2 (fun v102 h101 => ?_)
  refine jd_if_eq 21 i_Mo_one_5 (by decide) ?_ ?_
  · exact jd_less (t_Mo_one_21) ⟨rfl, rfl, trivial⟩
  · refine jd_aload_n i_Mo_one_8 rfl ?_
    refine jd_iload_n i_Mo_one_9 rfl ?_
    refine jd_aload_n i_Mo_one_10 rfl ?_
    refine jd_iload_n i_Mo_one_11 rfl ?_
    refine jd_callVI G_Mo_107 in_Mo_d se_Mo_d rfl (fun _ e => c_Mo_d e) rfl ⟨by decide, by decide⟩ rfl (Nat.le_of_ble_eq_true rfl) i_Mo_one_12 (fun v104 h103 => ?_)
    refine jd_callVI G_Mo_140 in_Mo_is se_Mo_is rfl (fun _ e => c_Mo_is e) rfl ⟨by decide, by decide⟩ rfl (Nat.le_of_ble_eq_true rfl) i_Mo_one_15 (fun v106 h105 => ?_)
    refine jd_if_eq 42 i_Mo_one_18 (by decide) ?_ ?_
    · exact jd_less (t_Mo_one_42) trivial
    · exact jd_less (t_Mo_one_21) ⟨rfl, rfl, trivial⟩
theorem c_Mo_one {h : ja_H} {a0 : Nat} {a1 : Int32} {o : Int32 × ja_H} (e : r_Mo_one h a0 a1 = some o) : ja_M (4, 163) y_Mo_one b_Mo_one 7 (some .int) [.ref a0, .int a1] h [.int o.1] o.2 := jc_of (g := ja_gI) false _ e e_Mo_one rfl (by decide +kernel) (fun q => nomatch q) (Nat.le_of_ble_eq_true rfl) (fun _ q => nomatch q) (Nat.le_of_ble_eq_true rfl)
noncomputable def r_Mo_verify_214 (C179 : ja_H → Nat → Int32 → Option (Int32 × ja_H)) (h : ja_H) (y0 : Nat) (y1 : Int32) : Option (Int32 × ja_H) := (jl (y1 + 1 : Int32) (fun (x1 : Int32) => (C179 h y0 x1)))
theorem t_Mo_verify_214 {C179 : ja_H → Nat → Int32 → Option (Int32 × ja_H)} (k179 : ∀ (h : ja_H) (y0 : Nat) (y1 : Int32), ja_D ja_gI M_Mo_verify 179 [some (.ref y0), some (.int y1)] [] h (C179 h y0 y1)) {h : ja_H} {y0 : Nat} {y1 : Int32} : ja_D ja_gI M_Mo_verify 214 [some (.ref y0), some (.int y1)] [] h (r_Mo_verify_214 C179 h y0 y1) := by
  unfold r_Mo_verify_214
  refine jd_iinc (fun x1 => [some (.ref y0), some (.int x1)]) i_Mo_verify_214 rfl rfl (by decide) rfl (fun _ => rfl) (fun x1 => ?_)
  refine jd_goto 179 i_Mo_verify_217 (by decide) ?_
  exact jd_less (k179 _ _ _) ⟨rfl, rfl, trivial⟩
noncomputable def q_Mo_verify_179 (C179 : ja_H → Nat → Int32 → Option (Int32 × ja_H)) (h : ja_H) (y0 : Nat) (y1 : Int32) : Option (Int32 × ja_H) := (jf_I h y0 9 2 (fun v1 => (if v1 ≤ y1 then (jp_Z h y0 9 5 (1 : Int32) (fun h2 => (some ((0 : Int32), h2)))) else (jf_R h y0 9 4 (fun a3 => (je_I h a3 2 y1 (fun v4 => (if v4 = (0 : Int32) then (r_Mo_verify_214 C179 h y0 y1) else (jk h y0 9 (jc_I (r_Mo_one h y0 y1) (fun v6 h5 => (jk h5 y0 9 (jc_I (r_Mo_found h5 y0 y1 v6) (fun v8 h7 => (if v8 = (0 : Int32) then (r_Mo_verify_214 C179 h7 y0 y1) else (jf_I h7 y0 9 6 (fun v9 => (some (v9, h7)))))))))))))))))))
theorem t_Mo_verify_179 {C179 : ja_H → Nat → Int32 → Option (Int32 × ja_H)} (k179 : ∀ (h : ja_H) (y0 : Nat) (y1 : Int32), ja_D ja_gI M_Mo_verify 179 [some (.ref y0), some (.int y1)] [] h (C179 h y0 y1)) {h : ja_H} {y0 : Nat} {y1 : Int32} : ja_D ja_gI M_Mo_verify 179 [some (.ref y0), some (.int y1)] [] h (q_Mo_verify_179 C179 h y0 y1) := by
  unfold q_Mo_verify_179
  refine jd_iload_n i_Mo_verify_179 rfl ?_
  refine jd_aload_n i_Mo_verify_180 rfl ?_
  refine jd_getI F_Mo_64 i_Mo_verify_181 (fun v1 => ?_)
  refine jd_icmp_ge 220 i_Mo_verify_184 (by decide) ?_ ?_
  · refine jd_aload_n i_Mo_verify_220 rfl ?_
    refine jd_iconst 1 i_Mo_verify_221 (by decide) ?_
    refine jd_putZ F_Mo_71 P_Mo_verified i_Mo_verify_222 (fun h2 => ?_)
    refine jd_iconst 0 i_Mo_verify_225 (by decide) ?_
    exact jd_ireturn i_Mo_verify_226 rfl
  · refine jd_aload_n i_Mo_verify_187 rfl ?_
    refine jd_getR F_Mo_17 i_Mo_verify_188 (fun a3 => ?_)
    refine jd_iload_n i_Mo_verify_191 rfl ?_
    refine jd_zald i_Mo_verify_192 (fun v4 => ?_)
    refine jd_if_eq 214 i_Mo_verify_193 (by decide) ?_ ?_
    · exact jd_less (t_Mo_verify_214 k179) ⟨rfl, rfl, trivial⟩
    · refine jd_aload_n i_Mo_verify_196 rfl ?_
      refine jd_iload_n i_Mo_verify_197 rfl ?_
      refine jd_aload_n i_Mo_verify_198 rfl ?_
      refine jd_iload_n i_Mo_verify_199 rfl ?_
      refine jd_callVI G_Mo_137 in_Mo_one se_Mo_one rfl (fun _ e => c_Mo_one e) rfl ⟨by decide, by decide⟩ rfl (Nat.le_of_ble_eq_true rfl) i_Mo_verify_200 (fun v6 h5 => ?_)
      refine jd_callVI G_Mo_130 in_Mo_found se_Mo_found rfl (fun _ e => c_Mo_found e) rfl ⟨by decide, by decide⟩ rfl (Nat.le_of_ble_eq_true rfl) i_Mo_verify_203 (fun v8 h7 => ?_)
      refine jd_if_eq 214 i_Mo_verify_206 (by decide) ?_ ?_
      · exact jd_less (t_Mo_verify_214 k179) ⟨rfl, rfl, trivial⟩
      · refine jd_aload_n i_Mo_verify_209 rfl ?_
        refine jd_getI F_Mo_124 i_Mo_verify_210 (fun v9 => ?_)
        exact jd_ireturn i_Mo_verify_213 rfl
noncomputable def r_Mo_verify_179 : Nat → ja_H → Nat → Int32 → Option (Int32 × ja_H) := ja_lo (q_Mo_verify_179) (fun _ _ _ => none)
theorem s_Mo_verify_179 : ∀ (n : Nat) (h : ja_H) (y0 : Nat) (y1 : Int32), ja_D ja_gI M_Mo_verify 179 [some (.ref y0), some (.int y1)] [] h (r_Mo_verify_179 n h y0 y1) := by
  intro n
  induction n with
  | zero => intro h y0 y1 o e; cases e
  | succ n ih => intro h y0 y1; exact t_Mo_verify_179 ih
noncomputable def q_Mo_verify_152 (C152 : ja_H → Nat → Int32 → Option (Int32 × ja_H)) (h : ja_H) (y0 : Nat) (y1 : Int32) : Option (Int32 × ja_H) := (jf_I h y0 9 2 (fun v1 => (if v1 ≤ y1 then (jk h y0 9 (jc_V (r_Mo_begin h y0) (fun h2 => (jl ((0 : Int32) : Int32) (fun (x3 : Int32) => (r_Mo_verify_179 ja_fu h2 y0 x3)))))) else (jf_R h y0 9 4 (fun a4 => (js_Z h a4 y1 (0 : Int32) (fun h5 => (jl (y1 + 1 : Int32) (fun (x6 : Int32) => (C152 h5 y0 x6))))))))))
theorem t_Mo_verify_152 {C152 : ja_H → Nat → Int32 → Option (Int32 × ja_H)} (k152 : ∀ (h : ja_H) (y0 : Nat) (y1 : Int32), ja_D ja_gI M_Mo_verify 152 [some (.ref y0), some (.int y1)] [] h (C152 h y0 y1)) {h : ja_H} {y0 : Nat} {y1 : Int32} : ja_D ja_gI M_Mo_verify 152 [some (.ref y0), some (.int y1)] [] h (q_Mo_verify_152 C152 h y0 y1) := by
  unfold q_Mo_verify_152
  refine jd_iload_n i_Mo_verify_152 rfl ?_
  refine jd_aload_n i_Mo_verify_153 rfl ?_
  refine jd_getI F_Mo_64 i_Mo_verify_154 (fun v1 => ?_)
  refine jd_icmp_ge 173 i_Mo_verify_157 (by decide) ?_ ?_
  · refine jd_aload_n i_Mo_verify_173 rfl ?_
    refine jd_callVV G_Mo_134 in_Mo_begin se_Mo_begin rfl (fun _ e => c_Mo_begin e) rfl ⟨by decide, by decide⟩ rfl (Nat.le_of_ble_eq_true rfl) i_Mo_verify_174 (fun h2 => ?_)
    refine jd_iconst 0 i_Mo_verify_177 (by decide) ?_
    refine jd_istore_n (fun x3 => [some (.ref y0), some (.int x3)]) i_Mo_verify_178 (by decide) rfl (fun _ => rfl) (fun x3 => ?_)
    exact jd_less (s_Mo_verify_179 ja_fu _ _ _) ⟨rfl, rfl, trivial⟩
  · refine jd_aload_n i_Mo_verify_160 rfl ?_
    refine jd_getR F_Mo_17 i_Mo_verify_161 (fun a4 => ?_)
    refine jd_iload_n i_Mo_verify_164 rfl ?_
    refine jd_iconst 0 i_Mo_verify_165 (by decide) ?_
    refine jd_zast i_Mo_verify_166 (fun h5 => ?_)
    refine jd_iinc (fun x6 => [some (.ref y0), some (.int x6)]) i_Mo_verify_167 rfl rfl (by decide) rfl (fun _ => rfl) (fun x6 => ?_)
    refine jd_goto 152 i_Mo_verify_170 (by decide) ?_
    exact jd_less (k152 _ _ _) ⟨rfl, rfl, trivial⟩
noncomputable def r_Mo_verify_152 : Nat → ja_H → Nat → Int32 → Option (Int32 × ja_H) := ja_lo (q_Mo_verify_152) (fun _ _ _ => none)
theorem s_Mo_verify_152 : ∀ (n : Nat) (h : ja_H) (y0 : Nat) (y1 : Int32), ja_D ja_gI M_Mo_verify 152 [some (.ref y0), some (.int y1)] [] h (r_Mo_verify_152 n h y0 y1) := by
  intro n
  induction n with
  | zero => intro h y0 y1 o e; cases e
  | succ n ih => intro h y0 y1; exact t_Mo_verify_152 ih
noncomputable def r_Mo_verify_144 (C106 : ja_H → Nat → Int32 → Option (Int32 × ja_H)) (h : ja_H) (y0 : Nat) (y1 : Int32) : Option (Int32 × ja_H) := (jl (y1 + 1 : Int32) (fun (x1 : Int32) => (C106 h y0 x1)))
theorem t_Mo_verify_144 {C106 : ja_H → Nat → Int32 → Option (Int32 × ja_H)} (k106 : ∀ (h : ja_H) (y0 : Nat) (y1 : Int32), ja_D ja_gI M_Mo_verify 106 [some (.ref y0), some (.int y1)] [] h (C106 h y0 y1)) {h : ja_H} {y0 : Nat} {y1 : Int32} : ja_D ja_gI M_Mo_verify 144 [some (.ref y0), some (.int y1)] [] h (r_Mo_verify_144 C106 h y0 y1) := by
  unfold r_Mo_verify_144
  refine jd_iinc (fun x1 => [some (.ref y0), some (.int x1)]) i_Mo_verify_144 rfl rfl (by decide) rfl (fun _ => rfl) (fun x1 => ?_)
  refine jd_goto 106 i_Mo_verify_147 (by decide) ?_
  exact jd_less (k106 _ _ _) ⟨rfl, rfl, trivial⟩
noncomputable def q_Mo_verify_106 (C106 : ja_H → Nat → Int32 → Option (Int32 × ja_H)) (h : ja_H) (y0 : Nat) (y1 : Int32) : Option (Int32 × ja_H) := (jf_I h y0 9 2 (fun v1 => (if v1 ≤ y1 then (jl ((0 : Int32) : Int32) (fun (x2 : Int32) => (r_Mo_verify_152 ja_fu h y0 x2))) else (jf_R h y0 9 3 (fun a3 => (je_I h a3 2 y1 (fun v4 => (if v4 = (0 : Int32) then (jk h y0 9 (jc_I (r_Mo_form h y0 y1) (fun v6 h5 => (jk h5 y0 9 (jc_I (r_Mo_found h5 y0 y1 v6) (fun v8 h7 => (if v8 = (0 : Int32) then (r_Mo_verify_144 C106 h7 y0 y1) else (jf_I h7 y0 9 6 (fun v9 => (some (v9, h7))))))))))) else (r_Mo_verify_144 C106 h y0 y1)))))))))
theorem t_Mo_verify_106 {C106 : ja_H → Nat → Int32 → Option (Int32 × ja_H)} (k106 : ∀ (h : ja_H) (y0 : Nat) (y1 : Int32), ja_D ja_gI M_Mo_verify 106 [some (.ref y0), some (.int y1)] [] h (C106 h y0 y1)) {h : ja_H} {y0 : Nat} {y1 : Int32} : ja_D ja_gI M_Mo_verify 106 [some (.ref y0), some (.int y1)] [] h (q_Mo_verify_106 C106 h y0 y1) := by
  unfold q_Mo_verify_106
  refine jd_iload_n i_Mo_verify_106 rfl ?_
  refine jd_aload_n i_Mo_verify_107 rfl ?_
  refine jd_getI F_Mo_64 i_Mo_verify_108 (fun v1 => ?_)
  refine jd_icmp_ge 150 i_Mo_verify_111 (by decide) ?_ ?_
  · refine jd_iconst 0 i_Mo_verify_150 (by decide) ?_
    refine jd_istore_n (fun x2 => [some (.ref y0), some (.int x2)]) i_Mo_verify_151 (by decide) rfl (fun _ => rfl) (fun x2 => ?_)
    exact jd_less (s_Mo_verify_152 ja_fu _ _ _) ⟨rfl, rfl, trivial⟩
  · refine jd_aload_n i_Mo_verify_114 rfl ?_
    refine jd_getR F_Mo_13 i_Mo_verify_115 (fun a3 => ?_)
    refine jd_iload_n i_Mo_verify_118 rfl ?_
    refine jd_zald i_Mo_verify_119 (fun v4 => ?_)
    refine jd_if_eq 126 i_Mo_verify_120 (by decide) ?_ ?_
    · refine jd_aload_n i_Mo_verify_126 rfl ?_
      refine jd_iload_n i_Mo_verify_127 rfl ?_
      refine jd_aload_n i_Mo_verify_128 rfl ?_
      refine jd_iload_n i_Mo_verify_129 rfl ?_
      refine jd_callVI G_Mo_127 in_Mo_form se_Mo_form rfl (fun _ e => c_Mo_form e) rfl ⟨by decide, by decide⟩ rfl (Nat.le_of_ble_eq_true rfl) i_Mo_verify_130 (fun v6 h5 => ?_)
      refine jd_callVI G_Mo_130 in_Mo_found se_Mo_found rfl (fun _ e => c_Mo_found e) rfl ⟨by decide, by decide⟩ rfl (Nat.le_of_ble_eq_true rfl) i_Mo_verify_133 (fun v8 h7 => ?_)
      refine jd_if_eq 144 i_Mo_verify_136 (by decide) ?_ ?_
      · exact jd_less (t_Mo_verify_144 k106) ⟨rfl, rfl, trivial⟩
      · refine jd_aload_n i_Mo_verify_139 rfl ?_
        refine jd_getI F_Mo_124 i_Mo_verify_140 (fun v9 => ?_)
        exact jd_ireturn i_Mo_verify_143 rfl
    · refine jd_goto 144 i_Mo_verify_123 (by decide) ?_
      exact jd_less (t_Mo_verify_144 k106) ⟨rfl, rfl, trivial⟩
noncomputable def r_Mo_verify_106 : Nat → ja_H → Nat → Int32 → Option (Int32 × ja_H) := ja_lo (q_Mo_verify_106) (fun _ _ _ => none)
theorem s_Mo_verify_106 : ∀ (n : Nat) (h : ja_H) (y0 : Nat) (y1 : Int32), ja_D ja_gI M_Mo_verify 106 [some (.ref y0), some (.int y1)] [] h (r_Mo_verify_106 n h y0 y1) := by
  intro n
  induction n with
  | zero => intro h y0 y1 o e; cases e
  | succ n ih => intro h y0 y1; exact t_Mo_verify_106 ih
noncomputable def r_Mo_verify_98 (C62 : ja_H → Nat → Int32 → Option (Int32 × ja_H)) (h : ja_H) (y0 : Nat) (y1 : Int32) : Option (Int32 × ja_H) := (jl (y1 + 1 : Int32) (fun (x1 : Int32) => (C62 h y0 x1)))
theorem t_Mo_verify_98 {C62 : ja_H → Nat → Int32 → Option (Int32 × ja_H)} (k62 : ∀ (h : ja_H) (y0 : Nat) (y1 : Int32), ja_D ja_gI M_Mo_verify 62 [some (.ref y0), some (.int y1)] [] h (C62 h y0 y1)) {h : ja_H} {y0 : Nat} {y1 : Int32} : ja_D ja_gI M_Mo_verify 98 [some (.ref y0), some (.int y1)] [] h (r_Mo_verify_98 C62 h y0 y1) := by
  unfold r_Mo_verify_98
  refine jd_iinc (fun x1 => [some (.ref y0), some (.int x1)]) i_Mo_verify_98 rfl rfl (by decide) rfl (fun _ => rfl) (fun x1 => ?_)
  refine jd_goto 62 i_Mo_verify_101 (by decide) ?_
  exact jd_less (k62 _ _ _) ⟨rfl, rfl, trivial⟩
noncomputable def q_Mo_verify_62 (C62 : ja_H → Nat → Int32 → Option (Int32 × ja_H)) (h : ja_H) (y0 : Nat) (y1 : Int32) : Option (Int32 × ja_H) := (jf_I h y0 9 2 (fun v1 => (if v1 ≤ y1 then (jl ((0 : Int32) : Int32) (fun (x2 : Int32) => (r_Mo_verify_106 ja_fu h y0 x2))) else (jf_R h y0 9 3 (fun a3 => (je_I h a3 2 y1 (fun v4 => (if v4 = (0 : Int32) then (jk h y0 9 (jc_I (r_Mo_op h y0 y1) (fun v6 h5 => (if v6 = (24 : Int32) then (jf_R h5 y0 9 3 (fun a7 => (js_Z h5 a7 (y1 + (1 : Int32)) (1 : Int32) (fun h8 => (r_Mo_verify_98 C62 h8 y0 y1))))) else (r_Mo_verify_98 C62 h5 y0 y1))))) else (r_Mo_verify_98 C62 h y0 y1)))))))))
theorem t_Mo_verify_62 {C62 : ja_H → Nat → Int32 → Option (Int32 × ja_H)} (k62 : ∀ (h : ja_H) (y0 : Nat) (y1 : Int32), ja_D ja_gI M_Mo_verify 62 [some (.ref y0), some (.int y1)] [] h (C62 h y0 y1)) {h : ja_H} {y0 : Nat} {y1 : Int32} : ja_D ja_gI M_Mo_verify 62 [some (.ref y0), some (.int y1)] [] h (q_Mo_verify_62 C62 h y0 y1) := by
  unfold q_Mo_verify_62
  refine jd_iload_n i_Mo_verify_62 rfl ?_
  refine jd_aload_n i_Mo_verify_63 rfl ?_
  refine jd_getI F_Mo_64 i_Mo_verify_64 (fun v1 => ?_)
  refine jd_icmp_ge 104 i_Mo_verify_67 (by decide) ?_ ?_
  · refine jd_iconst 0 i_Mo_verify_104 (by decide) ?_
    refine jd_istore_n (fun x2 => [some (.ref y0), some (.int x2)]) i_Mo_verify_105 (by decide) rfl (fun _ => rfl) (fun x2 => ?_)
    exact jd_less (s_Mo_verify_106 ja_fu _ _ _) ⟨rfl, rfl, trivial⟩
  · refine jd_aload_n i_Mo_verify_70 rfl ?_
    refine jd_getR F_Mo_13 i_Mo_verify_71 (fun a3 => ?_)
    refine jd_iload_n i_Mo_verify_74 rfl ?_
    refine jd_zald i_Mo_verify_75 (fun v4 => ?_)
    refine jd_if_ne 98 i_Mo_verify_76 (by decide) ?_ ?_
    · exact jd_less (t_Mo_verify_98 k62) ⟨rfl, rfl, trivial⟩
    · refine jd_aload_n i_Mo_verify_79 rfl ?_
      refine jd_iload_n i_Mo_verify_80 rfl ?_
      refine jd_callVI G_Mo_78 in_Mo_op se_Mo_op rfl (fun _ e => c_Mo_op e) rfl ⟨by decide, by decide⟩ rfl (Nat.le_of_ble_eq_true rfl) i_Mo_verify_81 (fun v6 h5 => ?_)
      refine jd_bipush 24 i_Mo_verify_84 (by decide) ?_
      refine jd_icmp_ne 98 i_Mo_verify_86 (by decide) ?_ ?_
      · exact jd_less (t_Mo_verify_98 k62) ⟨rfl, rfl, trivial⟩
      · refine jd_aload_n i_Mo_verify_89 rfl ?_
        refine jd_getR F_Mo_13 i_Mo_verify_90 (fun a7 => ?_)
        refine jd_iload_n i_Mo_verify_93 rfl ?_
        refine jd_iconst 1 i_Mo_verify_94 (by decide) ?_
        refine jd_iadd i_Mo_verify_95 ?_
        refine jd_iconst 1 i_Mo_verify_96 (by decide) ?_
        refine jd_zast i_Mo_verify_97 (fun h8 => ?_)
        exact jd_less (t_Mo_verify_98 k62) ⟨rfl, rfl, trivial⟩
noncomputable def r_Mo_verify_62 : Nat → ja_H → Nat → Int32 → Option (Int32 × ja_H) := ja_lo (q_Mo_verify_62) (fun _ _ _ => none)
theorem s_Mo_verify_62 : ∀ (n : Nat) (h : ja_H) (y0 : Nat) (y1 : Int32), ja_D ja_gI M_Mo_verify 62 [some (.ref y0), some (.int y1)] [] h (r_Mo_verify_62 n h y0 y1) := by
  intro n
  induction n with
  | zero => intro h y0 y1 o e; cases e
  | succ n ih => intro h y0 y1; exact t_Mo_verify_62 ih
noncomputable def q_Mo_verify_39 (C39 : ja_H → Nat → Int32 → Option (Int32 × ja_H)) (h : ja_H) (y0 : Nat) (y1 : Int32) : Option (Int32 × ja_H) := (jf_I h y0 9 2 (fun v1 => (if v1 < y1 then (jl ((0 : Int32) : Int32) (fun (x2 : Int32) => (r_Mo_verify_62 ja_fu h y0 x2))) else (jf_R h y0 9 3 (fun a3 => (js_Z h a3 y1 (0 : Int32) (fun h4 => (jl (y1 + 1 : Int32) (fun (x5 : Int32) => (C39 h4 y0 x5))))))))))
theorem t_Mo_verify_39 {C39 : ja_H → Nat → Int32 → Option (Int32 × ja_H)} (k39 : ∀ (h : ja_H) (y0 : Nat) (y1 : Int32), ja_D ja_gI M_Mo_verify 39 [some (.ref y0), some (.int y1)] [] h (C39 h y0 y1)) {h : ja_H} {y0 : Nat} {y1 : Int32} : ja_D ja_gI M_Mo_verify 39 [some (.ref y0), some (.int y1)] [] h (q_Mo_verify_39 C39 h y0 y1) := by
  unfold q_Mo_verify_39
  refine jd_iload_n i_Mo_verify_39 rfl ?_
  refine jd_aload_n i_Mo_verify_40 rfl ?_
  refine jd_getI F_Mo_64 i_Mo_verify_41 (fun v1 => ?_)
  refine jd_icmp_gt 60 i_Mo_verify_44 (by decide) ?_ ?_
  · refine jd_iconst 0 i_Mo_verify_60 (by decide) ?_
    refine jd_istore_n (fun x2 => [some (.ref y0), some (.int x2)]) i_Mo_verify_61 (by decide) rfl (fun _ => rfl) (fun x2 => ?_)
    exact jd_less (s_Mo_verify_62 ja_fu _ _ _) ⟨rfl, rfl, trivial⟩
  · refine jd_aload_n i_Mo_verify_47 rfl ?_
    refine jd_getR F_Mo_13 i_Mo_verify_48 (fun a3 => ?_)
    refine jd_iload_n i_Mo_verify_51 rfl ?_
    refine jd_iconst 0 i_Mo_verify_52 (by decide) ?_
    refine jd_zast i_Mo_verify_53 (fun h4 => ?_)
    refine jd_iinc (fun x5 => [some (.ref y0), some (.int x5)]) i_Mo_verify_54 rfl rfl (by decide) rfl (fun _ => rfl) (fun x5 => ?_)
    refine jd_goto 39 i_Mo_verify_57 (by decide) ?_
    exact jd_less (k39 _ _ _) ⟨rfl, rfl, trivial⟩
noncomputable def r_Mo_verify_39 : Nat → ja_H → Nat → Int32 → Option (Int32 × ja_H) := ja_lo (q_Mo_verify_39) (fun _ _ _ => none)
theorem s_Mo_verify_39 : ∀ (n : Nat) (h : ja_H) (y0 : Nat) (y1 : Int32), ja_D ja_gI M_Mo_verify 39 [some (.ref y0), some (.int y1)] [] h (r_Mo_verify_39 n h y0 y1) := by
  intro n
  induction n with
  | zero => intro h y0 y1 o e; cases e
  | succ n ih => intro h y0 y1; exact t_Mo_verify_39 ih
noncomputable def r_Mo_verify_13 (h : ja_H) (y0 : Nat) (z0 : Int32) (z1 : Nat) : Option (Int32 × ja_H) := (jk h z1 9 (jc_I (r_Mo_fails h z1 z0 (1 : Int32)) (fun v2 h1 => (if v2 = (0 : Int32) then (jp_Z h1 y0 9 5 (0 : Int32) (fun h3 => (jp_I h3 y0 9 6 (0 : Int32) (fun h4 => (jp_I h4 y0 9 7 (-1 : Int32) (fun h5 => (jl ((0 : Int32) : Int32) (fun (x6 : Int32) => (r_Mo_verify_39 ja_fu h5 y0 x6))))))))) else (some ((0 : Int32), h1))))))
theorem t_Mo_verify_13 {h : ja_H} {y0 : Nat} {z0 : Int32} {z1 : Nat} : ja_D ja_gI M_Mo_verify 13 [some (.ref y0), none] [.int z0, .ref z1] h (r_Mo_verify_13 h y0 z0 z1) := by
  unfold r_Mo_verify_13
  refine jd_iconst 1 i_Mo_verify_13 (by decide) ?_
  refine jd_callVI G_Mo_67 in_Mo_fails se_Mo_fails rfl (fun _ e => c_Mo_fails e) rfl ⟨by decide, by decide⟩ rfl (Nat.le_of_ble_eq_true rfl) i_Mo_verify_14 (fun v2 h1 => ?_)
  refine jd_if_eq 22 i_Mo_verify_17 (by decide) ?_ ?_
  · refine jd_aload_n i_Mo_verify_22 rfl ?_
    refine jd_iconst 0 i_Mo_verify_23 (by decide) ?_
    refine jd_putZ F_Mo_71 P_Mo_verified i_Mo_verify_24 (fun h3 => ?_)
    refine jd_aload_n i_Mo_verify_27 rfl ?_
    refine jd_iconst 0 i_Mo_verify_28 (by decide) ?_
    refine jd_putI F_Mo_124 P_Mo_fault i_Mo_verify_29 (fun h4 => ?_)
    refine jd_aload_n i_Mo_verify_32 rfl ?_
    refine jd_iconst (-1) i_Mo_verify_33 (by decide) ?_
    refine jd_putI F_Mo_20 P_Mo_faultAt i_Mo_verify_34 (fun h5 => ?_)
    refine jd_iconst 0 i_Mo_verify_37 (by decide) ?_
    refine jd_istore_n (fun x6 => [some (.ref y0), some (.int x6)]) i_Mo_verify_38 (by decide) rfl (fun _ => rfl) (fun x6 => ?_)
    exact jd_less (s_Mo_verify_39 ja_fu _ _ _) ⟨rfl, rfl, trivial⟩
  · refine jd_iconst 0 i_Mo_verify_20 (by decide) ?_
    exact jd_ireturn i_Mo_verify_21 rfl
noncomputable def r_Mo_verify (h : ja_H) (a0 : Nat) : Option (Int32 × ja_H) := (jf_I h a0 9 2 (fun v101 => (if v101 = (0 : Int32) then (r_Mo_verify_13 h a0 (1 : Int32) a0) else (r_Mo_verify_13 h a0 (0 : Int32) a0))))
theorem e_Mo_verify {h : ja_H} {a0 : Nat} : ja_D ja_gI M_Mo_verify 0 [some (.ref a0), none] [] h (r_Mo_verify h a0) := by
  unfold r_Mo_verify
  refine jd_aload_n i_Mo_verify_0 rfl ?_
  refine jd_aload_n i_Mo_verify_1 rfl ?_
  refine jd_getI F_Mo_64 i_Mo_verify_2 (fun v101 => ?_)
  refine jd_if_ne 12 i_Mo_verify_5 (by decide) ?_ ?_
  · refine jd_iconst 0 i_Mo_verify_12 (by decide) ?_
    exact jd_less (t_Mo_verify_13) ⟨rfl, trivial⟩
  · refine jd_iconst 1 i_Mo_verify_8 (by decide) ?_
    refine jd_goto 13 i_Mo_verify_9 (by decide) ?_
    exact jd_less (t_Mo_verify_13) ⟨rfl, trivial⟩
theorem c_Mo_verify {h : ja_H} {a0 : Nat} {o : Int32 × ja_H} (e : r_Mo_verify h a0 = some o) : ja_M (5, 189) y_Mo_verify b_Mo_verify 2 (some .int) [.ref a0] h [.int o.1] o.2 := jc_of (g := ja_gI) false _ e e_Mo_verify rfl (by decide +kernel) (fun q => nomatch q) (Nat.le_of_ble_eq_true rfl) (fun _ q => nomatch q) (Nat.le_of_ble_eq_true rfl)
noncomputable def r_Mo_fault (h : ja_H) (a0 : Nat) : Option (Int32 × ja_H) := (jp_I h a0 9 0 (0 : Int32) (fun h101 => (jf_I h101 a0 9 7 (fun v102 => (some (v102, h101))))))
theorem e_Mo_fault {h : ja_H} {a0 : Nat} : ja_D ja_gI M_Mo_fault 0 [some (.ref a0)] [] h (r_Mo_fault h a0) := by
  unfold r_Mo_fault
  refine jd_aload_n i_Mo_fault_0 rfl ?_
  refine jd_iconst 0 i_Mo_fault_1 (by decide) ?_
  refine jd_putI F_Mo_61 P_Mo_err i_Mo_fault_2 (fun h101 => ?_)
  refine jd_aload_n i_Mo_fault_5 rfl ?_
  refine jd_getI F_Mo_20 i_Mo_fault_6 (fun v102 => ?_)
  exact jd_ireturn i_Mo_fault_9 rfl
theorem c_Mo_fault {h : ja_H} {a0 : Nat} {o : Int32 × ja_H} (e : r_Mo_fault h a0 = some o) : ja_M (0, 0) y_Mo_fault b_Mo_fault 1 (some .int) [.ref a0] h [.int o.1] o.2 := jc_of (g := ja_gI) false _ e e_Mo_fault rfl (by decide +kernel) (fun q => nomatch q) (Nat.le_of_ble_eq_true rfl) (fun _ q => nomatch q) (Nat.le_of_ble_eq_true rfl)
noncomputable def r_Mo_state_148 (h : ja_H) (z0 : Int64) : Option (Int64 × ja_H) := (some (z0, h))
theorem t_Mo_state_148 {h : ja_H} {z0 : Int64} : ja_D ja_gL M_Mo_state 148 [none, none, none, none] [.long z0] h (r_Mo_state_148 h z0) := by
  unfold r_Mo_state_148
  exact jd_lreturn i_Mo_state_148 rfl
noncomputable def r_Mo_state_92 (h : ja_H) (y0 : Nat) (y1 : Int32) (y2 : Int32) (y3 : Int32) (z0 : Int32) (z1 : Nat) : Option (Int64 × ja_H) := (jk h z1 9 (jc_I (r_Mo_fails h z1 z0 (3 : Int32)) (fun v2 h1 => (if v2 = (0 : Int32) then (if y3 = (0 : Int32) then (jk h1 y0 9 (jc_I (r_Mo_is h1 y0 y1 y2) (fun v10 h9 => (r_Mo_state_148 h9 (Int32.toInt64 v10))))) else (jk h1 y0 9 (jc_I (r_Mo_is h1 y0 y1 y2) (fun v4 h3 => (if v4 = (0 : Int32) then (r_Mo_state_148 h3 (0 : Int64)) else (if y3 = (1 : Int32) then (jk h3 y0 9 (jc_L (r_Mo_least h3 y0 y1 y2) (fun v8 h7 => (r_Mo_state_148 h7 v8)))) else (jk h3 y0 9 (jc_L (r_Mo_most h3 y0 y1 y2) (fun v6 h5 => (r_Mo_state_148 h5 v6)))))))))) else (some ((0 : Int64), h1))))))
theorem t_Mo_state_92 {h : ja_H} {y0 : Nat} {y1 : Int32} {y2 : Int32} {y3 : Int32} {z0 : Int32} {z1 : Nat} : ja_D ja_gL M_Mo_state 92 [some (.ref y0), some (.int y1), some (.int y2), some (.int y3)] [.int z0, .ref z1] h (r_Mo_state_92 h y0 y1 y2 y3 z0 z1) := by
  unfold r_Mo_state_92
  refine jd_iconst 3 i_Mo_state_92 (by decide) ?_
  refine jd_callVI G_Mo_67 in_Mo_fails se_Mo_fails rfl (fun _ e => c_Mo_fails e) rfl ⟨by decide, by decide⟩ rfl (Nat.le_of_ble_eq_true rfl) i_Mo_state_93 (fun v2 h1 => ?_)
  refine jd_if_eq 101 i_Mo_state_96 (by decide) ?_ ?_
  · refine jd_iload_n i_Mo_state_101 rfl ?_
    refine jd_if_ne 115 i_Mo_state_102 (by decide) ?_ ?_
    · refine jd_aload_n i_Mo_state_115 rfl ?_
      refine jd_iload_n i_Mo_state_116 rfl ?_
      refine jd_iload_n i_Mo_state_117 rfl ?_
      refine jd_callVI G_Mo_140 in_Mo_is se_Mo_is rfl (fun _ e => c_Mo_is e) rfl ⟨by decide, by decide⟩ rfl (Nat.le_of_ble_eq_true rfl) i_Mo_state_118 (fun v4 h3 => ?_)
      refine jd_if_ne 128 i_Mo_state_121 (by decide) ?_ ?_
      · refine jd_iload_n i_Mo_state_128 rfl ?_
        refine jd_iconst 1 i_Mo_state_129 (by decide) ?_
        refine jd_icmp_ne 142 i_Mo_state_130 (by decide) ?_ ?_
        · refine jd_aload_n i_Mo_state_142 rfl ?_
          refine jd_iload_n i_Mo_state_143 rfl ?_
          refine jd_iload_n i_Mo_state_144 rfl ?_
          refine jd_callVL G_Mo_152 in_Mo_most se_Mo_most rfl (fun _ e => c_Mo_most e) rfl ⟨by decide, by decide⟩ rfl (Nat.le_of_ble_eq_true rfl) i_Mo_state_145 (fun v6 h5 => ?_)
          exact jd_less (t_Mo_state_148) trivial
        · refine jd_aload_n i_Mo_state_133 rfl ?_
          refine jd_iload_n i_Mo_state_134 rfl ?_
          refine jd_iload_n i_Mo_state_135 rfl ?_
          refine jd_callVL G_Mo_148 in_Mo_least se_Mo_least rfl (fun _ e => c_Mo_least e) rfl ⟨by decide, by decide⟩ rfl (Nat.le_of_ble_eq_true rfl) i_Mo_state_136 (fun v8 h7 => ?_)
          refine jd_goto 148 i_Mo_state_139 (by decide) ?_
          exact jd_less (t_Mo_state_148) trivial
      · refine jd_lconst 0 i_Mo_state_124 (by decide) ?_
        refine jd_goto 148 i_Mo_state_125 (by decide) ?_
        exact jd_less (t_Mo_state_148) trivial
    · refine jd_aload_n i_Mo_state_105 rfl ?_
      refine jd_iload_n i_Mo_state_106 rfl ?_
      refine jd_iload_n i_Mo_state_107 rfl ?_
      refine jd_callVI G_Mo_140 in_Mo_is se_Mo_is rfl (fun _ e => c_Mo_is e) rfl ⟨by decide, by decide⟩ rfl (Nat.le_of_ble_eq_true rfl) i_Mo_state_108 (fun v10 h9 => ?_)
      refine jd_i2l i_Mo_state_111 ?_
      refine jd_goto 148 i_Mo_state_112 (by decide) ?_
      exact jd_less (t_Mo_state_148) trivial
  · refine jd_lconst 0 i_Mo_state_99 (by decide) ?_
    exact jd_lreturn i_Mo_state_100 rfl
noncomputable def r_Mo_state_87 (h : ja_H) (y0 : Nat) (y1 : Int32) (y2 : Int32) (y3 : Int32) (z0 : Nat) : Option (Int64 × ja_H) := (r_Mo_state_92 h y0 y1 y2 y3 (1 : Int32) z0)
theorem t_Mo_state_87 {h : ja_H} {y0 : Nat} {y1 : Int32} {y2 : Int32} {y3 : Int32} {z0 : Nat} : ja_D ja_gL M_Mo_state 87 [some (.ref y0), some (.int y1), some (.int y2), some (.int y3)] [.ref z0] h (r_Mo_state_87 h y0 y1 y2 y3 z0) := by
  unfold r_Mo_state_87
  refine jd_iconst 1 i_Mo_state_87 (by decide) ?_
  refine jd_goto 92 i_Mo_state_88 (by decide) ?_
  exact jd_less (t_Mo_state_92) ⟨rfl, rfl, rfl, rfl, trivial⟩
noncomputable def r_Mo_state_47 (h : ja_H) (y0 : Nat) (y1 : Int32) (y2 : Int32) (y3 : Int32) (z0 : Int32) (z1 : Nat) : Option (Int64 × ja_H) := (jk h z1 9 (jc_I (r_Mo_fails h z1 z0 (2 : Int32)) (fun v2 h1 => (if v2 = (0 : Int32) then (if y1 < (0 : Int32) then (r_Mo_state_87 h1 y0 y1 y2 y3 y0) else (jf_I h1 y0 9 2 (fun v3 => (if v3 ≤ y1 then (r_Mo_state_87 h1 y0 y1 y2 y3 y0) else (jf_R h1 y0 9 3 (fun a4 => (je_I h1 a4 2 y1 (fun v5 => (if v5 = (0 : Int32) then (jf_R h1 y0 9 4 (fun a6 => (je_I h1 a6 2 y1 (fun v7 => (if v7 = (0 : Int32) then (r_Mo_state_87 h1 y0 y1 y2 y3 y0) else (r_Mo_state_92 h1 y0 y1 y2 y3 (0 : Int32) y0)))))) else (r_Mo_state_87 h1 y0 y1 y2 y3 y0)))))))))) else (some ((0 : Int64), h1))))))
theorem t_Mo_state_47 {h : ja_H} {y0 : Nat} {y1 : Int32} {y2 : Int32} {y3 : Int32} {z0 : Int32} {z1 : Nat} : ja_D ja_gL M_Mo_state 47 [some (.ref y0), some (.int y1), some (.int y2), some (.int y3)] [.int z0, .ref z1] h (r_Mo_state_47 h y0 y1 y2 y3 z0 z1) := by
  unfold r_Mo_state_47
  refine jd_iconst 2 i_Mo_state_47 (by decide) ?_
  refine jd_callVI G_Mo_67 in_Mo_fails se_Mo_fails rfl (fun _ e => c_Mo_fails e) rfl ⟨by decide, by decide⟩ rfl (Nat.le_of_ble_eq_true rfl) i_Mo_state_48 (fun v2 h1 => ?_)
  refine jd_if_eq 56 i_Mo_state_51 (by decide) ?_ ?_
  · refine jd_aload_n i_Mo_state_56 rfl ?_
    refine jd_iload_n i_Mo_state_57 rfl ?_
    refine jd_if_lt 87 i_Mo_state_58 (by decide) ?_ ?_
    · exact jd_less (t_Mo_state_87) ⟨rfl, rfl, rfl, rfl, trivial⟩
    · refine jd_iload_n i_Mo_state_61 rfl ?_
      refine jd_aload_n i_Mo_state_62 rfl ?_
      refine jd_getI F_Mo_64 i_Mo_state_63 (fun v3 => ?_)
      refine jd_icmp_ge 87 i_Mo_state_66 (by decide) ?_ ?_
      · exact jd_less (t_Mo_state_87) ⟨rfl, rfl, rfl, rfl, trivial⟩
      · refine jd_aload_n i_Mo_state_69 rfl ?_
        refine jd_getR F_Mo_13 i_Mo_state_70 (fun a4 => ?_)
        refine jd_iload_n i_Mo_state_73 rfl ?_
        refine jd_zald i_Mo_state_74 (fun v5 => ?_)
        refine jd_if_ne 87 i_Mo_state_75 (by decide) ?_ ?_
        · exact jd_less (t_Mo_state_87) ⟨rfl, rfl, rfl, rfl, trivial⟩
        · refine jd_aload_n i_Mo_state_78 rfl ?_
          refine jd_getR F_Mo_17 i_Mo_state_79 (fun a6 => ?_)
          refine jd_iload_n i_Mo_state_82 rfl ?_
          refine jd_zald i_Mo_state_83 (fun v7 => ?_)
          refine jd_if_ne 91 i_Mo_state_84 (by decide) ?_ ?_
          · refine jd_iconst 0 i_Mo_state_91 (by decide) ?_
            exact jd_less (t_Mo_state_92) ⟨rfl, rfl, rfl, rfl, trivial⟩
          · exact jd_less (t_Mo_state_87) ⟨rfl, rfl, rfl, rfl, trivial⟩
  · refine jd_lconst 0 i_Mo_state_54 (by decide) ?_
    exact jd_lreturn i_Mo_state_55 rfl
noncomputable def r_Mo_state_25 (h : ja_H) (y0 : Nat) (y1 : Int32) (y2 : Int32) (y3 : Int32) (z0 : Int32) (z1 : Nat) : Option (Int64 × ja_H) := (jk h z1 9 (jc_I (r_Mo_fails h z1 z0 (1 : Int32)) (fun v2 h1 => (if v2 = (0 : Int32) then (jf_I h1 y0 9 5 (fun v3 => (if v3 = (0 : Int32) then (r_Mo_state_47 h1 y0 y1 y2 y3 (1 : Int32) y0) else (r_Mo_state_47 h1 y0 y1 y2 y3 (0 : Int32) y0)))) else (some ((0 : Int64), h1))))))
theorem t_Mo_state_25 {h : ja_H} {y0 : Nat} {y1 : Int32} {y2 : Int32} {y3 : Int32} {z0 : Int32} {z1 : Nat} : ja_D ja_gL M_Mo_state 25 [some (.ref y0), some (.int y1), some (.int y2), some (.int y3)] [.int z0, .ref z1] h (r_Mo_state_25 h y0 y1 y2 y3 z0 z1) := by
  unfold r_Mo_state_25
  refine jd_iconst 1 i_Mo_state_25 (by decide) ?_
  refine jd_callVI G_Mo_67 in_Mo_fails se_Mo_fails rfl (fun _ e => c_Mo_fails e) rfl ⟨by decide, by decide⟩ rfl (Nat.le_of_ble_eq_true rfl) i_Mo_state_26 (fun v2 h1 => ?_)
  refine jd_if_eq 34 i_Mo_state_29 (by decide) ?_ ?_
  · refine jd_aload_n i_Mo_state_34 rfl ?_
    refine jd_aload_n i_Mo_state_35 rfl ?_
    refine jd_getI F_Mo_71 i_Mo_state_36 (fun v3 => ?_)
    refine jd_if_ne 46 i_Mo_state_39 (by decide) ?_ ?_
    · refine jd_iconst 0 i_Mo_state_46 (by decide) ?_
      exact jd_less (t_Mo_state_47) ⟨rfl, rfl, rfl, rfl, trivial⟩
    · refine jd_iconst 1 i_Mo_state_42 (by decide) ?_
      refine jd_goto 47 i_Mo_state_43 (by decide) ?_
      exact jd_less (t_Mo_state_47) ⟨rfl, rfl, rfl, rfl, trivial⟩
  · refine jd_lconst 0 i_Mo_state_32 (by decide) ?_
    exact jd_lreturn i_Mo_state_33 rfl
noncomputable def r_Mo_state_20 (h : ja_H) (y0 : Nat) (y1 : Int32) (y2 : Int32) (y3 : Int32) (z0 : Nat) : Option (Int64 × ja_H) := (r_Mo_state_25 h y0 y1 y2 y3 (1 : Int32) z0)
theorem t_Mo_state_20 {h : ja_H} {y0 : Nat} {y1 : Int32} {y2 : Int32} {y3 : Int32} {z0 : Nat} : ja_D ja_gL M_Mo_state 20 [some (.ref y0), some (.int y1), some (.int y2), some (.int y3)] [.ref z0] h (r_Mo_state_20 h y0 y1 y2 y3 z0) := by
  unfold r_Mo_state_20
  refine jd_iconst 1 i_Mo_state_20 (by decide) ?_
  refine jd_goto 25 i_Mo_state_21 (by decide) ?_
  exact jd_less (t_Mo_state_25) ⟨rfl, rfl, rfl, rfl, trivial⟩
noncomputable def r_Mo_state (h : ja_H) (a0 : Nat) (a1 : Int32) (a2 : Int32) (a3 : Int32) : Option (Int64 × ja_H) := (if a3 < (0 : Int32) then (r_Mo_state_20 h a0 a1 a2 a3 a0) else (if (2 : Int32) < a3 then (r_Mo_state_20 h a0 a1 a2 a3 a0) else (if a2 < (0 : Int32) then (r_Mo_state_20 h a0 a1 a2 a3 a0) else (if a2 ≤ (10 : Int32) then (r_Mo_state_25 h a0 a1 a2 a3 (0 : Int32) a0) else (r_Mo_state_20 h a0 a1 a2 a3 a0)))))
theorem e_Mo_state {h : ja_H} {a0 : Nat} {a1 : Int32} {a2 : Int32} {a3 : Int32} : ja_D ja_gL M_Mo_state 0 [some (.ref a0), some (.int a1), some (.int a2), some (.int a3)] [] h (r_Mo_state h a0 a1 a2 a3) := by
  unfold r_Mo_state
  refine jd_aload_n i_Mo_state_0 rfl ?_
  refine jd_iload_n i_Mo_state_1 rfl ?_
  refine jd_if_lt 20 i_Mo_state_2 (by decide) ?_ ?_
  · exact jd_less (t_Mo_state_20) ⟨rfl, rfl, rfl, rfl, trivial⟩
  · refine jd_iload_n i_Mo_state_5 rfl ?_
    refine jd_iconst 2 i_Mo_state_6 (by decide) ?_
    refine jd_icmp_gt 20 i_Mo_state_7 (by decide) ?_ ?_
    · exact jd_less (t_Mo_state_20) ⟨rfl, rfl, rfl, rfl, trivial⟩
    · refine jd_iload_n i_Mo_state_10 rfl ?_
      refine jd_if_lt 20 i_Mo_state_11 (by decide) ?_ ?_
      · exact jd_less (t_Mo_state_20) ⟨rfl, rfl, rfl, rfl, trivial⟩
      · refine jd_iload_n i_Mo_state_14 rfl ?_
        refine jd_bipush 10 i_Mo_state_15 (by decide) ?_
        refine jd_icmp_le 24 i_Mo_state_17 (by decide) ?_ ?_
        · refine jd_iconst 0 i_Mo_state_24 (by decide) ?_
          exact jd_less (t_Mo_state_25) ⟨rfl, rfl, rfl, rfl, trivial⟩
        · exact jd_less (t_Mo_state_20) ⟨rfl, rfl, rfl, rfl, trivial⟩
theorem c_Mo_state {h : ja_H} {a0 : Nat} {a1 : Int32} {a2 : Int32} {a3 : Int32} {o : Int64 × ja_H} (e : r_Mo_state h a0 a1 a2 a3 = some o) : ja_M (1, 22) y_Mo_state b_Mo_state 4 (some .long) [.ref a0, .int a1, .int a2, .int a3] h [.long o.1] o.2 := jc_of (g := ja_gL) false _ e e_Mo_state rfl (by decide +kernel) (fun q => nomatch q) (Nat.le_of_ble_eq_true rfl) (fun _ q => nomatch q) (Nat.le_of_ble_eq_true rfl)
