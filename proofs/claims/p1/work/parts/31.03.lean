noncomputable def r_Ju_movePointer_257 (h : ja_H) (z0 : Int32) : Option (Int32 × ja_H) := (some (z0, h))
theorem t_Ju_movePointer_257 {h : ja_H} {z0 : Int32} : ja_D ja_gI M_Ju_movePointer 257 [none, none, none, none, none, none, none, none, none] [.int z0] h (r_Ju_movePointer_257 h z0) := by
  unfold r_Ju_movePointer_257
  exact jd_ireturn i_Ju_movePointer_257 rfl
noncomputable def r_Ju_movePointer_218 (h : ja_H) (y0 : Nat) (y3 : Nat) (y5 : Int64) (z0 : Int64) : Option (Int32 × ja_H) := (jl (z0 : Int64) (fun (x1 : Int64) => (jf_R h y0 5 3 (fun a2 => (jf_I h y3 7 0 (fun v3 => (jk h a2 7 (jc_V (r_Va_become h a2 v3 y5 x1) (fun h4 => (jf_R h4 y0 5 3 (fun a5 => (jk h4 a5 7 (jc_I (r_Va_isWithin h4 a5 (-100000 : Int64) (100000 : Int64)) (fun v7 h6 => (if v7 = (0 : Int32) then (r_Ju_movePointer_257 h6 (7 : Int32)) else (r_Ju_movePointer_257 h6 (0 : Int32)))))))))))))))))
theorem t_Ju_movePointer_218 {h : ja_H} {y0 : Nat} {y3 : Nat} {y5 : Int64} {z0 : Int64} : ja_D ja_gI M_Ju_movePointer 218 [some (.ref y0), none, none, some (.ref y3), none, some (.long y5), none, none, none] [.long z0] h (r_Ju_movePointer_218 h y0 y3 y5 z0) := by
  unfold r_Ju_movePointer_218
  refine jd_lstore (fun x1 => [some (.ref y0), none, none, some (.ref y3), none, some (.long y5), none, some (.long x1), none]) i_Ju_movePointer_218 (by decide) rfl (fun _ => rfl) (fun x1 => ?_)
  refine jd_aload_n i_Ju_movePointer_220 rfl ?_
  refine jd_getR F_Ju_32 i_Ju_movePointer_221 (fun a2 => ?_)
  refine jd_aload_n i_Ju_movePointer_224 rfl ?_
  refine jd_getI F_Ju_58 i_Ju_movePointer_225 (fun v3 => ?_)
  refine jd_lload i_Ju_movePointer_228 rfl ?_
  refine jd_lload i_Ju_movePointer_230 rfl ?_
  refine jd_callVV G_Ju_142 in_Va_become se_Va_become rfl (fun _ e => c_Va_become e) rfl ⟨by decide, by decide⟩ rfl (Nat.le_of_ble_eq_true rfl) i_Ju_movePointer_232 (fun h4 => ?_)
  refine jd_aload_n i_Ju_movePointer_235 rfl ?_
  refine jd_getR F_Ju_32 i_Ju_movePointer_236 (fun a5 => ?_)
  refine jd_ldc2 i_Ju_movePointer_239 K_Ju_201 ?_
  refine jd_ldc2 i_Ju_movePointer_242 K_Ju_203 ?_
  refine jd_callVI G_Ju_197 in_Va_isWithin se_Va_isWithin rfl (fun _ e => c_Va_isWithin e) rfl ⟨by decide, by decide⟩ rfl (Nat.le_of_ble_eq_true rfl) i_Ju_movePointer_245 (fun v7 h6 => ?_)
  refine jd_if_eq 255 i_Ju_movePointer_248 (by decide) ?_ ?_
  · refine jd_bipush 7 i_Ju_movePointer_255 (by decide) ?_
    exact jd_less (t_Ju_movePointer_257) trivial
  · refine jd_iconst 0 i_Ju_movePointer_251 (by decide) ?_
    refine jd_goto 257 i_Ju_movePointer_252 (by decide) ?_
    exact jd_less (t_Ju_movePointer_257) trivial
noncomputable def r_Ju_movePointer_189 (h : ja_H) (y0 : Nat) (y1 : Int32) (y3 : Nat) (y4 : Nat) (z0 : Int64) : Option (Int32 × ja_H) := (jl (z0 : Int64) (fun (x1 : Int64) => (if y1 = (0 : Int32) then (jf_L h y3 7 2 (fun v2 => (jf_L h y4 7 1 (fun v3 => (r_Ju_movePointer_218 h y0 y3 x1 (v2 - v3)))))) else (jf_L h y3 7 2 (fun v4 => (jf_L h y4 7 2 (fun v5 => (r_Ju_movePointer_218 h y0 y3 x1 (v4 + v5)))))))))
theorem t_Ju_movePointer_189 {h : ja_H} {y0 : Nat} {y1 : Int32} {y3 : Nat} {y4 : Nat} {z0 : Int64} : ja_D ja_gI M_Ju_movePointer 189 [some (.ref y0), some (.int y1), none, some (.ref y3), some (.ref y4), none, none, none, none] [.long z0] h (r_Ju_movePointer_189 h y0 y1 y3 y4 z0) := by
  unfold r_Ju_movePointer_189
  refine jd_lstore (fun x1 => [some (.ref y0), some (.int y1), none, some (.ref y3), some (.ref y4), some (.long x1), none, none, none]) i_Ju_movePointer_189 (by decide) rfl (fun _ => rfl) (fun x1 => ?_)
  refine jd_iload_n i_Ju_movePointer_191 rfl ?_
  refine jd_if_eq 208 i_Ju_movePointer_192 (by decide) ?_ ?_
  · refine jd_aload_n i_Ju_movePointer_208 rfl ?_
    refine jd_getL F_Ju_65 i_Ju_movePointer_209 (fun v2 => ?_)
    refine jd_aload i_Ju_movePointer_212 rfl ?_
    refine jd_getL F_Ju_61 i_Ju_movePointer_214 (fun v3 => ?_)
    refine jd_lsub i_Ju_movePointer_217 ?_
    exact jd_less (t_Ju_movePointer_218) ⟨rfl, rfl, rfl, trivial⟩
  · refine jd_aload_n i_Ju_movePointer_195 rfl ?_
    refine jd_getL F_Ju_65 i_Ju_movePointer_196 (fun v4 => ?_)
    refine jd_aload i_Ju_movePointer_199 rfl ?_
    refine jd_getL F_Ju_65 i_Ju_movePointer_201 (fun v5 => ?_)
    refine jd_ladd i_Ju_movePointer_204 ?_
    refine jd_goto 218 i_Ju_movePointer_205 (by decide) ?_
    exact jd_less (t_Ju_movePointer_218) ⟨rfl, rfl, rfl, trivial⟩
noncomputable def r_Ju_movePointer_159 (h : ja_H) : Option (Int32 × ja_H) := (some ((7 : Int32), h))
theorem t_Ju_movePointer_159 {h : ja_H} : ja_D ja_gI M_Ju_movePointer 159 [none, none, none, none, none, none, none, none, none] [] h (r_Ju_movePointer_159 h) := by
  unfold r_Ju_movePointer_159
  refine jd_bipush 7 i_Ju_movePointer_159 (by decide) ?_
  exact jd_ireturn i_Ju_movePointer_161 rfl
noncomputable def r_Ju_movePointer_145 (h : ja_H) (y0 : Nat) (y1 : Int32) (y3 : Nat) (y4 : Nat) : Option (Int32 × ja_H) := (jk h y4 7 (jc_I (r_Va_isWithin h y4 (-200000 : Int64) (200000 : Int64)) (fun v2 h1 => (if v2 = (0 : Int32) then (r_Ju_movePointer_159 h1) else (if y1 = (0 : Int32) then (jf_L h1 y3 7 1 (fun v3 => (jf_L h1 y4 7 2 (fun v4 => (r_Ju_movePointer_189 h1 y0 y1 y3 y4 (v3 - v4)))))) else (jf_L h1 y3 7 1 (fun v5 => (jf_L h1 y4 7 1 (fun v6 => (r_Ju_movePointer_189 h1 y0 y1 y3 y4 (v5 + v6)))))))))))
theorem t_Ju_movePointer_145 {h : ja_H} {y0 : Nat} {y1 : Int32} {y3 : Nat} {y4 : Nat} : ja_D ja_gI M_Ju_movePointer 145 [some (.ref y0), some (.int y1), none, some (.ref y3), some (.ref y4), none, none, none, none] [] h (r_Ju_movePointer_145 h y0 y1 y3 y4) := by
  unfold r_Ju_movePointer_145
  refine jd_aload i_Ju_movePointer_145 rfl ?_
  refine jd_ldc2 i_Ju_movePointer_147 K_Ju_193 ?_
  refine jd_ldc2 i_Ju_movePointer_150 K_Ju_195 ?_
  refine jd_callVI G_Ju_197 in_Va_isWithin se_Va_isWithin rfl (fun _ e => c_Va_isWithin e) rfl ⟨by decide, by decide⟩ rfl (Nat.le_of_ble_eq_true rfl) i_Ju_movePointer_153 (fun v2 h1 => ?_)
  refine jd_if_ne 162 i_Ju_movePointer_156 (by decide) ?_ ?_
  · refine jd_iload_n i_Ju_movePointer_162 rfl ?_
    refine jd_if_eq 179 i_Ju_movePointer_163 (by decide) ?_ ?_
    · refine jd_aload_n i_Ju_movePointer_179 rfl ?_
      refine jd_getL F_Ju_61 i_Ju_movePointer_180 (fun v3 => ?_)
      refine jd_aload i_Ju_movePointer_183 rfl ?_
      refine jd_getL F_Ju_65 i_Ju_movePointer_185 (fun v4 => ?_)
      refine jd_lsub i_Ju_movePointer_188 ?_
      exact jd_less (t_Ju_movePointer_189) ⟨rfl, rfl, rfl, rfl, trivial⟩
    · refine jd_aload_n i_Ju_movePointer_166 rfl ?_
      refine jd_getL F_Ju_61 i_Ju_movePointer_167 (fun v5 => ?_)
      refine jd_aload i_Ju_movePointer_170 rfl ?_
      refine jd_getL F_Ju_61 i_Ju_movePointer_172 (fun v6 => ?_)
      refine jd_ladd i_Ju_movePointer_175 ?_
      refine jd_goto 189 i_Ju_movePointer_176 (by decide) ?_
      exact jd_less (t_Ju_movePointer_189) ⟨rfl, rfl, rfl, rfl, trivial⟩
  · exact jd_less (t_Ju_movePointer_159) trivial
noncomputable def r_Ju_movePointer_127 (h : ja_H) (y0 : Nat) (y1 : Int32) (y3 : Nat) (z0 : Nat) : Option (Int32 × ja_H) := (jl (z0 : Nat) (fun (x1 : Nat) => (jf_I h y3 7 0 (fun v2 => (if v2 = (3 : Int32) then (jk h x1 7 (jc_I (r_Va_isOne h x1) (fun v4 h3 => (if v4 = (0 : Int32) then (r_Ju_movePointer_159 h3) else (r_Ju_movePointer_145 h3 y0 y1 y3 x1))))) else (r_Ju_movePointer_145 h y0 y1 y3 x1))))))
theorem t_Ju_movePointer_127 {h : ja_H} {y0 : Nat} {y1 : Int32} {y3 : Nat} {z0 : Nat} : ja_D ja_gI M_Ju_movePointer 127 [some (.ref y0), some (.int y1), none, some (.ref y3), none, none, none, none, none] [.ref z0] h (r_Ju_movePointer_127 h y0 y1 y3 z0) := by
  unfold r_Ju_movePointer_127
  refine jd_astore (fun x1 => [some (.ref y0), some (.int y1), none, some (.ref y3), some (.ref x1), none, none, none, none]) i_Ju_movePointer_127 (by decide) rfl (fun _ => rfl) (fun x1 => ?_)
  refine jd_aload_n i_Ju_movePointer_129 rfl ?_
  refine jd_getI F_Ju_58 i_Ju_movePointer_130 (fun v2 => ?_)
  refine jd_iconst 3 i_Ju_movePointer_133 (by decide) ?_
  refine jd_icmp_ne 145 i_Ju_movePointer_134 (by decide) ?_ ?_
  · exact jd_less (t_Ju_movePointer_145) ⟨rfl, rfl, rfl, rfl, trivial⟩
  · refine jd_aload i_Ju_movePointer_137 rfl ?_
    refine jd_callVI G_Ju_190 in_Va_isOne se_Va_isOne rfl (fun _ e => c_Va_isOne e) rfl ⟨by decide, by decide⟩ rfl (Nat.le_of_ble_eq_true rfl) i_Ju_movePointer_139 (fun v4 h3 => ?_)
    refine jd_if_eq 159 i_Ju_movePointer_142 (by decide) ?_ ?_
    · exact jd_less (t_Ju_movePointer_159) trivial
    · exact jd_less (t_Ju_movePointer_145) ⟨rfl, rfl, rfl, rfl, trivial⟩
noncomputable def r_Ju_movePointer_105 (h : ja_H) (y0 : Nat) (y1 : Int32) (z0 : Nat) : Option (Int32 × ja_H) := (jl (z0 : Nat) (fun (x1 : Nat) => (jf_R h y0 5 3 (fun a2 => (jk h a2 7 (jc_I (r_Va_isPointer h a2) (fun v4 h3 => (if v4 = (0 : Int32) then (jf_R h3 y0 5 3 (fun a5 => (r_Ju_movePointer_127 h3 y0 y1 x1 a5))) else (jf_R h3 y0 5 4 (fun a6 => (r_Ju_movePointer_127 h3 y0 y1 x1 a6)))))))))))
theorem t_Ju_movePointer_105 {h : ja_H} {y0 : Nat} {y1 : Int32} {z0 : Nat} : ja_D ja_gI M_Ju_movePointer 105 [some (.ref y0), some (.int y1), none, none, none, none, none, none, none] [.ref z0] h (r_Ju_movePointer_105 h y0 y1 z0) := by
  unfold r_Ju_movePointer_105
  refine jd_astore_n (fun x1 => [some (.ref y0), some (.int y1), none, some (.ref x1), none, none, none, none, none]) i_Ju_movePointer_105 (by decide) rfl (fun _ => rfl) (fun x1 => ?_)
  refine jd_aload_n i_Ju_movePointer_106 rfl ?_
  refine jd_getR F_Ju_32 i_Ju_movePointer_107 (fun a2 => ?_)
  refine jd_callVI G_Ju_171 in_Va_isPointer se_Va_isPointer rfl (fun _ e => c_Va_isPointer e) rfl ⟨by decide, by decide⟩ rfl (Nat.le_of_ble_eq_true rfl) i_Ju_movePointer_110 (fun v4 h3 => ?_)
  refine jd_if_eq 123 i_Ju_movePointer_113 (by decide) ?_ ?_
  · refine jd_aload_n i_Ju_movePointer_123 rfl ?_
    refine jd_getR F_Ju_32 i_Ju_movePointer_124 (fun a5 => ?_)
    exact jd_less (t_Ju_movePointer_127) ⟨rfl, rfl, rfl, trivial⟩
  · refine jd_aload_n i_Ju_movePointer_116 rfl ?_
    refine jd_getR F_Ju_36 i_Ju_movePointer_117 (fun a6 => ?_)
    refine jd_goto 127 i_Ju_movePointer_120 (by decide) ?_
    exact jd_less (t_Ju_movePointer_127) ⟨rfl, rfl, rfl, trivial⟩
noncomputable def r_Ju_movePointer_84 (h : ja_H) (y0 : Nat) (y1 : Int32) : Option (Int32 × ja_H) := (jf_R h y0 5 3 (fun a1 => (jk h a1 7 (jc_I (r_Va_isPointer h a1) (fun v3 h2 => (if v3 = (0 : Int32) then (jf_R h2 y0 5 4 (fun a4 => (r_Ju_movePointer_105 h2 y0 y1 a4))) else (jf_R h2 y0 5 3 (fun a5 => (r_Ju_movePointer_105 h2 y0 y1 a5)))))))))
theorem t_Ju_movePointer_84 {h : ja_H} {y0 : Nat} {y1 : Int32} : ja_D ja_gI M_Ju_movePointer 84 [some (.ref y0), some (.int y1), none, none, none, none, none, none, none] [] h (r_Ju_movePointer_84 h y0 y1) := by
  unfold r_Ju_movePointer_84
  refine jd_aload_n i_Ju_movePointer_84 rfl ?_
  refine jd_getR F_Ju_32 i_Ju_movePointer_85 (fun a1 => ?_)
  refine jd_callVI G_Ju_171 in_Va_isPointer se_Va_isPointer rfl (fun _ e => c_Va_isPointer e) rfl ⟨by decide, by decide⟩ rfl (Nat.le_of_ble_eq_true rfl) i_Ju_movePointer_88 (fun v3 h2 => ?_)
  refine jd_if_eq 101 i_Ju_movePointer_91 (by decide) ?_ ?_
  · refine jd_aload_n i_Ju_movePointer_101 rfl ?_
    refine jd_getR F_Ju_36 i_Ju_movePointer_102 (fun a4 => ?_)
    exact jd_less (t_Ju_movePointer_105) ⟨rfl, rfl, trivial⟩
  · refine jd_aload_n i_Ju_movePointer_94 rfl ?_
    refine jd_getR F_Ju_32 i_Ju_movePointer_95 (fun a5 => ?_)
    refine jd_goto 105 i_Ju_movePointer_98 (by decide) ?_
    exact jd_less (t_Ju_movePointer_105) ⟨rfl, rfl, trivial⟩
noncomputable def r_Ju_movePointer_81 (h : ja_H) : Option (Int32 × ja_H) := (some ((7 : Int32), h))
theorem t_Ju_movePointer_81 {h : ja_H} : ja_D ja_gI M_Ju_movePointer 81 [none, none, none, none, none, none, none, none, none] [] h (r_Ju_movePointer_81 h) := by
  unfold r_Ju_movePointer_81
  refine jd_bipush 7 i_Ju_movePointer_81 (by decide) ?_
  exact jd_ireturn i_Ju_movePointer_83 rfl
noncomputable def r_Ju_movePointer_56 (h : ja_H) (y0 : Nat) (y1 : Int32) (z0 : Int32) : Option (Int32 × ja_H) := (jl (z0 : Int32) (fun (x1 : Int32) => (if x1 = (0 : Int32) then (r_Ju_movePointer_81 h) else (jf_R h y0 5 3 (fun a2 => (jk h a2 7 (jc_I (r_Va_isPointer h a2) (fun v4 h3 => (if v4 = (0 : Int32) then (r_Ju_movePointer_84 h3 y0 y1) else (jf_R h3 y0 5 4 (fun a5 => (jk h3 a5 7 (jc_I (r_Va_isPointer h3 a5) (fun v7 h6 => (if v7 = (0 : Int32) then (r_Ju_movePointer_84 h6 y0 y1) else (r_Ju_movePointer_81 h6))))))))))))))))
theorem t_Ju_movePointer_56 {h : ja_H} {y0 : Nat} {y1 : Int32} {z0 : Int32} : ja_D ja_gI M_Ju_movePointer 56 [some (.ref y0), some (.int y1), none, none, none, none, none, none, none] [.int z0] h (r_Ju_movePointer_56 h y0 y1 z0) := by
  unfold r_Ju_movePointer_56
  refine jd_istore_n (fun x1 => [some (.ref y0), some (.int y1), some (.int x1), none, none, none, none, none, none]) i_Ju_movePointer_56 (by decide) rfl (fun _ => rfl) (fun x1 => ?_)
  refine jd_iload_n i_Ju_movePointer_57 rfl ?_
  refine jd_if_eq 81 i_Ju_movePointer_58 (by decide) ?_ ?_
  · exact jd_less (t_Ju_movePointer_81) trivial
  · refine jd_aload_n i_Ju_movePointer_61 rfl ?_
    refine jd_getR F_Ju_32 i_Ju_movePointer_62 (fun a2 => ?_)
    refine jd_callVI G_Ju_171 in_Va_isPointer se_Va_isPointer rfl (fun _ e => c_Va_isPointer e) rfl ⟨by decide, by decide⟩ rfl (Nat.le_of_ble_eq_true rfl) i_Ju_movePointer_65 (fun v4 h3 => ?_)
    refine jd_if_eq 84 i_Ju_movePointer_68 (by decide) ?_ ?_
    · exact jd_less (t_Ju_movePointer_84) ⟨rfl, rfl, trivial⟩
    · refine jd_aload_n i_Ju_movePointer_71 rfl ?_
      refine jd_getR F_Ju_36 i_Ju_movePointer_72 (fun a5 => ?_)
      refine jd_callVI G_Ju_171 in_Va_isPointer se_Va_isPointer rfl (fun _ e => c_Va_isPointer e) rfl ⟨by decide, by decide⟩ rfl (Nat.le_of_ble_eq_true rfl) i_Ju_movePointer_75 (fun v7 h6 => ?_)
      refine jd_if_eq 84 i_Ju_movePointer_78 (by decide) ?_ ?_
      · exact jd_less (t_Ju_movePointer_84) ⟨rfl, rfl, trivial⟩
      · exact jd_less (t_Ju_movePointer_81) trivial
noncomputable def r_Ju_movePointer_55 (h : ja_H) (y0 : Nat) (y1 : Int32) : Option (Int32 × ja_H) := (r_Ju_movePointer_56 h y0 y1 (0 : Int32))
theorem t_Ju_movePointer_55 {h : ja_H} {y0 : Nat} {y1 : Int32} : ja_D ja_gI M_Ju_movePointer 55 [some (.ref y0), some (.int y1), none, none, none, none, none, none, none] [] h (r_Ju_movePointer_55 h y0 y1) := by
  unfold r_Ju_movePointer_55
  refine jd_iconst 0 i_Ju_movePointer_55 (by decide) ?_
  exact jd_less (t_Ju_movePointer_56) ⟨rfl, rfl, trivial⟩
noncomputable def r_Ju_movePointer_51 (h : ja_H) (y0 : Nat) (y1 : Int32) : Option (Int32 × ja_H) := (r_Ju_movePointer_56 h y0 y1 (1 : Int32))
theorem t_Ju_movePointer_51 {h : ja_H} {y0 : Nat} {y1 : Int32} : ja_D ja_gI M_Ju_movePointer 51 [some (.ref y0), some (.int y1), none, none, none, none, none, none, none] [] h (r_Ju_movePointer_51 h y0 y1) := by
  unfold r_Ju_movePointer_51
  refine jd_iconst 1 i_Ju_movePointer_51 (by decide) ?_
  refine jd_goto 56 i_Ju_movePointer_52 (by decide) ?_
  exact jd_less (t_Ju_movePointer_56) ⟨rfl, rfl, trivial⟩
noncomputable def r_Ju_movePointer_15 (h : ja_H) (y0 : Nat) (z0 : Int32) : Option (Int32 × ja_H) := (jl (z0 : Int32) (fun (x1 : Int32) => (jf_R h y0 5 2 (fun a2 => (jk h a2 4 (jc_I (r_Wo_isOf32 h a2) (fun v4 h3 => (if v4 = (0 : Int32) then (if x1 = (0 : Int32) then (jf_R h3 y0 5 2 (fun a5 => (jf_I h3 a5 4 6 (fun v6 => (if v6 = (1 : Int32) then (jf_R h3 y0 5 3 (fun a7 => (jk h3 a7 7 (jc_I (r_Va_isPointer h3 a7) (fun v9 h8 => (if v9 = (0 : Int32) then (r_Ju_movePointer_55 h8 y0 x1) else (r_Ju_movePointer_51 h8 y0 x1))))))) else (r_Ju_movePointer_55 h3 y0 x1)))))) else (r_Ju_movePointer_51 h3 y0 x1)) else (r_Ju_movePointer_55 h3 y0 x1)))))))))
theorem t_Ju_movePointer_15 {h : ja_H} {y0 : Nat} {z0 : Int32} : ja_D ja_gI M_Ju_movePointer 15 [some (.ref y0), none, none, none, none, none, none, none, none] [.int z0] h (r_Ju_movePointer_15 h y0 z0) := by
  unfold r_Ju_movePointer_15
  refine jd_istore_n (fun x1 => [some (.ref y0), some (.int x1), none, none, none, none, none, none, none]) i_Ju_movePointer_15 (by decide) rfl (fun _ => rfl) (fun x1 => ?_)
  refine jd_aload_n i_Ju_movePointer_16 rfl ?_
  refine jd_getR F_Ju_25 i_Ju_movePointer_17 (fun a2 => ?_)
  refine jd_callVI G_Ju_183 in_Wo_isOf32 se_Wo_isOf32 rfl (fun _ e => c_Wo_isOf32 e) rfl ⟨by decide, by decide⟩ rfl (Nat.le_of_ble_eq_true rfl) i_Ju_movePointer_20 (fun v4 h3 => ?_)
  refine jd_if_ne 55 i_Ju_movePointer_23 (by decide) ?_ ?_
  · exact jd_less (t_Ju_movePointer_55) ⟨rfl, rfl, trivial⟩
  · refine jd_iload_n i_Ju_movePointer_26 rfl ?_
    refine jd_if_ne 51 i_Ju_movePointer_27 (by decide) ?_ ?_
    · exact jd_less (t_Ju_movePointer_51) ⟨rfl, rfl, trivial⟩
    · refine jd_aload_n i_Ju_movePointer_30 rfl ?_
      refine jd_getR F_Ju_25 i_Ju_movePointer_31 (fun a5 => ?_)
      refine jd_getI F_Ju_167 i_Ju_movePointer_34 (fun v6 => ?_)
      refine jd_iconst 1 i_Ju_movePointer_37 (by decide) ?_
      refine jd_icmp_ne 55 i_Ju_movePointer_38 (by decide) ?_ ?_
      · exact jd_less (t_Ju_movePointer_55) ⟨rfl, rfl, trivial⟩
      · refine jd_aload_n i_Ju_movePointer_41 rfl ?_
        refine jd_getR F_Ju_32 i_Ju_movePointer_42 (fun a7 => ?_)
        refine jd_callVI G_Ju_171 in_Va_isPointer se_Va_isPointer rfl (fun _ e => c_Va_isPointer e) rfl ⟨by decide, by decide⟩ rfl (Nat.le_of_ble_eq_true rfl) i_Ju_movePointer_45 (fun v9 h8 => ?_)
        refine jd_if_eq 55 i_Ju_movePointer_48 (by decide) ?_ ?_
        · exact jd_less (t_Ju_movePointer_55) ⟨rfl, rfl, trivial⟩
        · exact jd_less (t_Ju_movePointer_51) ⟨rfl, rfl, trivial⟩
noncomputable def r_Ju_movePointer (h : ja_H) (a0 : Nat) : Option (Int32 × ja_H) := (jf_R h a0 5 2 (fun a101 => (jf_I h a101 4 6 (fun v102 => (if v102 = (0 : Int32) then (r_Ju_movePointer_15 h a0 (1 : Int32)) else (r_Ju_movePointer_15 h a0 (0 : Int32)))))))
theorem e_Ju_movePointer {h : ja_H} {a0 : Nat} : ja_D ja_gI M_Ju_movePointer 0 [some (.ref a0), none, none, none, none, none, none, none, none] [] h (r_Ju_movePointer h a0) := by
  unfold r_Ju_movePointer
  refine jd_aload_n i_Ju_movePointer_0 rfl ?_
  refine jd_getR F_Ju_25 i_Ju_movePointer_1 (fun a101 => ?_)
  refine jd_getI F_Ju_167 i_Ju_movePointer_4 (fun v102 => ?_)
  refine jd_if_ne 14 i_Ju_movePointer_7 (by decide) ?_ ?_
  · refine jd_iconst 0 i_Ju_movePointer_14 (by decide) ?_
    exact jd_less (t_Ju_movePointer_15) ⟨rfl, trivial⟩
  · refine jd_iconst 1 i_Ju_movePointer_10 (by decide) ?_
    refine jd_goto 15 i_Ju_movePointer_11 (by decide) ?_
    exact jd_less (t_Ju_movePointer_15) ⟨rfl, trivial⟩
theorem c_Ju_movePointer {h : ja_H} {a0 : Nat} {o : Int32 × ja_H} (e : r_Ju_movePointer h a0 = some o) : ja_M (1, 25) y_Ju_movePointer b_Ju_movePointer 9 (some .int) [.ref a0] h [.int o.1] o.2 := jc_of (g := ja_gI) false _ e e_Ju_movePointer rfl (by decide +kernel) (fun q => nomatch q) (Nat.le_of_ble_eq_true rfl) (fun _ q => nomatch q) (Nat.le_of_ble_eq_true rfl)
noncomputable def r_Ar_lowest_20 (h : ja_H) (z0 : Int64) : Option (Int64 × ja_H) := (some (z0, h))
theorem t_Ar_lowest_20 {h : ja_H} {z0 : Int64} : ja_D ja_gL M_Ar_lowest 20 [none, none, none, none] [.long z0] h (r_Ar_lowest_20 h z0) := by
  unfold r_Ar_lowest_20
  exact jd_lreturn i_Ar_lowest_20 rfl
noncomputable def r_Ar_lowest (h : ja_H) (a0 : Int64) (a2 : Int64) : Option (Int64 × ja_H) := (if a2 = (64 : Int64) then (r_Ar_lowest_20 h a0) else (r_Ar_lowest_20 h (a0 &&& (((1 : Int64) <<< (Int32.toInt64 (Int64.toInt32 a2) &&& 63)) - (1 : Int64)))))
theorem e_Ar_lowest {h : ja_H} {a0 : Int64} {a2 : Int64} : ja_D ja_gL M_Ar_lowest 0 [some (.long a0), none, some (.long a2), none] [] h (r_Ar_lowest h a0 a2) := by
  unfold r_Ar_lowest
  refine jd_lload_n i_Ar_lowest_0 rfl ?_
  refine jd_ldc2 i_Ar_lowest_1 K_Ar_29 ?_
  refine jd_lcmp_ne 12 i_Ar_lowest_4 i_Ar_lowest_5 (by decide) ?_ ?_
  · refine jd_lload_n i_Ar_lowest_12 rfl ?_
    refine jd_lconst 1 i_Ar_lowest_13 (by decide) ?_
    refine jd_lload_n i_Ar_lowest_14 rfl ?_
    refine jd_l2i i_Ar_lowest_15 ?_
    refine jd_lshl i_Ar_lowest_16 ?_
    refine jd_lconst 1 i_Ar_lowest_17 (by decide) ?_
    refine jd_lsub i_Ar_lowest_18 ?_
    refine jd_land i_Ar_lowest_19 ?_
    exact jd_less (t_Ar_lowest_20) trivial
  · refine jd_lload_n i_Ar_lowest_8 rfl ?_
    refine jd_goto 20 i_Ar_lowest_9 (by decide) ?_
    exact jd_less (t_Ar_lowest_20) trivial
theorem c_Ar_lowest {h : ja_H} {a0 : Int64} {a2 : Int64} {o : Int64 × ja_H} (e : r_Ar_lowest h a0 a2 = some o) : ja_M (0, 0) y_Ar_lowest b_Ar_lowest 4 (some .long) [.long a0, .long a2] h [.long o.1] o.2 := jc_of (g := ja_gL) false _ e e_Ar_lowest rfl (by decide +kernel) (fun q => nomatch q) (Nat.le_of_ble_eq_true rfl) (fun _ q => nomatch q) (Nat.le_of_ble_eq_true rfl)
noncomputable def r_Ar_quotient_72 (h : ja_H) (z0 : Int64) : Option (Int64 × ja_H) := (some (z0, h))
theorem t_Ar_quotient_72 {h : ja_H} {z0 : Int64} : ja_D ja_gL M_Ar_quotient 72 [none, none, none, none, none, none, none, none] [.long z0] h (r_Ar_quotient_72 h z0) := by
  unfold r_Ar_quotient_72
  exact jd_lreturn i_Ar_quotient_72 rfl
noncomputable def r_Ar_quotient_63 (h : ja_H) (y4 : Int64) : Option (Int64 × ja_H) := (r_Ar_quotient_72 h (y4 + (1 : Int64)))
theorem t_Ar_quotient_63 {h : ja_H} {y4 : Int64} : ja_D ja_gL M_Ar_quotient 63 [none, none, none, none, some (.long y4), none, none, none] [] h (r_Ar_quotient_63 h y4) := by
  unfold r_Ar_quotient_63
  refine jd_lload i_Ar_quotient_63 rfl ?_
  refine jd_lconst 1 i_Ar_quotient_65 (by decide) ?_
  refine jd_ladd i_Ar_quotient_66 ?_
  refine jd_goto 72 i_Ar_quotient_67 (by decide) ?_
  exact jd_less (t_Ar_quotient_72) trivial
noncomputable def r_Ar_quotient_31 (h : ja_H) (z0 : Int64) : Option (Int64 × ja_H) := (some (z0, h))
theorem t_Ar_quotient_31 {h : ja_H} {z0 : Int64} : ja_D ja_gL M_Ar_quotient 31 [none, none, none, none, none, none, none, none] [.long z0] h (r_Ar_quotient_31 h z0) := by
  unfold r_Ar_quotient_31
  exact jd_lreturn i_Ar_quotient_31 rfl
noncomputable def r_Ar_quotient_30 (h : ja_H) : Option (Int64 × ja_H) := (r_Ar_quotient_31 h (0 : Int64))
theorem t_Ar_quotient_30 {h : ja_H} : ja_D ja_gL M_Ar_quotient 30 [none, none, none, none, none, none, none, none] [] h (r_Ar_quotient_30 h) := by
  unfold r_Ar_quotient_30
  refine jd_lconst 0 i_Ar_quotient_30 (by decide) ?_
  exact jd_less (t_Ar_quotient_31) trivial
noncomputable def r_Ar_quotient (h : ja_H) (a0 : Int64) (a2 : Int64) : Option (Int64 × ja_H) := (if a2 = (0 : Int64) then (some ((0 : Int64), h)) else (if (0 : Int64) ≤ a2 then (jz_L a2 (jl ((((UInt64.toInt64 (Int64.toUInt64 a0 >>> (Int64.toUInt64 (Int32.toInt64 (1 : Int32)) &&& Int64.toUInt64 63))) / a2) <<< (Int32.toInt64 (1 : Int32) &&& 63)) : Int64) (fun (x101 : Int64) => (jl ((a0 - (x101 * a2)) : Int64) (fun (x102 : Int64) => (if x102 < (0 : Int64) then (r_Ar_quotient_63 h x101) else (if x102 < a2 then (r_Ar_quotient_72 h x101) else (r_Ar_quotient_63 h x101)))))))) else (if (0 : Int64) ≤ a0 then (r_Ar_quotient_30 h) else (if a0 < a2 then (r_Ar_quotient_30 h) else (r_Ar_quotient_31 h (1 : Int64))))))
theorem e_Ar_quotient {h : ja_H} {a0 : Int64} {a2 : Int64} : ja_D ja_gL M_Ar_quotient 0 [some (.long a0), none, some (.long a2), none, none, none, none, none] [] h (r_Ar_quotient h a0 a2) := by
  unfold r_Ar_quotient
  refine jd_lload_n i_Ar_quotient_0 rfl ?_
  refine jd_lconst 0 i_Ar_quotient_1 (by decide) ?_
  refine jd_lcmp_ne 8 i_Ar_quotient_2 i_Ar_quotient_3 (by decide) ?_ ?_
  · refine jd_lload_n i_Ar_quotient_8 rfl ?_
    refine jd_lconst 0 i_Ar_quotient_9 (by decide) ?_
    refine jd_lcmp_ge 32 i_Ar_quotient_10 i_Ar_quotient_11 (by decide) ?_ ?_
    · refine jd_lload_n i_Ar_quotient_32 rfl ?_
      refine jd_iconst 1 i_Ar_quotient_33 (by decide) ?_
      refine jd_lushr i_Ar_quotient_34 ?_
      refine jd_lload_n i_Ar_quotient_35 rfl ?_
      refine jd_ldiv i_Ar_quotient_36 ?_
      refine jd_iconst 1 i_Ar_quotient_37 (by decide) ?_
      refine jd_lshl i_Ar_quotient_38 ?_
      refine jd_lstore (fun x101 => [some (.long a0), none, some (.long a2), none, some (.long x101), none, none, none]) i_Ar_quotient_39 (by decide) rfl (fun _ => rfl) (fun x101 => ?_)
      refine jd_lload_n i_Ar_quotient_41 rfl ?_
      refine jd_lload i_Ar_quotient_42 rfl ?_
      refine jd_lload_n i_Ar_quotient_44 rfl ?_
      refine jd_lmul i_Ar_quotient_45 ?_
      refine jd_lsub i_Ar_quotient_46 ?_
      refine jd_lstore (fun x102 => [some (.long a0), none, some (.long a2), none, some (.long x101), none, some (.long x102), none]) i_Ar_quotient_47 (by decide) rfl (fun _ => rfl) (fun x102 => ?_)
      refine jd_lload i_Ar_quotient_49 rfl ?_
      refine jd_lconst 0 i_Ar_quotient_51 (by decide) ?_
      refine jd_lcmp_lt 63 i_Ar_quotient_52 i_Ar_quotient_53 (by decide) ?_ ?_
      · exact jd_less (t_Ar_quotient_63) ⟨rfl, trivial⟩
      · refine jd_lload i_Ar_quotient_56 rfl ?_
        refine jd_lload_n i_Ar_quotient_58 rfl ?_
        refine jd_lcmp_lt 70 i_Ar_quotient_59 i_Ar_quotient_60 (by decide) ?_ ?_
        · refine jd_lload i_Ar_quotient_70 rfl ?_
          exact jd_less (t_Ar_quotient_72) trivial
        · exact jd_less (t_Ar_quotient_63) ⟨rfl, trivial⟩
    · refine jd_lload_n i_Ar_quotient_14 rfl ?_
      refine jd_lconst 0 i_Ar_quotient_15 (by decide) ?_
      refine jd_lcmp_ge 30 i_Ar_quotient_16 i_Ar_quotient_17 (by decide) ?_ ?_
      · exact jd_less (t_Ar_quotient_30) trivial
      · refine jd_lload_n i_Ar_quotient_20 rfl ?_
        refine jd_lload_n i_Ar_quotient_21 rfl ?_
        refine jd_lcmp_lt 30 i_Ar_quotient_22 i_Ar_quotient_23 (by decide) ?_ ?_
        · exact jd_less (t_Ar_quotient_30) trivial
        · refine jd_lconst 1 i_Ar_quotient_26 (by decide) ?_
          refine jd_goto 31 i_Ar_quotient_27 (by decide) ?_
          exact jd_less (t_Ar_quotient_31) trivial
  · refine jd_lconst 0 i_Ar_quotient_6 (by decide) ?_
    exact jd_lreturn i_Ar_quotient_7 rfl
theorem c_Ar_quotient {h : ja_H} {a0 : Int64} {a2 : Int64} {o : Int64 × ja_H} (e : r_Ar_quotient h a0 a2 = some o) : ja_M (0, 0) y_Ar_quotient b_Ar_quotient 8 (some .long) [.long a0, .long a2] h [.long o.1] o.2 := jc_of (g := ja_gL) false _ e e_Ar_quotient rfl (by decide +kernel) (fun q => nomatch q) (Nat.le_of_ble_eq_true rfl) (fun _ q => nomatch q) (Nat.le_of_ble_eq_true rfl)
noncomputable def r_Ar_turned_43 (h : ja_H) (y4 : Int64) : Option (Int64 × ja_H) := (some (y4, h))
theorem t_Ar_turned_43 {h : ja_H} {y4 : Int64} : ja_D ja_gL M_Ar_turned 43 [none, none, none, none, some (.long y4), none, none] [] h (r_Ar_turned_43 h y4) := by
  unfold r_Ar_turned_43
  refine jd_lload i_Ar_turned_43 rfl ?_
  exact jd_lreturn i_Ar_turned_45 rfl
noncomputable def q_Ar_turned_6 (C6 : ja_H → Int64 → Int64 → Int64 → Int32 → Option (Int64 × ja_H)) (h : ja_H) (y0 : Int64) (y2 : Int64) (y4 : Int64) (y6 : Int32) : Option (Int64 × ja_H) := (if (64 : Int32) ≤ y6 then (r_Ar_turned_43 h y4) else (if y2 ≤ (Int32.toInt64 y6) then (r_Ar_turned_43 h y4) else (jl (((y4 <<< (Int32.toInt64 (8 : Int32) &&& 63)) ||| ((UInt64.toInt64 (Int64.toUInt64 y0 >>> (Int64.toUInt64 (Int32.toInt64 y6) &&& Int64.toUInt64 63))) &&& (255 : Int64))) : Int64) (fun (x1 : Int64) => (jl (y6 + 8 : Int32) (fun (x2 : Int32) => (C6 h y0 y2 x1 x2)))))))
theorem t_Ar_turned_6 {C6 : ja_H → Int64 → Int64 → Int64 → Int32 → Option (Int64 × ja_H)} (k6 : ∀ (h : ja_H) (y0 : Int64) (y2 : Int64) (y4 : Int64) (y6 : Int32), ja_D ja_gL M_Ar_turned 6 [some (.long y0), none, some (.long y2), none, some (.long y4), none, some (.int y6)] [] h (C6 h y0 y2 y4 y6)) {h : ja_H} {y0 : Int64} {y2 : Int64} {y4 : Int64} {y6 : Int32} : ja_D ja_gL M_Ar_turned 6 [some (.long y0), none, some (.long y2), none, some (.long y4), none, some (.int y6)] [] h (q_Ar_turned_6 C6 h y0 y2 y4 y6) := by
  unfold q_Ar_turned_6
  refine jd_iload i_Ar_turned_6 rfl ?_
  refine jd_bipush 64 i_Ar_turned_8 (by decide) ?_
  refine jd_icmp_ge 43 i_Ar_turned_10 (by decide) ?_ ?_
  · exact jd_less (t_Ar_turned_43) ⟨rfl, trivial⟩
  · refine jd_iload i_Ar_turned_13 rfl ?_
    refine jd_i2l i_Ar_turned_15 ?_
    refine jd_lload_n i_Ar_turned_16 rfl ?_
    refine jd_lcmp_ge 43 i_Ar_turned_17 i_Ar_turned_18 (by decide) ?_ ?_
    · exact jd_less (t_Ar_turned_43) ⟨rfl, trivial⟩
    · refine jd_lload i_Ar_turned_21 rfl ?_
      refine jd_bipush 8 i_Ar_turned_23 (by decide) ?_
      refine jd_lshl i_Ar_turned_25 ?_
      refine jd_lload_n i_Ar_turned_26 rfl ?_
      refine jd_iload i_Ar_turned_27 rfl ?_
      refine jd_lushr i_Ar_turned_29 ?_
      refine jd_ldc2 i_Ar_turned_30 K_Ar_31 ?_
      refine jd_land i_Ar_turned_33 ?_
      refine jd_lor i_Ar_turned_34 ?_
      refine jd_lstore (fun x1 => [some (.long y0), none, some (.long y2), none, some (.long x1), none, some (.int y6)]) i_Ar_turned_35 (by decide) rfl (fun _ => rfl) (fun x1 => ?_)
      refine jd_iinc (fun x2 => [some (.long y0), none, some (.long y2), none, some (.long x1), none, some (.int x2)]) i_Ar_turned_37 rfl rfl (by decide) rfl (fun _ => rfl) (fun x2 => ?_)
      refine jd_goto 6 i_Ar_turned_40 (by decide) ?_
      exact jd_less (k6 _ _ _ _ _) ⟨rfl, rfl, rfl, rfl, trivial⟩
noncomputable def r_Ar_turned_6 : Nat → ja_H → Int64 → Int64 → Int64 → Int32 → Option (Int64 × ja_H) := ja_lo (q_Ar_turned_6) (fun _ _ _ _ _ => none)
theorem s_Ar_turned_6 : ∀ (n : Nat) (h : ja_H) (y0 : Int64) (y2 : Int64) (y4 : Int64) (y6 : Int32), ja_D ja_gL M_Ar_turned 6 [some (.long y0), none, some (.long y2), none, some (.long y4), none, some (.int y6)] [] h (r_Ar_turned_6 n h y0 y2 y4 y6) := by
  intro n
  induction n with
  | zero => intro h y0 y2 y4 y6 o e; cases e
  | succ n ih => intro h y0 y2 y4 y6; exact t_Ar_turned_6 ih
noncomputable def r_Ar_turned (h : ja_H) (a0 : Int64) (a2 : Int64) : Option (Int64 × ja_H) := (jl ((0 : Int64) : Int64) (fun (x101 : Int64) => (jl ((0 : Int32) : Int32) (fun (x102 : Int32) => (r_Ar_turned_6 ja_fu h a0 a2 x101 x102)))))
theorem e_Ar_turned {h : ja_H} {a0 : Int64} {a2 : Int64} : ja_D ja_gL M_Ar_turned 0 [some (.long a0), none, some (.long a2), none, none, none, none] [] h (r_Ar_turned h a0 a2) := by
  unfold r_Ar_turned
  refine jd_lconst 0 i_Ar_turned_0 (by decide) ?_
  refine jd_lstore (fun x101 => [some (.long a0), none, some (.long a2), none, some (.long x101), none, none]) i_Ar_turned_1 (by decide) rfl (fun _ => rfl) (fun x101 => ?_)
  refine jd_iconst 0 i_Ar_turned_3 (by decide) ?_
  refine jd_istore (fun x102 => [some (.long a0), none, some (.long a2), none, some (.long x101), none, some (.int x102)]) i_Ar_turned_4 (by decide) rfl (fun _ => rfl) (fun x102 => ?_)
  exact jd_less (s_Ar_turned_6 ja_fu _ _ _ _ _) ⟨rfl, rfl, rfl, rfl, trivial⟩
theorem c_Ar_turned {h : ja_H} {a0 : Int64} {a2 : Int64} {o : Int64 × ja_H} (e : r_Ar_turned h a0 a2 = some o) : ja_M (0, 0) y_Ar_turned b_Ar_turned 7 (some .long) [.long a0, .long a2] h [.long o.1] o.2 := jc_of (g := ja_gL) false _ e e_Ar_turned rfl (by decide +kernel) (fun q => nomatch q) (Nat.le_of_ble_eq_true rfl) (fun _ q => nomatch q) (Nat.le_of_ble_eq_true rfl)
noncomputable def r_Ar_reckonTaken_188 (h : ja_H) (y3 : Int64) : Option (Int64 × ja_H) := (some (y3, h))
theorem t_Ar_reckonTaken_188 {h : ja_H} {y3 : Int64} : ja_D ja_gL M_Ar_reckonTaken 188 [none, none, none, some (.long y3), none, none] [] h (r_Ar_reckonTaken_188 h y3) := by
  unfold r_Ar_reckonTaken_188
  refine jd_lload_n i_Ar_reckonTaken_188 rfl ?_
  exact jd_lreturn i_Ar_reckonTaken_189 rfl
noncomputable def r_Ar_reckonTaken_187 (h : ja_H) (z0 : Int64) : Option (Int64 × ja_H) := (some (z0, h))
theorem t_Ar_reckonTaken_187 {h : ja_H} {z0 : Int64} : ja_D ja_gL M_Ar_reckonTaken 187 [none, none, none, none, none, none] [.long z0] h (r_Ar_reckonTaken_187 h z0) := by
  unfold r_Ar_reckonTaken_187
  exact jd_lreturn i_Ar_reckonTaken_187 rfl
noncomputable def r_Ar_reckonTaken_166 (h : ja_H) (z0 : Int64) : Option (Int64 × ja_H) := (some (z0, h))
theorem t_Ar_reckonTaken_166 {h : ja_H} {z0 : Int64} : ja_D ja_gL M_Ar_reckonTaken 166 [none, none, none, none, none, none] [.long z0] h (r_Ar_reckonTaken_166 h z0) := by
  unfold r_Ar_reckonTaken_166
  exact jd_lreturn i_Ar_reckonTaken_166 rfl
noncomputable def r_Ar_reckonTaken_17 (h : ja_H) (y0 : Int32) (y1 : Int64) (y3 : Int64) (z0 : Int32) (z1 : Int32) : Option (Int64 × ja_H) := (jl ((z1 &&& z0) : Int32) (fun (x1 : Int32) => (jsw (y0 >>> ((4 : Int32) &&& 31)) [0, 1, 2, 3, 4, 5, 6, 7, 8, 9, 10, 11, 12, 13] [(some ((y1 + y3), h)), (some ((y1 - y3), h)), (some ((y1 * y3), h)), (jc_L (r_Ar_quotient h y1 y3) (fun v3 h2 => (some (v3, h2)))), (some ((y1 ||| y3), h)), (some ((y1 &&& y3), h)), (some ((y1 <<< (Int32.toInt64 x1 &&& 63)), h)), (some ((UInt64.toInt64 (Int64.toUInt64 y1 >>> (Int64.toUInt64 (Int32.toInt64 x1) &&& Int64.toUInt64 63))), h)), (some ((-y1), h)), (jc_L (r_Ar_quotient h y1 y3) (fun v5 h4 => (some ((y1 - (v5 * y3)), h4)))), (some ((y1 ^^^ y3), h)), (r_Ar_reckonTaken_188 h y3), (if (y0 &&& (7 : Int32)) = (4 : Int32) then (r_Ar_reckonTaken_166 h (Int32.toInt64 ((Int64.toInt32 y1) >>> (x1 &&& 31)))) else (r_Ar_reckonTaken_166 h (y1 >>> (Int32.toInt64 x1 &&& 63)))), (if (y0 &&& (8 : Int32)) = (0 : Int32) then (jc_L (r_Ar_lowest h y1 y3) (fun v9 h8 => (r_Ar_reckonTaken_187 h8 v9))) else (jc_L (r_Ar_turned h y1 y3) (fun v7 h6 => (r_Ar_reckonTaken_187 h6 v7))))] (r_Ar_reckonTaken_188 h y3))))
theorem t_Ar_reckonTaken_17 {h : ja_H} {y0 : Int32} {y1 : Int64} {y3 : Int64} {z0 : Int32} {z1 : Int32} : ja_D ja_gL M_Ar_reckonTaken 17 [some (.int y0), some (.long y1), none, some (.long y3), none, none] [.int z0, .int z1] h (r_Ar_reckonTaken_17 h y0 y1 y3 z0 z1) := by
  unfold r_Ar_reckonTaken_17
  refine jd_iand i_Ar_reckonTaken_17 ?_
  refine jd_istore (fun x1 => [some (.int y0), some (.long y1), none, some (.long y3), none, some (.int x1)]) i_Ar_reckonTaken_18 (by decide) rfl (fun _ => rfl) (fun x1 => ?_)
  refine jd_iload_n i_Ar_reckonTaken_20 rfl ?_
  refine jd_iconst 4 i_Ar_reckonTaken_21 (by decide) ?_
  refine jd_ishr i_Ar_reckonTaken_22 ?_
  refine jd_ts 188 [0, 1, 2, 3, 4, 5, 6, 7, 8, 9, 10, 11, 12, 13] [92, 96, 100, 104, 110, 114, 118, 123, 128, 131, 141, 188, 145, 167] i_Ar_reckonTaken_23 rfl (by decide) (by decide) (by decide) ?_ ⟨?_, ?_, ?_, ?_, ?_, ?_, ?_, ?_, ?_, ?_, ?_, ?_, ?_, ?_, trivial⟩
  · exact jd_less (t_Ar_reckonTaken_188) ⟨rfl, trivial⟩
  · refine jd_lload_n i_Ar_reckonTaken_92 rfl ?_
    refine jd_lload_n i_Ar_reckonTaken_93 rfl ?_
    refine jd_ladd i_Ar_reckonTaken_94 ?_
    exact jd_lreturn i_Ar_reckonTaken_95 rfl
  · refine jd_lload_n i_Ar_reckonTaken_96 rfl ?_
    refine jd_lload_n i_Ar_reckonTaken_97 rfl ?_
    refine jd_lsub i_Ar_reckonTaken_98 ?_
    exact jd_lreturn i_Ar_reckonTaken_99 rfl
  · refine jd_lload_n i_Ar_reckonTaken_100 rfl ?_
    refine jd_lload_n i_Ar_reckonTaken_101 rfl ?_
    refine jd_lmul i_Ar_reckonTaken_102 ?_
    exact jd_lreturn i_Ar_reckonTaken_103 rfl
  · refine jd_lload_n i_Ar_reckonTaken_104 rfl ?_
    refine jd_lload_n i_Ar_reckonTaken_105 rfl ?_
    refine jd_callSL G_Ar_17 sc_Ar_quotient (fun _ e => c_Ar_quotient e) rfl ⟨by decide, by decide⟩ rfl (Nat.le_of_ble_eq_true rfl) i_Ar_reckonTaken_106 (fun v3 h2 => ?_)
    exact jd_lreturn i_Ar_reckonTaken_109 rfl
  · refine jd_lload_n i_Ar_reckonTaken_110 rfl ?_
    refine jd_lload_n i_Ar_reckonTaken_111 rfl ?_
    refine jd_lor i_Ar_reckonTaken_112 ?_
    exact jd_lreturn i_Ar_reckonTaken_113 rfl
  · refine jd_lload_n i_Ar_reckonTaken_114 rfl ?_
    refine jd_lload_n i_Ar_reckonTaken_115 rfl ?_
    refine jd_land i_Ar_reckonTaken_116 ?_
    exact jd_lreturn i_Ar_reckonTaken_117 rfl
  · refine jd_lload_n i_Ar_reckonTaken_118 rfl ?_
    refine jd_iload i_Ar_reckonTaken_119 rfl ?_
    refine jd_lshl i_Ar_reckonTaken_121 ?_
    exact jd_lreturn i_Ar_reckonTaken_122 rfl
  · refine jd_lload_n i_Ar_reckonTaken_123 rfl ?_
    refine jd_iload i_Ar_reckonTaken_124 rfl ?_
    refine jd_lushr i_Ar_reckonTaken_126 ?_
    exact jd_lreturn i_Ar_reckonTaken_127 rfl
  · refine jd_lload_n i_Ar_reckonTaken_128 rfl ?_
    refine jd_lneg i_Ar_reckonTaken_129 ?_
    exact jd_lreturn i_Ar_reckonTaken_130 rfl
  · refine jd_lload_n i_Ar_reckonTaken_131 rfl ?_
    refine jd_lload_n i_Ar_reckonTaken_132 rfl ?_
    refine jd_lload_n i_Ar_reckonTaken_133 rfl ?_
    refine jd_callSL G_Ar_17 sc_Ar_quotient (fun _ e => c_Ar_quotient e) rfl ⟨by decide, by decide⟩ rfl (Nat.le_of_ble_eq_true rfl) i_Ar_reckonTaken_134 (fun v5 h4 => ?_)
    refine jd_lload_n i_Ar_reckonTaken_137 rfl ?_
    refine jd_lmul i_Ar_reckonTaken_138 ?_
    refine jd_lsub i_Ar_reckonTaken_139 ?_
    exact jd_lreturn i_Ar_reckonTaken_140 rfl
  · refine jd_lload_n i_Ar_reckonTaken_141 rfl ?_
    refine jd_lload_n i_Ar_reckonTaken_142 rfl ?_
    refine jd_lxor i_Ar_reckonTaken_143 ?_
    exact jd_lreturn i_Ar_reckonTaken_144 rfl
  · exact jd_less (t_Ar_reckonTaken_188) ⟨rfl, trivial⟩
  · refine jd_iload_n i_Ar_reckonTaken_145 rfl ?_
    refine jd_bipush 7 i_Ar_reckonTaken_146 (by decide) ?_
    refine jd_iand i_Ar_reckonTaken_148 ?_
    refine jd_iconst 4 i_Ar_reckonTaken_149 (by decide) ?_
    refine jd_icmp_ne 162 i_Ar_reckonTaken_150 (by decide) ?_ ?_
    · refine jd_lload_n i_Ar_reckonTaken_162 rfl ?_
      refine jd_iload i_Ar_reckonTaken_163 rfl ?_
      refine jd_lshr i_Ar_reckonTaken_165 ?_
      exact jd_less (t_Ar_reckonTaken_166) trivial
    · refine jd_lload_n i_Ar_reckonTaken_153 rfl ?_
      refine jd_l2i i_Ar_reckonTaken_154 ?_
      refine jd_iload i_Ar_reckonTaken_155 rfl ?_
      refine jd_ishr i_Ar_reckonTaken_157 ?_
      refine jd_i2l i_Ar_reckonTaken_158 ?_
      refine jd_goto 166 i_Ar_reckonTaken_159 (by decide) ?_
      exact jd_less (t_Ar_reckonTaken_166) trivial
  · refine jd_iload_n i_Ar_reckonTaken_167 rfl ?_
    refine jd_bipush 8 i_Ar_reckonTaken_168 (by decide) ?_
    refine jd_iand i_Ar_reckonTaken_170 ?_
    refine jd_if_ne 182 i_Ar_reckonTaken_171 (by decide) ?_ ?_
    · refine jd_lload_n i_Ar_reckonTaken_182 rfl ?_
      refine jd_lload_n i_Ar_reckonTaken_183 rfl ?_
      refine jd_callSL G_Ar_24 sc_Ar_turned (fun _ e => c_Ar_turned e) rfl ⟨by decide, by decide⟩ rfl (Nat.le_of_ble_eq_true rfl) i_Ar_reckonTaken_184 (fun v7 h6 => ?_)
      exact jd_less (t_Ar_reckonTaken_187) trivial
    · refine jd_lload_n i_Ar_reckonTaken_174 rfl ?_
      refine jd_lload_n i_Ar_reckonTaken_175 rfl ?_
      refine jd_callSL G_Ar_21 sc_Ar_lowest (fun _ e => c_Ar_lowest e) rfl ⟨by decide, by decide⟩ rfl (Nat.le_of_ble_eq_true rfl) i_Ar_reckonTaken_176 (fun v9 h8 => ?_)
      refine jd_goto 187 i_Ar_reckonTaken_179 (by decide) ?_
      exact jd_less (t_Ar_reckonTaken_187) trivial
noncomputable def r_Ar_reckonTaken (h : ja_H) (a0 : Int32) (a1 : Int64) (a3 : Int64) : Option (Int64 × ja_H) := (if (a0 &&& (7 : Int32)) = (4 : Int32) then (r_Ar_reckonTaken_17 h a0 a1 a3 (31 : Int32) (Int64.toInt32 a3)) else (r_Ar_reckonTaken_17 h a0 a1 a3 (63 : Int32) (Int64.toInt32 a3)))
theorem e_Ar_reckonTaken {h : ja_H} {a0 : Int32} {a1 : Int64} {a3 : Int64} : ja_D ja_gL M_Ar_reckonTaken 0 [some (.int a0), some (.long a1), none, some (.long a3), none, none] [] h (r_Ar_reckonTaken h a0 a1 a3) := by
  unfold r_Ar_reckonTaken
  refine jd_lload_n i_Ar_reckonTaken_0 rfl ?_
  refine jd_l2i i_Ar_reckonTaken_1 ?_
  refine jd_iload_n i_Ar_reckonTaken_2 rfl ?_
  refine jd_bipush 7 i_Ar_reckonTaken_3 (by decide) ?_
  refine jd_iand i_Ar_reckonTaken_5 ?_
  refine jd_iconst 4 i_Ar_reckonTaken_6 (by decide) ?_
  refine jd_icmp_ne 15 i_Ar_reckonTaken_7 (by decide) ?_ ?_
  · refine jd_bipush 63 i_Ar_reckonTaken_15 (by decide) ?_
    exact jd_less (t_Ar_reckonTaken_17) ⟨rfl, rfl, rfl, trivial⟩
  · refine jd_bipush 31 i_Ar_reckonTaken_10 (by decide) ?_
    refine jd_goto 17 i_Ar_reckonTaken_12 (by decide) ?_
    exact jd_less (t_Ar_reckonTaken_17) ⟨rfl, rfl, rfl, trivial⟩
theorem c_Ar_reckonTaken {h : ja_H} {a0 : Int32} {a1 : Int64} {a3 : Int64} {o : Int64 × ja_H} (e : r_Ar_reckonTaken h a0 a1 a3 = some o) : ja_M (1, 27) y_Ar_reckonTaken b_Ar_reckonTaken 6 (some .long) [.int a0, .long a1, .long a3] h [.long o.1] o.2 := jc_of (g := ja_gL) false _ e e_Ar_reckonTaken rfl (by decide +kernel) (fun q => nomatch q) (Nat.le_of_ble_eq_true rfl) (fun _ q => nomatch q) (Nat.le_of_ble_eq_true rfl)
noncomputable def r_Ar_reckon_81 (h : ja_H) (z0 : Int64) : Option (Int64 × ja_H) := (some (z0, h))
theorem t_Ar_reckon_81 {h : ja_H} {z0 : Int64} : ja_D ja_gL M_Ar_reckon 81 [none, none, none, none, none, none, none, none, none, none, none, none] [.long z0] h (r_Ar_reckon_81 h z0) := by
  unfold r_Ar_reckon_81
  exact jd_lreturn i_Ar_reckon_81 rfl
noncomputable def r_Ar_reckon_53 (h : ja_H) (y0 : Int32) (y5 : Int32) (y6 : Int64) (z0 : Int64) : Option (Int64 × ja_H) := (jl (z0 : Int64) (fun (x1 : Int64) => (jc_L (r_Ar_reckonTaken h y0 y6 x1) (fun v3 h2 => (jl (v3 : Int64) (fun (x4 : Int64) => (if y5 = (0 : Int32) then (r_Ar_reckon_81 h2 x4) else (r_Ar_reckon_81 h2 (x4 &&& (4294967295 : Int64))))))))))
theorem t_Ar_reckon_53 {h : ja_H} {y0 : Int32} {y5 : Int32} {y6 : Int64} {z0 : Int64} : ja_D ja_gL M_Ar_reckon 53 [some (.int y0), none, none, none, none, some (.int y5), some (.long y6), none, none, none, none, none] [.long z0] h (r_Ar_reckon_53 h y0 y5 y6 z0) := by
  unfold r_Ar_reckon_53
  refine jd_lstore (fun x1 => [some (.int y0), none, none, none, none, some (.int y5), some (.long y6), none, some (.long x1), none, none, none]) i_Ar_reckon_53 (by decide) rfl (fun _ => rfl) (fun x1 => ?_)
  refine jd_iload_n i_Ar_reckon_55 rfl ?_
  refine jd_lload i_Ar_reckon_56 rfl ?_
  refine jd_lload i_Ar_reckon_58 rfl ?_
  refine jd_callSL G_Ar_11 sc_Ar_reckonTaken (fun _ e => c_Ar_reckonTaken e) rfl ⟨by decide, by decide⟩ rfl (Nat.le_of_ble_eq_true rfl) i_Ar_reckon_60 (fun v3 h2 => ?_)
  refine jd_lstore (fun x4 => [some (.int y0), none, none, none, none, some (.int y5), some (.long y6), none, some (.long x1), none, some (.long x4), none]) i_Ar_reckon_63 (by decide) rfl (fun _ => rfl) (fun x4 => ?_)
  refine jd_iload i_Ar_reckon_65 rfl ?_
  refine jd_if_eq 79 i_Ar_reckon_67 (by decide) ?_ ?_
  · refine jd_lload i_Ar_reckon_79 rfl ?_
    exact jd_less (t_Ar_reckon_81) trivial
  · refine jd_lload i_Ar_reckon_70 rfl ?_
    refine jd_ldc2 i_Ar_reckon_72 K_Ar_9 ?_
    refine jd_land i_Ar_reckon_75 ?_
    refine jd_goto 81 i_Ar_reckon_76 (by decide) ?_
    exact jd_less (t_Ar_reckon_81) trivial
noncomputable def r_Ar_reckon_37 (h : ja_H) (y0 : Int32) (y3 : Int64) (y5 : Int32) (z0 : Int64) : Option (Int64 × ja_H) := (jl (z0 : Int64) (fun (x1 : Int64) => (if y5 = (0 : Int32) then (r_Ar_reckon_53 h y0 y5 x1 y3) else (r_Ar_reckon_53 h y0 y5 x1 (y3 &&& (4294967295 : Int64))))))
theorem t_Ar_reckon_37 {h : ja_H} {y0 : Int32} {y3 : Int64} {y5 : Int32} {z0 : Int64} : ja_D ja_gL M_Ar_reckon 37 [some (.int y0), none, none, some (.long y3), none, some (.int y5), none, none, none, none, none, none] [.long z0] h (r_Ar_reckon_37 h y0 y3 y5 z0) := by
  unfold r_Ar_reckon_37
  refine jd_lstore (fun x1 => [some (.int y0), none, none, some (.long y3), none, some (.int y5), some (.long x1), none, none, none, none, none]) i_Ar_reckon_37 (by decide) rfl (fun _ => rfl) (fun x1 => ?_)
  refine jd_iload i_Ar_reckon_39 rfl ?_
  refine jd_if_eq 52 i_Ar_reckon_41 (by decide) ?_ ?_
  · refine jd_lload_n i_Ar_reckon_52 rfl ?_
    exact jd_less (t_Ar_reckon_53) ⟨rfl, rfl, rfl, trivial⟩
  · refine jd_lload_n i_Ar_reckon_44 rfl ?_
    refine jd_ldc2 i_Ar_reckon_45 K_Ar_9 ?_
    refine jd_land i_Ar_reckon_48 ?_
    refine jd_goto 53 i_Ar_reckon_49 (by decide) ?_
    exact jd_less (t_Ar_reckon_53) ⟨rfl, rfl, rfl, trivial⟩
noncomputable def r_Ar_reckon_21 (h : ja_H) (y0 : Int32) (y1 : Int64) (y3 : Int64) (z0 : Int32) : Option (Int64 × ja_H) := (jl (z0 : Int32) (fun (x1 : Int32) => (if x1 = (0 : Int32) then (r_Ar_reckon_37 h y0 y3 x1 y1) else (r_Ar_reckon_37 h y0 y3 x1 (y1 &&& (4294967295 : Int64))))))
theorem t_Ar_reckon_21 {h : ja_H} {y0 : Int32} {y1 : Int64} {y3 : Int64} {z0 : Int32} : ja_D ja_gL M_Ar_reckon 21 [some (.int y0), some (.long y1), none, some (.long y3), none, none, none, none, none, none, none, none] [.int z0] h (r_Ar_reckon_21 h y0 y1 y3 z0) := by
  unfold r_Ar_reckon_21
  refine jd_istore (fun x1 => [some (.int y0), some (.long y1), none, some (.long y3), none, some (.int x1), none, none, none, none, none, none]) i_Ar_reckon_21 (by decide) rfl (fun _ => rfl) (fun x1 => ?_)
  refine jd_iload i_Ar_reckon_23 rfl ?_
  refine jd_if_eq 36 i_Ar_reckon_25 (by decide) ?_ ?_
  · refine jd_lload_n i_Ar_reckon_36 rfl ?_
    exact jd_less (t_Ar_reckon_37) ⟨rfl, rfl, rfl, trivial⟩
  · refine jd_lload_n i_Ar_reckon_28 rfl ?_
    refine jd_ldc2 i_Ar_reckon_29 K_Ar_9 ?_
    refine jd_land i_Ar_reckon_32 ?_
    refine jd_goto 37 i_Ar_reckon_33 (by decide) ?_
    exact jd_less (t_Ar_reckon_37) ⟨rfl, rfl, rfl, trivial⟩
noncomputable def r_Ar_reckon_20 (h : ja_H) (y0 : Int32) (y1 : Int64) (y3 : Int64) : Option (Int64 × ja_H) := (r_Ar_reckon_21 h y0 y1 y3 (0 : Int32))
theorem t_Ar_reckon_20 {h : ja_H} {y0 : Int32} {y1 : Int64} {y3 : Int64} : ja_D ja_gL M_Ar_reckon 20 [some (.int y0), some (.long y1), none, some (.long y3), none, none, none, none, none, none, none, none] [] h (r_Ar_reckon_20 h y0 y1 y3) := by
  unfold r_Ar_reckon_20
  refine jd_iconst 0 i_Ar_reckon_20 (by decide) ?_
  exact jd_less (t_Ar_reckon_21) ⟨rfl, rfl, rfl, trivial⟩
noncomputable def r_Ar_reckon (h : ja_H) (a0 : Int32) (a1 : Int64) (a3 : Int64) : Option (Int64 × ja_H) := (if (a0 &&& (7 : Int32)) = (4 : Int32) then (if (a0 >>> ((4 : Int32) &&& 31)) = (13 : Int32) then (r_Ar_reckon_20 h a0 a1 a3) else (r_Ar_reckon_21 h a0 a1 a3 (1 : Int32))) else (r_Ar_reckon_20 h a0 a1 a3))
theorem e_Ar_reckon {h : ja_H} {a0 : Int32} {a1 : Int64} {a3 : Int64} : ja_D ja_gL M_Ar_reckon 0 [some (.int a0), some (.long a1), none, some (.long a3), none, none, none, none, none, none, none, none] [] h (r_Ar_reckon h a0 a1 a3) := by
  unfold r_Ar_reckon
  refine jd_iload_n i_Ar_reckon_0 rfl ?_
  refine jd_bipush 7 i_Ar_reckon_1 (by decide) ?_
  refine jd_iand i_Ar_reckon_3 ?_
  refine jd_iconst 4 i_Ar_reckon_4 (by decide) ?_
  refine jd_icmp_ne 20 i_Ar_reckon_5 (by decide) ?_ ?_
  · exact jd_less (t_Ar_reckon_20) ⟨rfl, rfl, rfl, trivial⟩
  · refine jd_iload_n i_Ar_reckon_8 rfl ?_
    refine jd_iconst 4 i_Ar_reckon_9 (by decide) ?_
    refine jd_ishr i_Ar_reckon_10 ?_
    refine jd_bipush 13 i_Ar_reckon_11 (by decide) ?_
    refine jd_icmp_eq 20 i_Ar_reckon_13 (by decide) ?_ ?_
    · exact jd_less (t_Ar_reckon_20) ⟨rfl, rfl, rfl, trivial⟩
    · refine jd_iconst 1 i_Ar_reckon_16 (by decide) ?_
      refine jd_goto 21 i_Ar_reckon_17 (by decide) ?_
      exact jd_less (t_Ar_reckon_21) ⟨rfl, rfl, rfl, trivial⟩
theorem c_Ar_reckon {h : ja_H} {a0 : Int32} {a1 : Int64} {a3 : Int64} {o : Int64 × ja_H} (e : r_Ar_reckon h a0 a1 a3 = some o) : ja_M (2, 52) y_Ar_reckon b_Ar_reckon 12 (some .long) [.int a0, .long a1, .long a3] h [.long o.1] o.2 := jc_of (g := ja_gL) false _ e e_Ar_reckon rfl (by decide +kernel) (fun q => nomatch q) (Nat.le_of_ble_eq_true rfl) (fun _ q => nomatch q) (Nat.le_of_ble_eq_true rfl)
noncomputable def r_Nu_sumFits_21 (h : ja_H) (z0 : Int32) : Option (Int32 × ja_H) := (jb z0 (some (z0, h)))
theorem t_Nu_sumFits_21 {h : ja_H} {z0 : Int32} : ja_D ja_gI M_Nu_sumFits 21 [none, none, none, none] [.int z0] h (r_Nu_sumFits_21 h z0) := by
  unfold r_Nu_sumFits_21
  exact jd_zreturn i_Nu_sumFits_21 rfl
noncomputable def r_Nu_sumFits (h : ja_H) (a0 : Int64) (a2 : Int64) : Option (Int32 × ja_H) := (if ((a0 ^^^ (a0 + a2)) &&& (a2 ^^^ (a0 + a2))) < (0 : Int64) then (r_Nu_sumFits_21 h (0 : Int32)) else (r_Nu_sumFits_21 h (1 : Int32)))
theorem e_Nu_sumFits {h : ja_H} {a0 : Int64} {a2 : Int64} : ja_D ja_gI M_Nu_sumFits 0 [some (.long a0), none, some (.long a2), none] [] h (r_Nu_sumFits h a0 a2) := by
  unfold r_Nu_sumFits
  refine jd_lload_n i_Nu_sumFits_0 rfl ?_
  refine jd_lload_n i_Nu_sumFits_1 rfl ?_
  refine jd_lload_n i_Nu_sumFits_2 rfl ?_
  refine jd_ladd i_Nu_sumFits_3 ?_
  refine jd_lxor i_Nu_sumFits_4 ?_
  refine jd_lload_n i_Nu_sumFits_5 rfl ?_
  refine jd_lload_n i_Nu_sumFits_6 rfl ?_
  refine jd_lload_n i_Nu_sumFits_7 rfl ?_
  refine jd_ladd i_Nu_sumFits_8 ?_
  refine jd_lxor i_Nu_sumFits_9 ?_
  refine jd_land i_Nu_sumFits_10 ?_
  refine jd_lconst 0 i_Nu_sumFits_11 (by decide) ?_
  refine jd_lcmp_lt 20 i_Nu_sumFits_12 i_Nu_sumFits_13 (by decide) ?_ ?_
  · refine jd_iconst 0 i_Nu_sumFits_20 (by decide) ?_
    exact jd_less (t_Nu_sumFits_21) trivial
  · refine jd_iconst 1 i_Nu_sumFits_16 (by decide) ?_
    refine jd_goto 21 i_Nu_sumFits_17 (by decide) ?_
    exact jd_less (t_Nu_sumFits_21) trivial
theorem c_Nu_sumFits {h : ja_H} {a0 : Int64} {a2 : Int64} {o : Int32 × ja_H} (e : r_Nu_sumFits h a0 a2 = some o) : ja_M (0, 0) y_Nu_sumFits b_Nu_sumFits 4 (some .boolean) [.long a0, .long a2] h [.int o.1] o.2 := jc_of (g := ja_gI) false _ e e_Nu_sumFits rfl (by decide +kernel) (fun q => nomatch q) (Nat.le_of_ble_eq_true rfl) (fun _ q => nomatch q) (Nat.le_of_ble_eq_true rfl)
noncomputable def r_Va_becomeAny (h : ja_H) (a0 : Nat) : Option (ja_H) := (jp_I h a0 7 0 (1 : Int32) (fun h101 => (jp_L h101 a0 7 1 (-9223372036854775808 : Int64) (fun h102 => (jp_L h102 a0 7 2 (9223372036854775807 : Int64) (fun h103 => (some h103)))))))
theorem e_Va_becomeAny {h : ja_H} {a0 : Nat} : ja_D ja_gV M_Va_becomeAny 0 [some (.ref a0)] [] h (r_Va_becomeAny h a0) := by
  unfold r_Va_becomeAny
  refine jd_aload_n i_Va_becomeAny_0 rfl ?_
  refine jd_iconst 1 i_Va_becomeAny_1 (by decide) ?_
  refine jd_putI F_Va_9 P_Va_kind i_Va_becomeAny_2 (fun h101 => ?_)
  refine jd_aload_n i_Va_becomeAny_5 rfl ?_
  refine jd_ldc2 i_Va_becomeAny_6 K_Va_22 ?_
  refine jd_putL F_Va_15 P_Va_low i_Va_becomeAny_9 (fun h102 => ?_)
  refine jd_aload_n i_Va_becomeAny_12 rfl ?_
  refine jd_ldc2 i_Va_becomeAny_13 K_Va_24 ?_
  refine jd_putL F_Va_19 P_Va_high i_Va_becomeAny_16 (fun h103 => ?_)
  exact jd_return i_Va_becomeAny_19 rfl
theorem c_Va_becomeAny {h : ja_H} {a0 : Nat} {o : ja_H} (e : r_Va_becomeAny h a0 = some o) : ja_M (0, 0) y_Va_becomeAny b_Va_becomeAny 1 (none) [.ref a0] h [] o := jc_of (g := ja_gV) false _ e e_Va_becomeAny rfl (by decide +kernel) (fun q => nomatch q) (Nat.le_of_ble_eq_true rfl) (fun _ q => nomatch q) (Nat.le_of_ble_eq_true rfl)
noncomputable def r_Nu_add_58 (h : ja_H) : Option (ja_H) := (some h)
theorem t_Nu_add_58 {h : ja_H} : ja_D ja_gV M_Nu_add 58 [none, none] [] h (r_Nu_add_58 h) := by
  unfold r_Nu_add_58
  exact jd_return i_Nu_add_58 rfl
noncomputable def r_Nu_add_54 (h : ja_H) (y0 : Nat) : Option (ja_H) := (jk h y0 7 (jc_V (r_Va_becomeAny h y0) (fun h1 => (r_Nu_add_58 h1))))
theorem t_Nu_add_54 {h : ja_H} {y0 : Nat} : ja_D ja_gV M_Nu_add 54 [some (.ref y0), none] [] h (r_Nu_add_54 h y0) := by
  unfold r_Nu_add_54
  refine jd_aload_n i_Nu_add_54 rfl ?_
  refine jd_callVV G_Nu_98 in_Va_becomeAny se_Va_becomeAny rfl (fun _ e => c_Va_becomeAny e) rfl ⟨by decide, by decide⟩ rfl (Nat.le_of_ble_eq_true rfl) i_Nu_add_55 (fun h1 => ?_)
  exact jd_less (t_Nu_add_58) trivial
noncomputable def r_Nu_add (h : ja_H) (a0 : Nat) (a1 : Nat) : Option (ja_H) := (jf_L h a0 7 1 (fun v101 => (jf_L h a1 7 1 (fun v102 => (jc_I (r_Nu_sumFits h v101 v102) (fun v104 h103 => (if v104 = (0 : Int32) then (r_Nu_add_54 h103 a0) else (jf_L h103 a0 7 2 (fun v105 => (jf_L h103 a1 7 2 (fun v106 => (jc_I (r_Nu_sumFits h103 v105 v106) (fun v108 h107 => (if v108 = (0 : Int32) then (r_Nu_add_54 h107 a0) else (jf_L h107 a0 7 1 (fun v109 => (jf_L h107 a1 7 1 (fun v110 => (jf_L h107 a0 7 2 (fun v111 => (jf_L h107 a1 7 2 (fun v112 => (jk h107 a0 7 (jc_V (r_Va_become h107 a0 (1 : Int32) (v109 + v110) (v111 + v112)) (fun h113 => (r_Nu_add_58 h113))))))))))))))))))))))))))
theorem e_Nu_add {h : ja_H} {a0 : Nat} {a1 : Nat} : ja_D ja_gV M_Nu_add 0 [some (.ref a0), some (.ref a1)] [] h (r_Nu_add h a0 a1) := by
  unfold r_Nu_add
  refine jd_aload_n i_Nu_add_0 rfl ?_
  refine jd_getL F_Nu_30 i_Nu_add_1 (fun v101 => ?_)
  refine jd_aload_n i_Nu_add_4 rfl ?_
  refine jd_getL F_Nu_30 i_Nu_add_5 (fun v102 => ?_)
  refine jd_callSI G_Nu_92 sc_Nu_sumFits (fun _ e => c_Nu_sumFits e) rfl ⟨by decide, by decide⟩ rfl (Nat.le_of_ble_eq_true rfl) i_Nu_add_8 (fun v104 h103 => ?_)
  refine jd_if_eq 54 i_Nu_add_11 (by decide) ?_ ?_
  · exact jd_less (t_Nu_add_54) ⟨rfl, trivial⟩
  · refine jd_aload_n i_Nu_add_14 rfl ?_
    refine jd_getL F_Nu_95 i_Nu_add_15 (fun v105 => ?_)
    refine jd_aload_n i_Nu_add_18 rfl ?_
    refine jd_getL F_Nu_95 i_Nu_add_19 (fun v106 => ?_)
    refine jd_callSI G_Nu_92 sc_Nu_sumFits (fun _ e => c_Nu_sumFits e) rfl ⟨by decide, by decide⟩ rfl (Nat.le_of_ble_eq_true rfl) i_Nu_add_22 (fun v108 h107 => ?_)
    refine jd_if_eq 54 i_Nu_add_25 (by decide) ?_ ?_
    · exact jd_less (t_Nu_add_54) ⟨rfl, trivial⟩
    · refine jd_aload_n i_Nu_add_28 rfl ?_
      refine jd_iconst 1 i_Nu_add_29 (by decide) ?_
      refine jd_aload_n i_Nu_add_30 rfl ?_
      refine jd_getL F_Nu_30 i_Nu_add_31 (fun v109 => ?_)
      refine jd_aload_n i_Nu_add_34 rfl ?_
      refine jd_getL F_Nu_30 i_Nu_add_35 (fun v110 => ?_)
      refine jd_ladd i_Nu_add_38 ?_
      refine jd_aload_n i_Nu_add_39 rfl ?_
      refine jd_getL F_Nu_95 i_Nu_add_40 (fun v111 => ?_)
      refine jd_aload_n i_Nu_add_43 rfl ?_
      refine jd_getL F_Nu_95 i_Nu_add_44 (fun v112 => ?_)
      refine jd_ladd i_Nu_add_47 ?_
      refine jd_callVV G_Nu_40 in_Va_become se_Va_become rfl (fun _ e => c_Va_become e) rfl ⟨by decide, by decide⟩ rfl (Nat.le_of_ble_eq_true rfl) i_Nu_add_48 (fun h113 => ?_)
      refine jd_goto 58 i_Nu_add_51 (by decide) ?_
      exact jd_less (t_Nu_add_58) trivial
theorem c_Nu_add {h : ja_H} {a0 : Nat} {a1 : Nat} {o : ja_H} (e : r_Nu_add h a0 a1 = some o) : ja_M (1, 25) y_Nu_add b_Nu_add 2 (none) [.ref a0, .ref a1] h [] o := jc_of (g := ja_gV) false _ e e_Nu_add rfl (by decide +kernel) (fun q => nomatch q) (Nat.le_of_ble_eq_true rfl) (fun _ q => nomatch q) (Nat.le_of_ble_eq_true rfl)
noncomputable def r_Nu_and_86 (h : ja_H) : Option (ja_H) := (some h)
theorem t_Nu_and_86 {h : ja_H} : ja_D ja_gV M_Nu_and 86 [none, none] [] h (r_Nu_and_86 h) := by
  unfold r_Nu_and_86
  exact jd_return i_Nu_and_86 rfl
noncomputable def r_Nu_and_38 (h : ja_H) (y0 : Nat) (y1 : Nat) : Option (ja_H) := (jf_L h y1 7 1 (fun v1 => (if v1 < (0 : Int64) then (jf_L h y0 7 1 (fun v2 => (if v2 < (0 : Int64) then (jk h y0 7 (jc_V (r_Va_becomeAny h y0) (fun h3 => (r_Nu_and_86 h3)))) else (jf_L h y0 7 2 (fun v4 => (jk h y0 7 (jc_V (r_Va_become h y0 (1 : Int32) (0 : Int64) v4) (fun h5 => (r_Nu_and_86 h5))))))))) else (jf_L h y1 7 2 (fun v6 => (jk h y0 7 (jc_V (r_Va_become h y0 (1 : Int32) (0 : Int64) v6) (fun h7 => (r_Nu_and_86 h7)))))))))
theorem t_Nu_and_38 {h : ja_H} {y0 : Nat} {y1 : Nat} : ja_D ja_gV M_Nu_and 38 [some (.ref y0), some (.ref y1)] [] h (r_Nu_and_38 h y0 y1) := by
  unfold r_Nu_and_38
  refine jd_aload_n i_Nu_and_38 rfl ?_
  refine jd_getL F_Nu_30 i_Nu_and_39 (fun v1 => ?_)
  refine jd_lconst 0 i_Nu_and_42 (by decide) ?_
  refine jd_lcmp_lt 60 i_Nu_and_43 i_Nu_and_44 (by decide) ?_ ?_
  · refine jd_aload_n i_Nu_and_60 rfl ?_
    refine jd_getL F_Nu_30 i_Nu_and_61 (fun v2 => ?_)
    refine jd_lconst 0 i_Nu_and_64 (by decide) ?_
    refine jd_lcmp_lt 82 i_Nu_and_65 i_Nu_and_66 (by decide) ?_ ?_
    · refine jd_aload_n i_Nu_and_82 rfl ?_
      refine jd_callVV G_Nu_98 in_Va_becomeAny se_Va_becomeAny rfl (fun _ e => c_Va_becomeAny e) rfl ⟨by decide, by decide⟩ rfl (Nat.le_of_ble_eq_true rfl) i_Nu_and_83 (fun h3 => ?_)
      exact jd_less (t_Nu_and_86) trivial
    · refine jd_aload_n i_Nu_and_69 rfl ?_
      refine jd_iconst 1 i_Nu_and_70 (by decide) ?_
      refine jd_lconst 0 i_Nu_and_71 (by decide) ?_
      refine jd_aload_n i_Nu_and_72 rfl ?_
      refine jd_getL F_Nu_95 i_Nu_and_73 (fun v4 => ?_)
      refine jd_callVV G_Nu_40 in_Va_become se_Va_become rfl (fun _ e => c_Va_become e) rfl ⟨by decide, by decide⟩ rfl (Nat.le_of_ble_eq_true rfl) i_Nu_and_76 (fun h5 => ?_)
      refine jd_goto 86 i_Nu_and_79 (by decide) ?_
      exact jd_less (t_Nu_and_86) trivial
  · refine jd_aload_n i_Nu_and_47 rfl ?_
    refine jd_iconst 1 i_Nu_and_48 (by decide) ?_
    refine jd_lconst 0 i_Nu_and_49 (by decide) ?_
    refine jd_aload_n i_Nu_and_50 rfl ?_
    refine jd_getL F_Nu_95 i_Nu_and_51 (fun v6 => ?_)
    refine jd_callVV G_Nu_40 in_Va_become se_Va_become rfl (fun _ e => c_Va_become e) rfl ⟨by decide, by decide⟩ rfl (Nat.le_of_ble_eq_true rfl) i_Nu_and_54 (fun h7 => ?_)
    refine jd_goto 86 i_Nu_and_57 (by decide) ?_
    exact jd_less (t_Nu_and_86) trivial
noncomputable def r_Nu_and (h : ja_H) (a0 : Nat) (a1 : Nat) : Option (ja_H) := (jf_L h a0 7 1 (fun v101 => (if v101 < (0 : Int64) then (r_Nu_and_38 h a0 a1) else (jf_L h a1 7 1 (fun v102 => (if v102 < (0 : Int64) then (r_Nu_and_38 h a0 a1) else (jf_L h a0 7 2 (fun v103 => (jf_L h a1 7 2 (fun v104 => (jc_L (r_Mt_min_J h v103 v104) (fun v106 h105 => (jk h105 a0 7 (jc_V (r_Va_become h105 a0 (1 : Int32) (0 : Int64) v106) (fun h107 => (r_Nu_and_86 h107))))))))))))))))
theorem e_Nu_and {h : ja_H} {a0 : Nat} {a1 : Nat} : ja_D ja_gV M_Nu_and 0 [some (.ref a0), some (.ref a1)] [] h (r_Nu_and h a0 a1) := by
  unfold r_Nu_and
  refine jd_aload_n i_Nu_and_0 rfl ?_
  refine jd_getL F_Nu_30 i_Nu_and_1 (fun v101 => ?_)
  refine jd_lconst 0 i_Nu_and_4 (by decide) ?_
  refine jd_lcmp_lt 38 i_Nu_and_5 i_Nu_and_6 (by decide) ?_ ?_
  · exact jd_less (t_Nu_and_38) ⟨rfl, rfl, trivial⟩
  · refine jd_aload_n i_Nu_and_9 rfl ?_
    refine jd_getL F_Nu_30 i_Nu_and_10 (fun v102 => ?_)
    refine jd_lconst 0 i_Nu_and_13 (by decide) ?_
    refine jd_lcmp_lt 38 i_Nu_and_14 i_Nu_and_15 (by decide) ?_ ?_
    · exact jd_less (t_Nu_and_38) ⟨rfl, rfl, trivial⟩
    · refine jd_aload_n i_Nu_and_18 rfl ?_
      refine jd_iconst 1 i_Nu_and_19 (by decide) ?_
      refine jd_lconst 0 i_Nu_and_20 (by decide) ?_
      refine jd_aload_n i_Nu_and_21 rfl ?_
      refine jd_getL F_Nu_95 i_Nu_and_22 (fun v103 => ?_)
      refine jd_aload_n i_Nu_and_25 rfl ?_
      refine jd_getL F_Nu_95 i_Nu_and_26 (fun v104 => ?_)
      refine jd_callSL G_Nu_107 sc_Mt_min_J (fun _ e => c_Mt_min_J e) rfl ⟨by decide, by decide⟩ rfl (Nat.le_of_ble_eq_true rfl) i_Nu_and_29 (fun v106 h105 => ?_)
      refine jd_callVV G_Nu_40 in_Va_become se_Va_become rfl (fun _ e => c_Va_become e) rfl ⟨by decide, by decide⟩ rfl (Nat.le_of_ble_eq_true rfl) i_Nu_and_32 (fun h107 => ?_)
      refine jd_goto 86 i_Nu_and_35 (by decide) ?_
      exact jd_less (t_Nu_and_86) trivial
theorem c_Nu_and {h : ja_H} {a0 : Nat} {a1 : Nat} {o : ja_H} (e : r_Nu_and h a0 a1 = some o) : ja_M (1, 25) y_Nu_and b_Nu_and 2 (none) [.ref a0, .ref a1] h [] o := jc_of (g := ja_gV) false _ e e_Nu_and rfl (by decide +kernel) (fun q => nomatch q) (Nat.le_of_ble_eq_true rfl) (fun _ q => nomatch q) (Nat.le_of_ble_eq_true rfl)
noncomputable def r_Nu_divide_57 (h : ja_H) : Option (ja_H) := (some h)
theorem t_Nu_divide_57 {h : ja_H} : ja_D ja_gV M_Nu_divide 57 [none, none] [] h (r_Nu_divide_57 h) := by
  unfold r_Nu_divide_57
  exact jd_return i_Nu_divide_57 rfl
noncomputable def r_Nu_divide_53 (h : ja_H) (y0 : Nat) : Option (ja_H) := (jk h y0 7 (jc_V (r_Va_becomeAny h y0) (fun h1 => (r_Nu_divide_57 h1))))
theorem t_Nu_divide_53 {h : ja_H} {y0 : Nat} : ja_D ja_gV M_Nu_divide 53 [some (.ref y0), none] [] h (r_Nu_divide_53 h y0) := by
  unfold r_Nu_divide_53
  refine jd_aload_n i_Nu_divide_53 rfl ?_
  refine jd_callVV G_Nu_98 in_Va_becomeAny se_Va_becomeAny rfl (fun _ e => c_Va_becomeAny e) rfl ⟨by decide, by decide⟩ rfl (Nat.le_of_ble_eq_true rfl) i_Nu_divide_54 (fun h1 => ?_)
  exact jd_less (t_Nu_divide_57) trivial
noncomputable def r_Nu_divide (h : ja_H) (a0 : Nat) (a1 : Nat) : Option (ja_H) := (jf_L h a0 7 1 (fun v101 => (if v101 < (0 : Int64) then (r_Nu_divide_53 h a0) else (jf_L h a1 7 1 (fun v102 => (if v102 ≤ (0 : Int64) then (r_Nu_divide_53 h a0) else (jf_L h a1 7 2 (fun v103 => (if v103 ≤ (0 : Int64) then (r_Nu_divide_53 h a0) else (jf_L h a0 7 1 (fun v104 => (jf_L h a1 7 2 (fun v105 => (jz_L v105 (jf_L h a0 7 2 (fun v106 => (jf_L h a1 7 1 (fun v107 => (jz_L v107 (jk h a0 7 (jc_V (r_Va_become h a0 (1 : Int32) (v104 / v105) (v106 / v107)) (fun h108 => (r_Nu_divide_57 h108)))))))))))))))))))))))
theorem e_Nu_divide {h : ja_H} {a0 : Nat} {a1 : Nat} : ja_D ja_gV M_Nu_divide 0 [some (.ref a0), some (.ref a1)] [] h (r_Nu_divide h a0 a1) := by
  unfold r_Nu_divide
  refine jd_aload_n i_Nu_divide_0 rfl ?_
  refine jd_getL F_Nu_30 i_Nu_divide_1 (fun v101 => ?_)
  refine jd_lconst 0 i_Nu_divide_4 (by decide) ?_
  refine jd_lcmp_lt 53 i_Nu_divide_5 i_Nu_divide_6 (by decide) ?_ ?_
  · exact jd_less (t_Nu_divide_53) ⟨rfl, trivial⟩
  · refine jd_aload_n i_Nu_divide_9 rfl ?_
    refine jd_getL F_Nu_30 i_Nu_divide_10 (fun v102 => ?_)
    refine jd_lconst 0 i_Nu_divide_13 (by decide) ?_
    refine jd_lcmp_le 53 i_Nu_divide_14 i_Nu_divide_15 (by decide) ?_ ?_
    · exact jd_less (t_Nu_divide_53) ⟨rfl, trivial⟩
    · refine jd_aload_n i_Nu_divide_18 rfl ?_
      refine jd_getL F_Nu_95 i_Nu_divide_19 (fun v103 => ?_)
      refine jd_lconst 0 i_Nu_divide_22 (by decide) ?_
      refine jd_lcmp_le 53 i_Nu_divide_23 i_Nu_divide_24 (by decide) ?_ ?_
      · exact jd_less (t_Nu_divide_53) ⟨rfl, trivial⟩
      · refine jd_aload_n i_Nu_divide_27 rfl ?_
        refine jd_iconst 1 i_Nu_divide_28 (by decide) ?_
        refine jd_aload_n i_Nu_divide_29 rfl ?_
        refine jd_getL F_Nu_30 i_Nu_divide_30 (fun v104 => ?_)
        refine jd_aload_n i_Nu_divide_33 rfl ?_
        refine jd_getL F_Nu_95 i_Nu_divide_34 (fun v105 => ?_)
        refine jd_ldiv i_Nu_divide_37 ?_
        refine jd_aload_n i_Nu_divide_38 rfl ?_
        refine jd_getL F_Nu_95 i_Nu_divide_39 (fun v106 => ?_)
        refine jd_aload_n i_Nu_divide_42 rfl ?_
        refine jd_getL F_Nu_30 i_Nu_divide_43 (fun v107 => ?_)
        refine jd_ldiv i_Nu_divide_46 ?_
        refine jd_callVV G_Nu_40 in_Va_become se_Va_become rfl (fun _ e => c_Va_become e) rfl ⟨by decide, by decide⟩ rfl (Nat.le_of_ble_eq_true rfl) i_Nu_divide_47 (fun h108 => ?_)
        refine jd_goto 57 i_Nu_divide_50 (by decide) ?_
        exact jd_less (t_Nu_divide_57) trivial
theorem c_Nu_divide {h : ja_H} {a0 : Nat} {a1 : Nat} {o : ja_H} (e : r_Nu_divide h a0 a1 = some o) : ja_M (1, 25) y_Nu_divide b_Nu_divide 2 (none) [.ref a0, .ref a1] h [] o := jc_of (g := ja_gV) false _ e e_Nu_divide rfl (by decide +kernel) (fun q => nomatch q) (Nat.le_of_ble_eq_true rfl) (fun _ q => nomatch q) (Nat.le_of_ble_eq_true rfl)
