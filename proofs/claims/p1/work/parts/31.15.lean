noncomputable def r_Mo_holds_307 (h : ja_H) (z0 : Int32) : Option (Int32 × ja_H) := (jb z0 (some (z0, h)))
theorem t_Mo_holds_307 {h : ja_H} {z0 : Int32} : ja_D ja_gI M_Mo_holds 307 [none, none, none, none, none, none, none, none, none, none, none, none, none, none, none] [.int z0] h (r_Mo_holds_307 h z0) := by
  unfold r_Mo_holds_307
  exact jd_zreturn i_Mo_holds_307 rfl
noncomputable def r_Mo_holds_294 (h : ja_H) (y7 : Int64) (y9 : Int64) : Option (Int32 × ja_H) := (if y9 < y7 then (r_Mo_holds_307 h (0 : Int32)) else (r_Mo_holds_307 h (1 : Int32)))
theorem t_Mo_holds_294 {h : ja_H} {y7 : Int64} {y9 : Int64} : ja_D ja_gI M_Mo_holds 294 [none, none, none, none, none, none, none, some (.long y7), none, some (.long y9), none, none, none, none, none] [] h (r_Mo_holds_294 h y7 y9) := by
  unfold r_Mo_holds_294
  refine jd_lload i_Mo_holds_294 rfl ?_
  refine jd_lload i_Mo_holds_296 rfl ?_
  refine jd_lcmp_gt 306 i_Mo_holds_298 i_Mo_holds_299 (by decide) ?_ ?_
  · refine jd_iconst 0 i_Mo_holds_306 (by decide) ?_
    exact jd_less (t_Mo_holds_307) trivial
  · refine jd_iconst 1 i_Mo_holds_302 (by decide) ?_
    refine jd_goto 307 i_Mo_holds_303 (by decide) ?_
    exact jd_less (t_Mo_holds_307) trivial
noncomputable def r_Mo_holds_293 (h : ja_H) (z0 : Int32) : Option (Int32 × ja_H) := (jb z0 (some (z0, h)))
theorem t_Mo_holds_293 {h : ja_H} {z0 : Int32} : ja_D ja_gI M_Mo_holds 293 [none, none, none, none, none, none, none, none, none, none, none, none, none, none, none] [.int z0] h (r_Mo_holds_293 h z0) := by
  unfold r_Mo_holds_293
  exact jd_zreturn i_Mo_holds_293 rfl
noncomputable def r_Mo_holds_279 (h : ja_H) (z0 : Int32) : Option (Int32 × ja_H) := (jb z0 (some (z0, h)))
theorem t_Mo_holds_279 {h : ja_H} {z0 : Int32} : ja_D ja_gI M_Mo_holds 279 [none, none, none, none, none, none, none, none, none, none, none, none, none, none, none] [.int z0] h (r_Mo_holds_279 h z0) := by
  unfold r_Mo_holds_279
  exact jd_zreturn i_Mo_holds_279 rfl
noncomputable def r_Mo_holds_265 (h : ja_H) (z0 : Int32) : Option (Int32 × ja_H) := (jb z0 (some (z0, h)))
theorem t_Mo_holds_265 {h : ja_H} {z0 : Int32} : ja_D ja_gI M_Mo_holds 265 [none, none, none, none, none, none, none, none, none, none, none, none, none, none, none] [.int z0] h (r_Mo_holds_265 h z0) := by
  unfold r_Mo_holds_265
  exact jd_zreturn i_Mo_holds_265 rfl
noncomputable def r_Mo_holds_251 (h : ja_H) (z0 : Int32) : Option (Int32 × ja_H) := (jb z0 (some (z0, h)))
theorem t_Mo_holds_251 {h : ja_H} {z0 : Int32} : ja_D ja_gI M_Mo_holds 251 [none, none, none, none, none, none, none, none, none, none, none, none, none, none, none] [.int z0] h (r_Mo_holds_251 h z0) := by
  unfold r_Mo_holds_251
  exact jd_zreturn i_Mo_holds_251 rfl
noncomputable def r_Mo_holds_237 (h : ja_H) (z0 : Int32) : Option (Int32 × ja_H) := (jb z0 (some (z0, h)))
theorem t_Mo_holds_237 {h : ja_H} {z0 : Int32} : ja_D ja_gI M_Mo_holds 237 [none, none, none, none, none, none, none, none, none, none, none, none, none, none, none] [.int z0] h (r_Mo_holds_237 h z0) := by
  unfold r_Mo_holds_237
  exact jd_zreturn i_Mo_holds_237 rfl
noncomputable def r_Mo_holds_223 (h : ja_H) (z0 : Int32) : Option (Int32 × ja_H) := (jb z0 (some (z0, h)))
theorem t_Mo_holds_223 {h : ja_H} {z0 : Int32} : ja_D ja_gI M_Mo_holds 223 [none, none, none, none, none, none, none, none, none, none, none, none, none, none, none] [.int z0] h (r_Mo_holds_223 h z0) := by
  unfold r_Mo_holds_223
  exact jd_zreturn i_Mo_holds_223 rfl
noncomputable def r_Mo_holds_209 (h : ja_H) (z0 : Int32) : Option (Int32 × ja_H) := (jb z0 (some (z0, h)))
theorem t_Mo_holds_209 {h : ja_H} {z0 : Int32} : ja_D ja_gI M_Mo_holds 209 [none, none, none, none, none, none, none, none, none, none, none, none, none, none, none] [.int z0] h (r_Mo_holds_209 h z0) := by
  unfold r_Mo_holds_209
  exact jd_zreturn i_Mo_holds_209 rfl
noncomputable def r_Mo_holds_193 (h : ja_H) (z0 : Int32) : Option (Int32 × ja_H) := (jb z0 (some (z0, h)))
theorem t_Mo_holds_193 {h : ja_H} {z0 : Int32} : ja_D ja_gI M_Mo_holds 193 [none, none, none, none, none, none, none, none, none, none, none, none, none, none, none] [.int z0] h (r_Mo_holds_193 h z0) := by
  unfold r_Mo_holds_193
  exact jd_zreturn i_Mo_holds_193 rfl
noncomputable def r_Mo_holds_179 (h : ja_H) (z0 : Int32) : Option (Int32 × ja_H) := (jb z0 (some (z0, h)))
theorem t_Mo_holds_179 {h : ja_H} {z0 : Int32} : ja_D ja_gI M_Mo_holds 179 [none, none, none, none, none, none, none, none, none, none, none, none, none, none, none] [.int z0] h (r_Mo_holds_179 h z0) := by
  unfold r_Mo_holds_179
  exact jd_zreturn i_Mo_holds_179 rfl
noncomputable def r_Mo_holds_165 (h : ja_H) (z0 : Int32) : Option (Int32 × ja_H) := (jb z0 (some (z0, h)))
theorem t_Mo_holds_165 {h : ja_H} {z0 : Int32} : ja_D ja_gI M_Mo_holds 165 [none, none, none, none, none, none, none, none, none, none, none, none, none, none, none] [.int z0] h (r_Mo_holds_165 h z0) := by
  unfold r_Mo_holds_165
  exact jd_zreturn i_Mo_holds_165 rfl
noncomputable def r_Mo_holds_82 (h : ja_H) (y5 : Int32) (y7 : Int64) (y9 : Int64) (y11 : Int64) (z0 : Int64) : Option (Int32 × ja_H) := (jl ((z0 ^^^ (-9223372036854775808 : Int64)) : Int64) (fun (x1 : Int64) => (jsw y5 [1, 2, 3, 4, 5, 6, 7, 8, 9, 10, 11, 12] [(if y7 = y9 then (r_Mo_holds_165 h (1 : Int32)) else (r_Mo_holds_165 h (0 : Int32))), (if y11 ≤ x1 then (r_Mo_holds_179 h (0 : Int32)) else (r_Mo_holds_179 h (1 : Int32))), (if y11 < x1 then (r_Mo_holds_193 h (0 : Int32)) else (r_Mo_holds_193 h (1 : Int32))), (if (y7 &&& y9) = (0 : Int64) then (r_Mo_holds_209 h (0 : Int32)) else (r_Mo_holds_209 h (1 : Int32))), (if y7 = y9 then (r_Mo_holds_223 h (0 : Int32)) else (r_Mo_holds_223 h (1 : Int32))), (if y7 ≤ y9 then (r_Mo_holds_237 h (0 : Int32)) else (r_Mo_holds_237 h (1 : Int32))), (if y7 < y9 then (r_Mo_holds_251 h (0 : Int32)) else (r_Mo_holds_251 h (1 : Int32))), (r_Mo_holds_294 h y7 y9), (r_Mo_holds_294 h y7 y9), (if x1 ≤ y11 then (r_Mo_holds_265 h (0 : Int32)) else (r_Mo_holds_265 h (1 : Int32))), (if x1 < y11 then (r_Mo_holds_279 h (0 : Int32)) else (r_Mo_holds_279 h (1 : Int32))), (if y9 ≤ y7 then (r_Mo_holds_293 h (0 : Int32)) else (r_Mo_holds_293 h (1 : Int32)))] (r_Mo_holds_294 h y7 y9))))
theorem t_Mo_holds_82 {h : ja_H} {y5 : Int32} {y7 : Int64} {y9 : Int64} {y11 : Int64} {z0 : Int64} : ja_D ja_gI M_Mo_holds 82 [none, none, none, none, none, some (.int y5), none, some (.long y7), none, some (.long y9), none, some (.long y11), none, none, none] [.long z0] h (r_Mo_holds_82 h y5 y7 y9 y11 z0) := by
  unfold r_Mo_holds_82
  refine jd_ldc2 i_Mo_holds_82 K_Mo_207 ?_
  refine jd_lxor i_Mo_holds_85 ?_
  refine jd_lstore (fun x1 => [none, none, none, none, none, some (.int y5), none, some (.long y7), none, some (.long y9), none, some (.long y11), none, some (.long x1), none]) i_Mo_holds_86 (by decide) rfl (fun _ => rfl) (fun x1 => ?_)
  refine jd_iload i_Mo_holds_88 rfl ?_
  refine jd_ts 294 [1, 2, 3, 4, 5, 6, 7, 8, 9, 10, 11, 12] [152, 166, 180, 194, 210, 224, 238, 294, 294, 252, 266, 280] i_Mo_holds_90 rfl (by decide) (by decide) (by decide) ?_ ⟨?_, ?_, ?_, ?_, ?_, ?_, ?_, ?_, ?_, ?_, ?_, ?_, trivial⟩
  · exact jd_less (t_Mo_holds_294) ⟨rfl, rfl, trivial⟩
  · refine jd_lload i_Mo_holds_152 rfl ?_
    refine jd_lload i_Mo_holds_154 rfl ?_
    refine jd_lcmp_ne 164 i_Mo_holds_156 i_Mo_holds_157 (by decide) ?_ ?_
    · refine jd_iconst 0 i_Mo_holds_164 (by decide) ?_
      exact jd_less (t_Mo_holds_165) trivial
    · refine jd_iconst 1 i_Mo_holds_160 (by decide) ?_
      refine jd_goto 165 i_Mo_holds_161 (by decide) ?_
      exact jd_less (t_Mo_holds_165) trivial
  · refine jd_lload i_Mo_holds_166 rfl ?_
    refine jd_lload i_Mo_holds_168 rfl ?_
    refine jd_lcmp_le 178 i_Mo_holds_170 i_Mo_holds_171 (by decide) ?_ ?_
    · refine jd_iconst 0 i_Mo_holds_178 (by decide) ?_
      exact jd_less (t_Mo_holds_179) trivial
    · refine jd_iconst 1 i_Mo_holds_174 (by decide) ?_
      refine jd_goto 179 i_Mo_holds_175 (by decide) ?_
      exact jd_less (t_Mo_holds_179) trivial
  · refine jd_lload i_Mo_holds_180 rfl ?_
    refine jd_lload i_Mo_holds_182 rfl ?_
    refine jd_lcmp_lt 192 i_Mo_holds_184 i_Mo_holds_185 (by decide) ?_ ?_
    · refine jd_iconst 0 i_Mo_holds_192 (by decide) ?_
      exact jd_less (t_Mo_holds_193) trivial
    · refine jd_iconst 1 i_Mo_holds_188 (by decide) ?_
      refine jd_goto 193 i_Mo_holds_189 (by decide) ?_
      exact jd_less (t_Mo_holds_193) trivial
  · refine jd_lload i_Mo_holds_194 rfl ?_
    refine jd_lload i_Mo_holds_196 rfl ?_
    refine jd_land i_Mo_holds_198 ?_
    refine jd_lconst 0 i_Mo_holds_199 (by decide) ?_
    refine jd_lcmp_eq 208 i_Mo_holds_200 i_Mo_holds_201 (by decide) ?_ ?_
    · refine jd_iconst 0 i_Mo_holds_208 (by decide) ?_
      exact jd_less (t_Mo_holds_209) trivial
    · refine jd_iconst 1 i_Mo_holds_204 (by decide) ?_
      refine jd_goto 209 i_Mo_holds_205 (by decide) ?_
      exact jd_less (t_Mo_holds_209) trivial
  · refine jd_lload i_Mo_holds_210 rfl ?_
    refine jd_lload i_Mo_holds_212 rfl ?_
    refine jd_lcmp_eq 222 i_Mo_holds_214 i_Mo_holds_215 (by decide) ?_ ?_
    · refine jd_iconst 0 i_Mo_holds_222 (by decide) ?_
      exact jd_less (t_Mo_holds_223) trivial
    · refine jd_iconst 1 i_Mo_holds_218 (by decide) ?_
      refine jd_goto 223 i_Mo_holds_219 (by decide) ?_
      exact jd_less (t_Mo_holds_223) trivial
  · refine jd_lload i_Mo_holds_224 rfl ?_
    refine jd_lload i_Mo_holds_226 rfl ?_
    refine jd_lcmp_le 236 i_Mo_holds_228 i_Mo_holds_229 (by decide) ?_ ?_
    · refine jd_iconst 0 i_Mo_holds_236 (by decide) ?_
      exact jd_less (t_Mo_holds_237) trivial
    · refine jd_iconst 1 i_Mo_holds_232 (by decide) ?_
      refine jd_goto 237 i_Mo_holds_233 (by decide) ?_
      exact jd_less (t_Mo_holds_237) trivial
  · refine jd_lload i_Mo_holds_238 rfl ?_
    refine jd_lload i_Mo_holds_240 rfl ?_
    refine jd_lcmp_lt 250 i_Mo_holds_242 i_Mo_holds_243 (by decide) ?_ ?_
    · refine jd_iconst 0 i_Mo_holds_250 (by decide) ?_
      exact jd_less (t_Mo_holds_251) trivial
    · refine jd_iconst 1 i_Mo_holds_246 (by decide) ?_
      refine jd_goto 251 i_Mo_holds_247 (by decide) ?_
      exact jd_less (t_Mo_holds_251) trivial
  · exact jd_less (t_Mo_holds_294) ⟨rfl, rfl, trivial⟩
  · exact jd_less (t_Mo_holds_294) ⟨rfl, rfl, trivial⟩
  · refine jd_lload i_Mo_holds_252 rfl ?_
    refine jd_lload i_Mo_holds_254 rfl ?_
    refine jd_lcmp_ge 264 i_Mo_holds_256 i_Mo_holds_257 (by decide) ?_ ?_
    · refine jd_iconst 0 i_Mo_holds_264 (by decide) ?_
      exact jd_less (t_Mo_holds_265) trivial
    · refine jd_iconst 1 i_Mo_holds_260 (by decide) ?_
      refine jd_goto 265 i_Mo_holds_261 (by decide) ?_
      exact jd_less (t_Mo_holds_265) trivial
  · refine jd_lload i_Mo_holds_266 rfl ?_
    refine jd_lload i_Mo_holds_268 rfl ?_
    refine jd_lcmp_gt 278 i_Mo_holds_270 i_Mo_holds_271 (by decide) ?_ ?_
    · refine jd_iconst 0 i_Mo_holds_278 (by decide) ?_
      exact jd_less (t_Mo_holds_279) trivial
    · refine jd_iconst 1 i_Mo_holds_274 (by decide) ?_
      refine jd_goto 279 i_Mo_holds_275 (by decide) ?_
      exact jd_less (t_Mo_holds_279) trivial
  · refine jd_lload i_Mo_holds_280 rfl ?_
    refine jd_lload i_Mo_holds_282 rfl ?_
    refine jd_lcmp_ge 292 i_Mo_holds_284 i_Mo_holds_285 (by decide) ?_ ?_
    · refine jd_iconst 0 i_Mo_holds_292 (by decide) ?_
      exact jd_less (t_Mo_holds_293) trivial
    · refine jd_iconst 1 i_Mo_holds_288 (by decide) ?_
      refine jd_goto 293 i_Mo_holds_289 (by decide) ?_
      exact jd_less (t_Mo_holds_293) trivial
noncomputable def r_Mo_holds_62 (h : ja_H) (y3 : Int64) (y5 : Int32) (y6 : Int32) (y7 : Int64) (y9 : Int64) (z0 : Int64) : Option (Int32 × ja_H) := (jl ((z0 ^^^ (-9223372036854775808 : Int64)) : Int64) (fun (x1 : Int64) => (if y6 = (0 : Int32) then (r_Mo_holds_82 h y5 y7 y9 x1 (y3 &&& (4294967295 : Int64))) else (r_Mo_holds_82 h y5 y7 y9 x1 y3))))
theorem t_Mo_holds_62 {h : ja_H} {y3 : Int64} {y5 : Int32} {y6 : Int32} {y7 : Int64} {y9 : Int64} {z0 : Int64} : ja_D ja_gI M_Mo_holds 62 [none, none, none, some (.long y3), none, some (.int y5), some (.int y6), some (.long y7), none, some (.long y9), none, none, none, none, none] [.long z0] h (r_Mo_holds_62 h y3 y5 y6 y7 y9 z0) := by
  unfold r_Mo_holds_62
  refine jd_ldc2 i_Mo_holds_62 K_Mo_207 ?_
  refine jd_lxor i_Mo_holds_65 ?_
  refine jd_lstore (fun x1 => [none, none, none, some (.long y3), none, some (.int y5), some (.int y6), some (.long y7), none, some (.long y9), none, some (.long x1), none, none, none]) i_Mo_holds_66 (by decide) rfl (fun _ => rfl) (fun x1 => ?_)
  refine jd_iload i_Mo_holds_68 rfl ?_
  refine jd_if_eq 77 i_Mo_holds_70 (by decide) ?_ ?_
  · refine jd_lload_n i_Mo_holds_77 rfl ?_
    refine jd_ldc2 i_Mo_holds_78 K_Mo_122 ?_
    refine jd_land i_Mo_holds_81 ?_
    exact jd_less (t_Mo_holds_82) ⟨rfl, rfl, rfl, rfl, trivial⟩
  · refine jd_lload_n i_Mo_holds_73 rfl ?_
    refine jd_goto 82 i_Mo_holds_74 (by decide) ?_
    exact jd_less (t_Mo_holds_82) ⟨rfl, rfl, rfl, rfl, trivial⟩
noncomputable def r_Mo_holds_46 (h : ja_H) (y1 : Int64) (y3 : Int64) (y5 : Int32) (y6 : Int32) (y7 : Int64) (z0 : Int64) : Option (Int32 × ja_H) := (jl (z0 : Int64) (fun (x1 : Int64) => (if y6 = (0 : Int32) then (r_Mo_holds_62 h y3 y5 y6 y7 x1 (y1 &&& (4294967295 : Int64))) else (r_Mo_holds_62 h y3 y5 y6 y7 x1 y1))))
theorem t_Mo_holds_46 {h : ja_H} {y1 : Int64} {y3 : Int64} {y5 : Int32} {y6 : Int32} {y7 : Int64} {z0 : Int64} : ja_D ja_gI M_Mo_holds 46 [none, some (.long y1), none, some (.long y3), none, some (.int y5), some (.int y6), some (.long y7), none, none, none, none, none, none, none] [.long z0] h (r_Mo_holds_46 h y1 y3 y5 y6 y7 z0) := by
  unfold r_Mo_holds_46
  refine jd_lstore (fun x1 => [none, some (.long y1), none, some (.long y3), none, some (.int y5), some (.int y6), some (.long y7), none, some (.long x1), none, none, none, none, none]) i_Mo_holds_46 (by decide) rfl (fun _ => rfl) (fun x1 => ?_)
  refine jd_iload i_Mo_holds_48 rfl ?_
  refine jd_if_eq 57 i_Mo_holds_50 (by decide) ?_ ?_
  · refine jd_lload_n i_Mo_holds_57 rfl ?_
    refine jd_ldc2 i_Mo_holds_58 K_Mo_122 ?_
    refine jd_land i_Mo_holds_61 ?_
    exact jd_less (t_Mo_holds_62) ⟨rfl, rfl, rfl, rfl, rfl, trivial⟩
  · refine jd_lload_n i_Mo_holds_53 rfl ?_
    refine jd_goto 62 i_Mo_holds_54 (by decide) ?_
    exact jd_less (t_Mo_holds_62) ⟨rfl, rfl, rfl, rfl, rfl, trivial⟩
noncomputable def r_Mo_holds_32 (h : ja_H) (y1 : Int64) (y3 : Int64) (y5 : Int32) (y6 : Int32) (z0 : Int64) : Option (Int32 × ja_H) := (jl (z0 : Int64) (fun (x1 : Int64) => (if y6 = (0 : Int32) then (r_Mo_holds_46 h y1 y3 y5 y6 x1 (Int32.toInt64 (Int64.toInt32 y3))) else (r_Mo_holds_46 h y1 y3 y5 y6 x1 y3))))
theorem t_Mo_holds_32 {h : ja_H} {y1 : Int64} {y3 : Int64} {y5 : Int32} {y6 : Int32} {z0 : Int64} : ja_D ja_gI M_Mo_holds 32 [none, some (.long y1), none, some (.long y3), none, some (.int y5), some (.int y6), none, none, none, none, none, none, none, none] [.long z0] h (r_Mo_holds_32 h y1 y3 y5 y6 z0) := by
  unfold r_Mo_holds_32
  refine jd_lstore (fun x1 => [none, some (.long y1), none, some (.long y3), none, some (.int y5), some (.int y6), some (.long x1), none, none, none, none, none, none, none]) i_Mo_holds_32 (by decide) rfl (fun _ => rfl) (fun x1 => ?_)
  refine jd_iload i_Mo_holds_34 rfl ?_
  refine jd_if_eq 43 i_Mo_holds_36 (by decide) ?_ ?_
  · refine jd_lload_n i_Mo_holds_43 rfl ?_
    refine jd_l2i i_Mo_holds_44 ?_
    refine jd_i2l i_Mo_holds_45 ?_
    exact jd_less (t_Mo_holds_46) ⟨rfl, rfl, rfl, rfl, rfl, trivial⟩
  · refine jd_lload_n i_Mo_holds_39 rfl ?_
    refine jd_goto 46 i_Mo_holds_40 (by decide) ?_
    exact jd_less (t_Mo_holds_46) ⟨rfl, rfl, rfl, rfl, rfl, trivial⟩
noncomputable def r_Mo_holds_18 (h : ja_H) (y1 : Int64) (y3 : Int64) (y5 : Int32) (z0 : Int32) : Option (Int32 × ja_H) := (jl (z0 : Int32) (fun (x1 : Int32) => (if x1 = (0 : Int32) then (r_Mo_holds_32 h y1 y3 y5 x1 (Int32.toInt64 (Int64.toInt32 y1))) else (r_Mo_holds_32 h y1 y3 y5 x1 y1))))
theorem t_Mo_holds_18 {h : ja_H} {y1 : Int64} {y3 : Int64} {y5 : Int32} {z0 : Int32} : ja_D ja_gI M_Mo_holds 18 [none, some (.long y1), none, some (.long y3), none, some (.int y5), none, none, none, none, none, none, none, none, none] [.int z0] h (r_Mo_holds_18 h y1 y3 y5 z0) := by
  unfold r_Mo_holds_18
  refine jd_istore (fun x1 => [none, some (.long y1), none, some (.long y3), none, some (.int y5), some (.int x1), none, none, none, none, none, none, none, none]) i_Mo_holds_18 (by decide) rfl (fun _ => rfl) (fun x1 => ?_)
  refine jd_iload i_Mo_holds_20 rfl ?_
  refine jd_if_eq 29 i_Mo_holds_22 (by decide) ?_ ?_
  · refine jd_lload_n i_Mo_holds_29 rfl ?_
    refine jd_l2i i_Mo_holds_30 ?_
    refine jd_i2l i_Mo_holds_31 ?_
    exact jd_less (t_Mo_holds_32) ⟨rfl, rfl, rfl, rfl, trivial⟩
  · refine jd_lload_n i_Mo_holds_25 rfl ?_
    refine jd_goto 32 i_Mo_holds_26 (by decide) ?_
    exact jd_less (t_Mo_holds_32) ⟨rfl, rfl, rfl, rfl, trivial⟩
noncomputable def r_Mo_holds (h : ja_H) (a0 : Int32) (a1 : Int64) (a3 : Int64) : Option (Int32 × ja_H) := (jl ((a0 >>> ((4 : Int32) &&& 31)) : Int32) (fun (x101 : Int32) => (if (a0 &&& (7 : Int32)) = (5 : Int32) then (r_Mo_holds_18 h a1 a3 x101 (1 : Int32)) else (r_Mo_holds_18 h a1 a3 x101 (0 : Int32)))))
theorem e_Mo_holds {h : ja_H} {a0 : Int32} {a1 : Int64} {a3 : Int64} : ja_D ja_gI M_Mo_holds 0 [some (.int a0), some (.long a1), none, some (.long a3), none, none, none, none, none, none, none, none, none, none, none] [] h (r_Mo_holds h a0 a1 a3) := by
  unfold r_Mo_holds
  refine jd_iload_n i_Mo_holds_0 rfl ?_
  refine jd_iconst 4 i_Mo_holds_1 (by decide) ?_
  refine jd_ishr i_Mo_holds_2 ?_
  refine jd_istore (fun x101 => [some (.int a0), some (.long a1), none, some (.long a3), none, some (.int x101), none, none, none, none, none, none, none, none, none]) i_Mo_holds_3 (by decide) rfl (fun _ => rfl) (fun x101 => ?_)
  refine jd_iload_n i_Mo_holds_5 rfl ?_
  refine jd_bipush 7 i_Mo_holds_6 (by decide) ?_
  refine jd_iand i_Mo_holds_8 ?_
  refine jd_iconst 5 i_Mo_holds_9 (by decide) ?_
  refine jd_icmp_ne 17 i_Mo_holds_10 (by decide) ?_ ?_
  · refine jd_iconst 0 i_Mo_holds_17 (by decide) ?_
    exact jd_less (t_Mo_holds_18) ⟨rfl, rfl, rfl, trivial⟩
  · refine jd_iconst 1 i_Mo_holds_13 (by decide) ?_
    refine jd_goto 18 i_Mo_holds_14 (by decide) ?_
    exact jd_less (t_Mo_holds_18) ⟨rfl, rfl, rfl, trivial⟩
theorem c_Mo_holds {h : ja_H} {a0 : Int32} {a1 : Int64} {a3 : Int64} {o : Int32 × ja_H} (e : r_Mo_holds h a0 a1 a3 = some o) : ja_M (0, 0) y_Mo_holds b_Mo_holds 15 (some .boolean) [.int a0, .long a1, .long a3] h [.int o.1] o.2 := jc_of (g := ja_gI) false _ e e_Mo_holds rfl (by decide +kernel) (fun q => nomatch q) (Nat.le_of_ble_eq_true rfl) (fun _ q => nomatch q) (Nat.le_of_ble_eq_true rfl)
noncomputable def r_Mo_moved_576 (h : ja_H) : Option (Int32 × ja_H) := (jb (1 : Int32) (some ((1 : Int32), h)))
theorem t_Mo_moved_576 {h : ja_H} : ja_D ja_gI M_Mo_moved 576 [none, none, none, none, none, none, none, none, none, none, none, none, none, none, none, none] [] h (r_Mo_moved_576 h) := by
  unfold r_Mo_moved_576
  refine jd_iconst 1 i_Mo_moved_576 (by decide) ?_
  exact jd_zreturn i_Mo_moved_577 rfl
noncomputable def q_Mo_moved_475 (C475 : ja_H → Nat → Int32 → Int32 → Int32 → Int32 → Int32 → Int64 → Int32 → Option (Int32 × ja_H)) (h : ja_H) (y0 : Nat) (y2 : Int32) (y4 : Int32) (y5 : Int32) (y10 : Int32) (y11 : Int32) (y12 : Int64) (y14 : Int32) : Option (Int32 × ja_H) := (if y5 ≤ y14 then (jc_I (r_Mo_stores h y2) (fun v2 h1 => (if v2 = (0 : Int32) then (r_Mo_moved_576 h1) else (jf_R h1 y0 9 17 (fun a3 => (je_I h1 a3 0 y4 (fun v4 => (if v4 < (2 : Int32) then (r_Mo_moved_576 h1) else (if y11 = (0 : Int32) then (jb (0 : Int32) (some ((0 : Int32), h1))) else (jf_R h1 y0 9 18 (fun a5 => (jz_I (8 : Int32) (jf_R h1 y0 9 17 (fun a6 => (je_I h1 a6 0 y4 (fun v7 => (js_I h1 a5 (y10 / (8 : Int32)) v7 (fun h8 => (jf_R h8 y0 9 20 (fun a9 => (jz_I (8 : Int32) (js_L h8 a9 (y10 / (8 : Int32)) y12 (fun h10 => (r_Mo_moved_576 h10)))))))))))))))))))))))) else (jf_R h y0 9 21 (fun a11 => (js_I h a11 (y10 + y14) ((Int64.toInt32 (UInt64.toInt64 (Int64.toUInt64 y12 >>> (Int64.toUInt64 (Int32.toInt64 ((8 : Int32) * y14)) &&& Int64.toUInt64 63)))) &&& (255 : Int32)) (fun h12 => (jf_R h12 y0 9 22 (fun a13 => (js_Z h12 a13 (y10 + y14) (1 : Int32) (fun h14 => (jl (y14 + 1 : Int32) (fun (x15 : Int32) => (C475 h14 y0 y2 y4 y5 y10 y11 y12 x15))))))))))))
theorem t_Mo_moved_475 {C475 : ja_H → Nat → Int32 → Int32 → Int32 → Int32 → Int32 → Int64 → Int32 → Option (Int32 × ja_H)} (k475 : ∀ (h : ja_H) (y0 : Nat) (y2 : Int32) (y4 : Int32) (y5 : Int32) (y10 : Int32) (y11 : Int32) (y12 : Int64) (y14 : Int32), ja_D ja_gI M_Mo_moved 475 [some (.ref y0), none, some (.int y2), none, some (.int y4), some (.int y5), none, none, none, none, some (.int y10), some (.int y11), some (.long y12), none, some (.int y14), none] [] h (C475 h y0 y2 y4 y5 y10 y11 y12 y14)) {h : ja_H} {y0 : Nat} {y2 : Int32} {y4 : Int32} {y5 : Int32} {y10 : Int32} {y11 : Int32} {y12 : Int64} {y14 : Int32} : ja_D ja_gI M_Mo_moved 475 [some (.ref y0), none, some (.int y2), none, some (.int y4), some (.int y5), none, none, none, none, some (.int y10), some (.int y11), some (.long y12), none, some (.int y14), none] [] h (q_Mo_moved_475 C475 h y0 y2 y4 y5 y10 y11 y12 y14) := by
  unfold q_Mo_moved_475
  refine jd_iload i_Mo_moved_475 rfl ?_
  refine jd_iload i_Mo_moved_477 rfl ?_
  refine jd_icmp_ge 522 i_Mo_moved_479 (by decide) ?_ ?_
  · refine jd_iload_n i_Mo_moved_522 rfl ?_
    refine jd_callSI G_Mo_86 sc_Mo_stores (fun _ e => c_Mo_stores e) rfl ⟨by decide, by decide⟩ rfl (Nat.le_of_ble_eq_true rfl) i_Mo_moved_523 (fun v2 h1 => ?_)
    refine jd_if_eq 576 i_Mo_moved_526 (by decide) ?_ ?_
    · exact jd_less (t_Mo_moved_576) trivial
    · refine jd_aload_n i_Mo_moved_529 rfl ?_
      refine jd_getR F_Mo_43 i_Mo_moved_530 (fun a3 => ?_)
      refine jd_iload i_Mo_moved_533 rfl ?_
      refine jd_iald i_Mo_moved_535 (fun v4 => ?_)
      refine jd_iconst 2 i_Mo_moved_536 (by decide) ?_
      refine jd_icmp_lt 576 i_Mo_moved_537 (by decide) ?_ ?_
      · exact jd_less (t_Mo_moved_576) trivial
      · refine jd_iload i_Mo_moved_540 rfl ?_
        refine jd_if_ne 547 i_Mo_moved_542 (by decide) ?_ ?_
        · refine jd_aload_n i_Mo_moved_547 rfl ?_
          refine jd_getR F_Mo_46 i_Mo_moved_548 (fun a5 => ?_)
          refine jd_iload i_Mo_moved_551 rfl ?_
          refine jd_bipush 8 i_Mo_moved_553 (by decide) ?_
          refine jd_idiv i_Mo_moved_555 ?_
          refine jd_aload_n i_Mo_moved_556 rfl ?_
          refine jd_getR F_Mo_43 i_Mo_moved_557 (fun a6 => ?_)
          refine jd_iload i_Mo_moved_560 rfl ?_
          refine jd_iald i_Mo_moved_562 (fun v7 => ?_)
          refine jd_iast i_Mo_moved_563 (fun h8 => ?_)
          refine jd_aload_n i_Mo_moved_564 rfl ?_
          refine jd_getR F_Mo_52 i_Mo_moved_565 (fun a9 => ?_)
          refine jd_iload i_Mo_moved_568 rfl ?_
          refine jd_bipush 8 i_Mo_moved_570 (by decide) ?_
          refine jd_idiv i_Mo_moved_572 ?_
          refine jd_lload i_Mo_moved_573 rfl ?_
          refine jd_last i_Mo_moved_575 (fun h10 => ?_)
          exact jd_less (t_Mo_moved_576) trivial
        · refine jd_iconst 0 i_Mo_moved_545 (by decide) ?_
          exact jd_zreturn i_Mo_moved_546 rfl
  · refine jd_aload_n i_Mo_moved_482 rfl ?_
    refine jd_getR F_Mo_55 i_Mo_moved_483 (fun a11 => ?_)
    refine jd_iload i_Mo_moved_486 rfl ?_
    refine jd_iload i_Mo_moved_488 rfl ?_
    refine jd_iadd i_Mo_moved_490 ?_
    refine jd_lload i_Mo_moved_491 rfl ?_
    refine jd_bipush 8 i_Mo_moved_493 (by decide) ?_
    refine jd_iload i_Mo_moved_495 rfl ?_
    refine jd_imul i_Mo_moved_497 ?_
    refine jd_lushr i_Mo_moved_498 ?_
    refine jd_l2i i_Mo_moved_499 ?_
    refine jd_sipush 255 i_Mo_moved_500 (by decide) ?_
    refine jd_iand i_Mo_moved_503 ?_
    refine jd_iast i_Mo_moved_504 (fun h12 => ?_)
    refine jd_aload_n i_Mo_moved_505 rfl ?_
    refine jd_getR F_Mo_58 i_Mo_moved_506 (fun a13 => ?_)
    refine jd_iload i_Mo_moved_509 rfl ?_
    refine jd_iload i_Mo_moved_511 rfl ?_
    refine jd_iadd i_Mo_moved_513 ?_
    refine jd_iconst 1 i_Mo_moved_514 (by decide) ?_
    refine jd_zast i_Mo_moved_515 (fun h14 => ?_)
    refine jd_iinc (fun x15 => [some (.ref y0), none, some (.int y2), none, some (.int y4), some (.int y5), none, none, none, none, some (.int y10), some (.int y11), some (.long y12), none, some (.int x15), none]) i_Mo_moved_516 rfl rfl (by decide) rfl (fun _ => rfl) (fun x15 => ?_)
    refine jd_goto 475 i_Mo_moved_519 (by decide) ?_
    exact jd_less (k475 _ _ _ _ _ _ _ _ _) ⟨rfl, rfl, rfl, rfl, rfl, rfl, rfl, rfl, trivial⟩
noncomputable def r_Mo_moved_475 : Nat → ja_H → Nat → Int32 → Int32 → Int32 → Int32 → Int32 → Int64 → Int32 → Option (Int32 × ja_H) := ja_lo (q_Mo_moved_475) (fun _ _ _ _ _ _ _ _ _ => none)
theorem s_Mo_moved_475 : ∀ (n : Nat) (h : ja_H) (y0 : Nat) (y2 : Int32) (y4 : Int32) (y5 : Int32) (y10 : Int32) (y11 : Int32) (y12 : Int64) (y14 : Int32), ja_D ja_gI M_Mo_moved 475 [some (.ref y0), none, some (.int y2), none, some (.int y4), some (.int y5), none, none, none, none, some (.int y10), some (.int y11), some (.long y12), none, some (.int y14), none] [] h (r_Mo_moved_475 n h y0 y2 y4 y5 y10 y11 y12 y14) := by
  intro n
  induction n with
  | zero => intro h y0 y2 y4 y5 y10 y11 y12 y14 o e; cases e
  | succ n ih => intro h y0 y2 y4 y5 y10 y11 y12 y14; exact t_Mo_moved_475 ih
noncomputable def r_Mo_moved_452 (C392 : ja_H → Nat → Int32 → Int32 → Int32 → Int32 → Int32 → Int64 → Int32 → Option (Int32 × ja_H)) (h : ja_H) (y0 : Nat) (y2 : Int32) (y4 : Int32) (y5 : Int32) (y10 : Int32) (y11 : Int32) (y12 : Int64) (y14 : Int32) : Option (Int32 × ja_H) := (jf_R h y0 9 18 (fun a1 => (jz_I (8 : Int32) (js_I h a1 ((y10 + y14) / (8 : Int32)) (0 : Int32) (fun h2 => (jl (y14 + 1 : Int32) (fun (x3 : Int32) => (C392 h2 y0 y2 y4 y5 y10 y11 y12 x3))))))))
theorem t_Mo_moved_452 {C392 : ja_H → Nat → Int32 → Int32 → Int32 → Int32 → Int32 → Int64 → Int32 → Option (Int32 × ja_H)} (k392 : ∀ (h : ja_H) (y0 : Nat) (y2 : Int32) (y4 : Int32) (y5 : Int32) (y10 : Int32) (y11 : Int32) (y12 : Int64) (y14 : Int32), ja_D ja_gI M_Mo_moved 392 [some (.ref y0), none, some (.int y2), none, some (.int y4), some (.int y5), none, none, none, none, some (.int y10), some (.int y11), some (.long y12), none, some (.int y14), none] [] h (C392 h y0 y2 y4 y5 y10 y11 y12 y14)) {h : ja_H} {y0 : Nat} {y2 : Int32} {y4 : Int32} {y5 : Int32} {y10 : Int32} {y11 : Int32} {y12 : Int64} {y14 : Int32} : ja_D ja_gI M_Mo_moved 452 [some (.ref y0), none, some (.int y2), none, some (.int y4), some (.int y5), none, none, none, none, some (.int y10), some (.int y11), some (.long y12), none, some (.int y14), none] [] h (r_Mo_moved_452 C392 h y0 y2 y4 y5 y10 y11 y12 y14) := by
  unfold r_Mo_moved_452
  refine jd_aload_n i_Mo_moved_452 rfl ?_
  refine jd_getR F_Mo_46 i_Mo_moved_453 (fun a1 => ?_)
  refine jd_iload i_Mo_moved_456 rfl ?_
  refine jd_iload i_Mo_moved_458 rfl ?_
  refine jd_iadd i_Mo_moved_460 ?_
  refine jd_bipush 8 i_Mo_moved_461 (by decide) ?_
  refine jd_idiv i_Mo_moved_463 ?_
  refine jd_iconst 0 i_Mo_moved_464 (by decide) ?_
  refine jd_iast i_Mo_moved_465 (fun h2 => ?_)
  refine jd_iinc (fun x3 => [some (.ref y0), none, some (.int y2), none, some (.int y4), some (.int y5), none, none, none, none, some (.int y10), some (.int y11), some (.long y12), none, some (.int x3), none]) i_Mo_moved_466 rfl rfl (by decide) rfl (fun _ => rfl) (fun x3 => ?_)
  refine jd_goto 392 i_Mo_moved_469 (by decide) ?_
  exact jd_less (k392 _ _ _ _ _ _ _ _ _) ⟨rfl, rfl, rfl, rfl, rfl, rfl, rfl, rfl, trivial⟩
noncomputable def q_Mo_moved_419 (C392 : ja_H → Nat → Int32 → Int32 → Int32 → Int32 → Int32 → Int64 → Int32 → Option (Int32 × ja_H)) (C419 : ja_H → Nat → Int32 → Int32 → Int32 → Int32 → Int32 → Int64 → Int32 → Int32 → Option (Int32 × ja_H)) (h : ja_H) (y0 : Nat) (y2 : Int32) (y4 : Int32) (y5 : Int32) (y10 : Int32) (y11 : Int32) (y12 : Int64) (y14 : Int32) (y15 : Int32) : Option (Int32 × ja_H) := (if (8 : Int32) ≤ y15 then (r_Mo_moved_452 C392 h y0 y2 y4 y5 y10 y11 y12 y14) else (jf_R h y0 9 22 (fun a1 => (jz_I (8 : Int32) (js_Z h a1 ((((y10 + y14) / (8 : Int32)) * (8 : Int32)) + y15) (0 : Int32) (fun h2 => (jl (y15 + 1 : Int32) (fun (x3 : Int32) => (C419 h2 y0 y2 y4 y5 y10 y11 y12 y14 x3)))))))))
theorem t_Mo_moved_419 {C392 : ja_H → Nat → Int32 → Int32 → Int32 → Int32 → Int32 → Int64 → Int32 → Option (Int32 × ja_H)} {C419 : ja_H → Nat → Int32 → Int32 → Int32 → Int32 → Int32 → Int64 → Int32 → Int32 → Option (Int32 × ja_H)} (k392 : ∀ (h : ja_H) (y0 : Nat) (y2 : Int32) (y4 : Int32) (y5 : Int32) (y10 : Int32) (y11 : Int32) (y12 : Int64) (y14 : Int32), ja_D ja_gI M_Mo_moved 392 [some (.ref y0), none, some (.int y2), none, some (.int y4), some (.int y5), none, none, none, none, some (.int y10), some (.int y11), some (.long y12), none, some (.int y14), none] [] h (C392 h y0 y2 y4 y5 y10 y11 y12 y14)) (k419 : ∀ (h : ja_H) (y0 : Nat) (y2 : Int32) (y4 : Int32) (y5 : Int32) (y10 : Int32) (y11 : Int32) (y12 : Int64) (y14 : Int32) (y15 : Int32), ja_D ja_gI M_Mo_moved 419 [some (.ref y0), none, some (.int y2), none, some (.int y4), some (.int y5), none, none, none, none, some (.int y10), some (.int y11), some (.long y12), none, some (.int y14), some (.int y15)] [] h (C419 h y0 y2 y4 y5 y10 y11 y12 y14 y15)) {h : ja_H} {y0 : Nat} {y2 : Int32} {y4 : Int32} {y5 : Int32} {y10 : Int32} {y11 : Int32} {y12 : Int64} {y14 : Int32} {y15 : Int32} : ja_D ja_gI M_Mo_moved 419 [some (.ref y0), none, some (.int y2), none, some (.int y4), some (.int y5), none, none, none, none, some (.int y10), some (.int y11), some (.long y12), none, some (.int y14), some (.int y15)] [] h (q_Mo_moved_419 C392 C419 h y0 y2 y4 y5 y10 y11 y12 y14 y15) := by
  unfold q_Mo_moved_419
  refine jd_iload i_Mo_moved_419 rfl ?_
  refine jd_bipush 8 i_Mo_moved_421 (by decide) ?_
  refine jd_icmp_ge 452 i_Mo_moved_423 (by decide) ?_ ?_
  · exact jd_less (t_Mo_moved_452 k392) ⟨rfl, rfl, rfl, rfl, rfl, rfl, rfl, rfl, trivial⟩
  · refine jd_aload_n i_Mo_moved_426 rfl ?_
    refine jd_getR F_Mo_58 i_Mo_moved_427 (fun a1 => ?_)
    refine jd_iload i_Mo_moved_430 rfl ?_
    refine jd_iload i_Mo_moved_432 rfl ?_
    refine jd_iadd i_Mo_moved_434 ?_
    refine jd_bipush 8 i_Mo_moved_435 (by decide) ?_
    refine jd_idiv i_Mo_moved_437 ?_
    refine jd_bipush 8 i_Mo_moved_438 (by decide) ?_
    refine jd_imul i_Mo_moved_440 ?_
    refine jd_iload i_Mo_moved_441 rfl ?_
    refine jd_iadd i_Mo_moved_443 ?_
    refine jd_iconst 0 i_Mo_moved_444 (by decide) ?_
    refine jd_zast i_Mo_moved_445 (fun h2 => ?_)
    refine jd_iinc (fun x3 => [some (.ref y0), none, some (.int y2), none, some (.int y4), some (.int y5), none, none, none, none, some (.int y10), some (.int y11), some (.long y12), none, some (.int y14), some (.int x3)]) i_Mo_moved_446 rfl rfl (by decide) rfl (fun _ => rfl) (fun x3 => ?_)
    refine jd_goto 419 i_Mo_moved_449 (by decide) ?_
    exact jd_less (k419 _ _ _ _ _ _ _ _ _ _) ⟨rfl, rfl, rfl, rfl, rfl, rfl, rfl, rfl, rfl, trivial⟩
noncomputable def r_Mo_moved_419 (C392 : ja_H → Nat → Int32 → Int32 → Int32 → Int32 → Int32 → Int64 → Int32 → Option (Int32 × ja_H)) : Nat → ja_H → Nat → Int32 → Int32 → Int32 → Int32 → Int32 → Int64 → Int32 → Int32 → Option (Int32 × ja_H) := ja_lo (q_Mo_moved_419 C392) (fun _ _ _ _ _ _ _ _ _ _ => none)
theorem s_Mo_moved_419 {C392 : ja_H → Nat → Int32 → Int32 → Int32 → Int32 → Int32 → Int64 → Int32 → Option (Int32 × ja_H)} (k392 : ∀ (h : ja_H) (y0 : Nat) (y2 : Int32) (y4 : Int32) (y5 : Int32) (y10 : Int32) (y11 : Int32) (y12 : Int64) (y14 : Int32), ja_D ja_gI M_Mo_moved 392 [some (.ref y0), none, some (.int y2), none, some (.int y4), some (.int y5), none, none, none, none, some (.int y10), some (.int y11), some (.long y12), none, some (.int y14), none] [] h (C392 h y0 y2 y4 y5 y10 y11 y12 y14)) : ∀ (n : Nat) (h : ja_H) (y0 : Nat) (y2 : Int32) (y4 : Int32) (y5 : Int32) (y10 : Int32) (y11 : Int32) (y12 : Int64) (y14 : Int32) (y15 : Int32), ja_D ja_gI M_Mo_moved 419 [some (.ref y0), none, some (.int y2), none, some (.int y4), some (.int y5), none, none, none, none, some (.int y10), some (.int y11), some (.long y12), none, some (.int y14), some (.int y15)] [] h (r_Mo_moved_419 C392 n h y0 y2 y4 y5 y10 y11 y12 y14 y15) := by
  intro n
  induction n with
  | zero => intro h y0 y2 y4 y5 y10 y11 y12 y14 y15 o e; cases e
  | succ n ih => intro h y0 y2 y4 y5 y10 y11 y12 y14 y15; exact t_Mo_moved_419 k392 ih
noncomputable def q_Mo_moved_392 (C392 : ja_H → Nat → Int32 → Int32 → Int32 → Int32 → Int32 → Int64 → Int32 → Option (Int32 × ja_H)) (h : ja_H) (y0 : Nat) (y2 : Int32) (y4 : Int32) (y5 : Int32) (y10 : Int32) (y11 : Int32) (y12 : Int64) (y14 : Int32) : Option (Int32 × ja_H) := (if y5 ≤ y14 then (jl ((0 : Int32) : Int32) (fun (x1 : Int32) => (r_Mo_moved_475 ja_fu h y0 y2 y4 y5 y10 y11 y12 x1))) else (jf_R h y0 9 18 (fun a2 => (jz_I (8 : Int32) (je_I h a2 0 ((y10 + y14) / (8 : Int32)) (fun v3 => (if v3 < (2 : Int32) then (r_Mo_moved_452 C392 h y0 y2 y4 y5 y10 y11 y12 y14) else (jl ((0 : Int32) : Int32) (fun (x4 : Int32) => (r_Mo_moved_419 C392 ja_fu h y0 y2 y4 y5 y10 y11 y12 y14 x4))))))))))
theorem t_Mo_moved_392 {C392 : ja_H → Nat → Int32 → Int32 → Int32 → Int32 → Int32 → Int64 → Int32 → Option (Int32 × ja_H)} (k392 : ∀ (h : ja_H) (y0 : Nat) (y2 : Int32) (y4 : Int32) (y5 : Int32) (y10 : Int32) (y11 : Int32) (y12 : Int64) (y14 : Int32), ja_D ja_gI M_Mo_moved 392 [some (.ref y0), none, some (.int y2), none, some (.int y4), some (.int y5), none, none, none, none, some (.int y10), some (.int y11), some (.long y12), none, some (.int y14), none] [] h (C392 h y0 y2 y4 y5 y10 y11 y12 y14)) {h : ja_H} {y0 : Nat} {y2 : Int32} {y4 : Int32} {y5 : Int32} {y10 : Int32} {y11 : Int32} {y12 : Int64} {y14 : Int32} : ja_D ja_gI M_Mo_moved 392 [some (.ref y0), none, some (.int y2), none, some (.int y4), some (.int y5), none, none, none, none, some (.int y10), some (.int y11), some (.long y12), none, some (.int y14), none] [] h (q_Mo_moved_392 C392 h y0 y2 y4 y5 y10 y11 y12 y14) := by
  unfold q_Mo_moved_392
  refine jd_iload i_Mo_moved_392 rfl ?_
  refine jd_iload i_Mo_moved_394 rfl ?_
  refine jd_icmp_ge 472 i_Mo_moved_396 (by decide) ?_ ?_
  · refine jd_iconst 0 i_Mo_moved_472 (by decide) ?_
    refine jd_istore (fun x1 => [some (.ref y0), none, some (.int y2), none, some (.int y4), some (.int y5), none, none, none, none, some (.int y10), some (.int y11), some (.long y12), none, some (.int x1), none]) i_Mo_moved_473 (by decide) rfl (fun _ => rfl) (fun x1 => ?_)
    exact jd_less (s_Mo_moved_475 ja_fu _ _ _ _ _ _ _ _ _) ⟨rfl, rfl, rfl, rfl, rfl, rfl, rfl, rfl, trivial⟩
  · refine jd_aload_n i_Mo_moved_399 rfl ?_
    refine jd_getR F_Mo_46 i_Mo_moved_400 (fun a2 => ?_)
    refine jd_iload i_Mo_moved_403 rfl ?_
    refine jd_iload i_Mo_moved_405 rfl ?_
    refine jd_iadd i_Mo_moved_407 ?_
    refine jd_bipush 8 i_Mo_moved_408 (by decide) ?_
    refine jd_idiv i_Mo_moved_410 ?_
    refine jd_iald i_Mo_moved_411 (fun v3 => ?_)
    refine jd_iconst 2 i_Mo_moved_412 (by decide) ?_
    refine jd_icmp_lt 452 i_Mo_moved_413 (by decide) ?_ ?_
    · exact jd_less (t_Mo_moved_452 k392) ⟨rfl, rfl, rfl, rfl, rfl, rfl, rfl, rfl, trivial⟩
    · refine jd_iconst 0 i_Mo_moved_416 (by decide) ?_
      refine jd_istore (fun x4 => [some (.ref y0), none, some (.int y2), none, some (.int y4), some (.int y5), none, none, none, none, some (.int y10), some (.int y11), some (.long y12), none, some (.int y14), some (.int x4)]) i_Mo_moved_417 (by decide) rfl (fun _ => rfl) (fun x4 => ?_)
      exact jd_less (s_Mo_moved_419 k392 ja_fu _ _ _ _ _ _ _ _ _ _) ⟨rfl, rfl, rfl, rfl, rfl, rfl, rfl, rfl, rfl, trivial⟩
noncomputable def r_Mo_moved_392 : Nat → ja_H → Nat → Int32 → Int32 → Int32 → Int32 → Int32 → Int64 → Int32 → Option (Int32 × ja_H) := ja_lo (q_Mo_moved_392) (fun _ _ _ _ _ _ _ _ _ => none)
theorem s_Mo_moved_392 : ∀ (n : Nat) (h : ja_H) (y0 : Nat) (y2 : Int32) (y4 : Int32) (y5 : Int32) (y10 : Int32) (y11 : Int32) (y12 : Int64) (y14 : Int32), ja_D ja_gI M_Mo_moved 392 [some (.ref y0), none, some (.int y2), none, some (.int y4), some (.int y5), none, none, none, none, some (.int y10), some (.int y11), some (.long y12), none, some (.int y14), none] [] h (r_Mo_moved_392 n h y0 y2 y4 y5 y10 y11 y12 y14) := by
  intro n
  induction n with
  | zero => intro h y0 y2 y4 y5 y10 y11 y12 y14 o e; cases e
  | succ n ih => intro h y0 y2 y4 y5 y10 y11 y12 y14; exact t_Mo_moved_392 ih
noncomputable def r_Mo_moved_387 (h : ja_H) (y0 : Nat) (y2 : Int32) (y4 : Int32) (y5 : Int32) (y10 : Int32) (y11 : Int32) (z0 : Int64) : Option (Int32 × ja_H) := (jl (z0 : Int64) (fun (x1 : Int64) => (jl ((0 : Int32) : Int32) (fun (x2 : Int32) => (r_Mo_moved_392 ja_fu h y0 y2 y4 y5 y10 y11 x1 x2)))))
theorem t_Mo_moved_387 {h : ja_H} {y0 : Nat} {y2 : Int32} {y4 : Int32} {y5 : Int32} {y10 : Int32} {y11 : Int32} {z0 : Int64} : ja_D ja_gI M_Mo_moved 387 [some (.ref y0), none, some (.int y2), none, some (.int y4), some (.int y5), none, none, none, none, some (.int y10), some (.int y11), none, none, none, none] [.long z0] h (r_Mo_moved_387 h y0 y2 y4 y5 y10 y11 z0) := by
  unfold r_Mo_moved_387
  refine jd_lstore (fun x1 => [some (.ref y0), none, some (.int y2), none, some (.int y4), some (.int y5), none, none, none, none, some (.int y10), some (.int y11), some (.long x1), none, none, none]) i_Mo_moved_387 (by decide) rfl (fun _ => rfl) (fun x1 => ?_)
  refine jd_iconst 0 i_Mo_moved_389 (by decide) ?_
  refine jd_istore (fun x2 => [some (.ref y0), none, some (.int y2), none, some (.int y4), some (.int y5), none, none, none, none, some (.int y10), some (.int y11), some (.long x1), none, some (.int x2), none]) i_Mo_moved_390 (by decide) rfl (fun _ => rfl) (fun x2 => ?_)
  exact jd_less (s_Mo_moved_392 ja_fu _ _ _ _ _ _ _ _ _) ⟨rfl, rfl, rfl, rfl, rfl, rfl, rfl, rfl, trivial⟩
noncomputable def r_Mo_moved_316 (C269 : ja_H → Nat → Int32 → Int32 → Int32 → Int64 → Int32 → Int32 → Option (Int32 × ja_H)) (h : ja_H) (y0 : Nat) (y3 : Int32) (y5 : Int32) (y10 : Int32) (y12 : Int64) (y15 : Int32) (z0 : Int32) : Option (Int32 × ja_H) := (jl (z0 : Int32) (fun (x1 : Int32) => (jf_R h y0 9 21 (fun a2 => (je_I h a2 0 (y10 + y15) (fun v3 => (jl ((y12 ||| ((Int32.toInt64 v3) <<< (Int32.toInt64 ((8 : Int32) * y15) &&& 63))) : Int64) (fun (x4 : Int64) => (jl (y15 + 1 : Int32) (fun (x5 : Int32) => (C269 h y0 y3 y5 y10 x4 x1 x5)))))))))))
theorem t_Mo_moved_316 {C269 : ja_H → Nat → Int32 → Int32 → Int32 → Int64 → Int32 → Int32 → Option (Int32 × ja_H)} (k269 : ∀ (h : ja_H) (y0 : Nat) (y3 : Int32) (y5 : Int32) (y10 : Int32) (y12 : Int64) (y14 : Int32) (y15 : Int32), ja_D ja_gI M_Mo_moved 269 [some (.ref y0), none, none, some (.int y3), none, some (.int y5), none, none, none, none, some (.int y10), none, some (.long y12), none, some (.int y14), some (.int y15)] [] h (C269 h y0 y3 y5 y10 y12 y14 y15)) {h : ja_H} {y0 : Nat} {y3 : Int32} {y5 : Int32} {y10 : Int32} {y12 : Int64} {y15 : Int32} {z0 : Int32} : ja_D ja_gI M_Mo_moved 316 [some (.ref y0), none, none, some (.int y3), none, some (.int y5), none, none, none, none, some (.int y10), none, some (.long y12), none, none, some (.int y15)] [.int z0] h (r_Mo_moved_316 C269 h y0 y3 y5 y10 y12 y15 z0) := by
  unfold r_Mo_moved_316
  refine jd_istore (fun x1 => [some (.ref y0), none, none, some (.int y3), none, some (.int y5), none, none, none, none, some (.int y10), none, some (.long y12), none, some (.int x1), some (.int y15)]) i_Mo_moved_316 (by decide) rfl (fun _ => rfl) (fun x1 => ?_)
  refine jd_lload i_Mo_moved_318 rfl ?_
  refine jd_aload_n i_Mo_moved_320 rfl ?_
  refine jd_getR F_Mo_55 i_Mo_moved_321 (fun a2 => ?_)
  refine jd_iload i_Mo_moved_324 rfl ?_
  refine jd_iload i_Mo_moved_326 rfl ?_
  refine jd_iadd i_Mo_moved_328 ?_
  refine jd_iald i_Mo_moved_329 (fun v3 => ?_)
  refine jd_i2l i_Mo_moved_330 ?_
  refine jd_bipush 8 i_Mo_moved_331 (by decide) ?_
  refine jd_iload i_Mo_moved_333 rfl ?_
  refine jd_imul i_Mo_moved_335 ?_
  refine jd_lshl i_Mo_moved_336 ?_
  refine jd_lor i_Mo_moved_337 ?_
  refine jd_lstore (fun x4 => [some (.ref y0), none, none, some (.int y3), none, some (.int y5), none, none, none, none, some (.int y10), none, some (.long x4), none, some (.int x1), some (.int y15)]) i_Mo_moved_338 (by decide) rfl (fun _ => rfl) (fun x4 => ?_)
  refine jd_iinc (fun x5 => [some (.ref y0), none, none, some (.int y3), none, some (.int y5), none, none, none, none, some (.int y10), none, some (.long x4), none, some (.int x1), some (.int x5)]) i_Mo_moved_340 rfl rfl (by decide) rfl (fun _ => rfl) (fun x5 => ?_)
  refine jd_goto 269 i_Mo_moved_343 (by decide) ?_
  exact jd_less (k269 _ _ _ _ _ _ _ _) ⟨rfl, rfl, rfl, rfl, rfl, rfl, rfl, trivial⟩
noncomputable def r_Mo_moved_315 (C269 : ja_H → Nat → Int32 → Int32 → Int32 → Int64 → Int32 → Int32 → Option (Int32 × ja_H)) (h : ja_H) (y0 : Nat) (y3 : Int32) (y5 : Int32) (y10 : Int32) (y12 : Int64) (y15 : Int32) : Option (Int32 × ja_H) := (r_Mo_moved_316 C269 h y0 y3 y5 y10 y12 y15 (0 : Int32))
theorem t_Mo_moved_315 {C269 : ja_H → Nat → Int32 → Int32 → Int32 → Int64 → Int32 → Int32 → Option (Int32 × ja_H)} (k269 : ∀ (h : ja_H) (y0 : Nat) (y3 : Int32) (y5 : Int32) (y10 : Int32) (y12 : Int64) (y14 : Int32) (y15 : Int32), ja_D ja_gI M_Mo_moved 269 [some (.ref y0), none, none, some (.int y3), none, some (.int y5), none, none, none, none, some (.int y10), none, some (.long y12), none, some (.int y14), some (.int y15)] [] h (C269 h y0 y3 y5 y10 y12 y14 y15)) {h : ja_H} {y0 : Nat} {y3 : Int32} {y5 : Int32} {y10 : Int32} {y12 : Int64} {y15 : Int32} : ja_D ja_gI M_Mo_moved 315 [some (.ref y0), none, none, some (.int y3), none, some (.int y5), none, none, none, none, some (.int y10), none, some (.long y12), none, none, some (.int y15)] [] h (r_Mo_moved_315 C269 h y0 y3 y5 y10 y12 y15) := by
  unfold r_Mo_moved_315
  refine jd_iconst 0 i_Mo_moved_315 (by decide) ?_
  exact jd_less (t_Mo_moved_316 k269) ⟨rfl, rfl, rfl, rfl, rfl, rfl, trivial⟩
noncomputable def q_Mo_moved_269 (C269 : ja_H → Nat → Int32 → Int32 → Int32 → Int64 → Int32 → Int32 → Option (Int32 × ja_H)) (h : ja_H) (y0 : Nat) (y3 : Int32) (y5 : Int32) (y10 : Int32) (y12 : Int64) (y14 : Int32) (y15 : Int32) : Option (Int32 × ja_H) := (if y5 ≤ y15 then (jf_R h y0 9 19 (fun a1 => (js_L h a1 y3 y12 (fun h2 => (jf_R h2 y0 9 17 (fun a3 => (js_I h2 a3 y3 (1 : Int32) (fun h4 => (jb y14 (some (y14, h4))))))))))) else (if y14 = (0 : Int32) then (r_Mo_moved_315 C269 h y0 y3 y5 y10 y12 y15) else (jf_R h y0 9 22 (fun a5 => (je_I h a5 2 (y10 + y15) (fun v6 => (if v6 = (0 : Int32) then (r_Mo_moved_315 C269 h y0 y3 y5 y10 y12 y15) else (jf_R h y0 9 18 (fun a7 => (jz_I (8 : Int32) (je_I h a7 0 ((y10 + y15) / (8 : Int32)) (fun v8 => (if (2 : Int32) ≤ v8 then (r_Mo_moved_315 C269 h y0 y3 y5 y10 y12 y15) else (r_Mo_moved_316 C269 h y0 y3 y5 y10 y12 y15 (1 : Int32)))))))))))))))
theorem t_Mo_moved_269 {C269 : ja_H → Nat → Int32 → Int32 → Int32 → Int64 → Int32 → Int32 → Option (Int32 × ja_H)} (k269 : ∀ (h : ja_H) (y0 : Nat) (y3 : Int32) (y5 : Int32) (y10 : Int32) (y12 : Int64) (y14 : Int32) (y15 : Int32), ja_D ja_gI M_Mo_moved 269 [some (.ref y0), none, none, some (.int y3), none, some (.int y5), none, none, none, none, some (.int y10), none, some (.long y12), none, some (.int y14), some (.int y15)] [] h (C269 h y0 y3 y5 y10 y12 y14 y15)) {h : ja_H} {y0 : Nat} {y3 : Int32} {y5 : Int32} {y10 : Int32} {y12 : Int64} {y14 : Int32} {y15 : Int32} : ja_D ja_gI M_Mo_moved 269 [some (.ref y0), none, none, some (.int y3), none, some (.int y5), none, none, none, none, some (.int y10), none, some (.long y12), none, some (.int y14), some (.int y15)] [] h (q_Mo_moved_269 C269 h y0 y3 y5 y10 y12 y14 y15) := by
  unfold q_Mo_moved_269
  refine jd_iload i_Mo_moved_269 rfl ?_
  refine jd_iload i_Mo_moved_271 rfl ?_
  refine jd_icmp_ge 346 i_Mo_moved_273 (by decide) ?_ ?_
  · refine jd_aload_n i_Mo_moved_346 rfl ?_
    refine jd_getR F_Mo_49 i_Mo_moved_347 (fun a1 => ?_)
    refine jd_iload_n i_Mo_moved_350 rfl ?_
    refine jd_lload i_Mo_moved_351 rfl ?_
    refine jd_last i_Mo_moved_353 (fun h2 => ?_)
    refine jd_aload_n i_Mo_moved_354 rfl ?_
    refine jd_getR F_Mo_43 i_Mo_moved_355 (fun a3 => ?_)
    refine jd_iload_n i_Mo_moved_358 rfl ?_
    refine jd_iconst 1 i_Mo_moved_359 (by decide) ?_
    refine jd_iast i_Mo_moved_360 (fun h4 => ?_)
    refine jd_iload i_Mo_moved_361 rfl ?_
    exact jd_zreturn i_Mo_moved_363 rfl
  · refine jd_iload i_Mo_moved_276 rfl ?_
    refine jd_if_eq 315 i_Mo_moved_278 (by decide) ?_ ?_
    · exact jd_less (t_Mo_moved_315 k269) ⟨rfl, rfl, rfl, rfl, rfl, rfl, trivial⟩
    · refine jd_aload_n i_Mo_moved_281 rfl ?_
      refine jd_getR F_Mo_58 i_Mo_moved_282 (fun a5 => ?_)
      refine jd_iload i_Mo_moved_285 rfl ?_
      refine jd_iload i_Mo_moved_287 rfl ?_
      refine jd_iadd i_Mo_moved_289 ?_
      refine jd_zald i_Mo_moved_290 (fun v6 => ?_)
      refine jd_if_eq 315 i_Mo_moved_291 (by decide) ?_ ?_
      · exact jd_less (t_Mo_moved_315 k269) ⟨rfl, rfl, rfl, rfl, rfl, rfl, trivial⟩
      · refine jd_aload_n i_Mo_moved_294 rfl ?_
        refine jd_getR F_Mo_46 i_Mo_moved_295 (fun a7 => ?_)
        refine jd_iload i_Mo_moved_298 rfl ?_
        refine jd_iload i_Mo_moved_300 rfl ?_
        refine jd_iadd i_Mo_moved_302 ?_
        refine jd_bipush 8 i_Mo_moved_303 (by decide) ?_
        refine jd_idiv i_Mo_moved_305 ?_
        refine jd_iald i_Mo_moved_306 (fun v8 => ?_)
        refine jd_iconst 2 i_Mo_moved_307 (by decide) ?_
        refine jd_icmp_ge 315 i_Mo_moved_308 (by decide) ?_ ?_
        · exact jd_less (t_Mo_moved_315 k269) ⟨rfl, rfl, rfl, rfl, rfl, rfl, trivial⟩
        · refine jd_iconst 1 i_Mo_moved_311 (by decide) ?_
          refine jd_goto 316 i_Mo_moved_312 (by decide) ?_
          exact jd_less (t_Mo_moved_316 k269) ⟨rfl, rfl, rfl, rfl, rfl, rfl, trivial⟩
noncomputable def r_Mo_moved_269 : Nat → ja_H → Nat → Int32 → Int32 → Int32 → Int64 → Int32 → Int32 → Option (Int32 × ja_H) := ja_lo (q_Mo_moved_269) (fun _ _ _ _ _ _ _ _ => none)
theorem s_Mo_moved_269 : ∀ (n : Nat) (h : ja_H) (y0 : Nat) (y3 : Int32) (y5 : Int32) (y10 : Int32) (y12 : Int64) (y14 : Int32) (y15 : Int32), ja_D ja_gI M_Mo_moved 269 [some (.ref y0), none, none, some (.int y3), none, some (.int y5), none, none, none, none, some (.int y10), none, some (.long y12), none, some (.int y14), some (.int y15)] [] h (r_Mo_moved_269 n h y0 y3 y5 y10 y12 y14 y15) := by
  intro n
  induction n with
  | zero => intro h y0 y3 y5 y10 y12 y14 y15 o e; cases e
  | succ n ih => intro h y0 y3 y5 y10 y12 y14 y15; exact t_Mo_moved_269 ih
noncomputable def r_Mo_moved_260 (h : ja_H) (y0 : Nat) (y3 : Int32) (y5 : Int32) (y10 : Int32) : Option (Int32 × ja_H) := (jl ((0 : Int64) : Int64) (fun (x1 : Int64) => (jl ((1 : Int32) : Int32) (fun (x2 : Int32) => (jl ((0 : Int32) : Int32) (fun (x3 : Int32) => (r_Mo_moved_269 ja_fu h y0 y3 y5 y10 x1 x2 x3)))))))
theorem t_Mo_moved_260 {h : ja_H} {y0 : Nat} {y3 : Int32} {y5 : Int32} {y10 : Int32} : ja_D ja_gI M_Mo_moved 260 [some (.ref y0), none, none, some (.int y3), none, some (.int y5), none, none, none, none, some (.int y10), none, none, none, none, none] [] h (r_Mo_moved_260 h y0 y3 y5 y10) := by
  unfold r_Mo_moved_260
  refine jd_lconst 0 i_Mo_moved_260 (by decide) ?_
  refine jd_lstore (fun x1 => [some (.ref y0), none, none, some (.int y3), none, some (.int y5), none, none, none, none, some (.int y10), none, some (.long x1), none, none, none]) i_Mo_moved_261 (by decide) rfl (fun _ => rfl) (fun x1 => ?_)
  refine jd_iconst 1 i_Mo_moved_263 (by decide) ?_
  refine jd_istore (fun x2 => [some (.ref y0), none, none, some (.int y3), none, some (.int y5), none, none, none, none, some (.int y10), none, some (.long x1), none, some (.int x2), none]) i_Mo_moved_264 (by decide) rfl (fun _ => rfl) (fun x2 => ?_)
  refine jd_iconst 0 i_Mo_moved_266 (by decide) ?_
  refine jd_istore (fun x3 => [some (.ref y0), none, none, some (.int y3), none, some (.int y5), none, none, none, none, some (.int y10), none, some (.long x1), none, some (.int x2), some (.int x3)]) i_Mo_moved_267 (by decide) rfl (fun _ => rfl) (fun x3 => ?_)
  exact jd_less (s_Mo_moved_269 ja_fu _ _ _ _ _ _ _ _) ⟨rfl, rfl, rfl, rfl, rfl, rfl, rfl, trivial⟩
noncomputable def r_Mo_moved_199 (h : ja_H) (y0 : Nat) (y1 : Int32) (y2 : Int32) (y3 : Int32) (y4 : Int32) (y5 : Int32) (y10 : Int32) (z0 : Int32) : Option (Int32 × ja_H) := (jl (z0 : Int32) (fun (x1 : Int32) => (jc_I (r_Mo_reads h y2) (fun v3 h2 => (if v3 = (0 : Int32) then (jc_I (r_Mo_stores h2 y2) (fun v5 h4 => (if v5 = (0 : Int32) then (jk h4 y0 9 (jc_I (r_Mo_imm h4 y0 y1) (fun v7 h6 => (r_Mo_moved_387 h6 y0 y2 y4 y5 y10 x1 (Int32.toInt64 v7))))) else (jf_R h4 y0 9 19 (fun a8 => (je_L h4 a8 y4 (fun v9 => (r_Mo_moved_387 h4 y0 y2 y4 y5 y10 x1 v9)))))))) else (if x1 = (0 : Int32) then (r_Mo_moved_260 h2 y0 y3 y5 y10) else (jf_R h2 y0 9 18 (fun a10 => (jz_I (8 : Int32) (je_I h2 a10 0 (y10 / (8 : Int32)) (fun v11 => (if v11 = (0 : Int32) then (r_Mo_moved_260 h2 y0 y3 y5 y10) else (jf_R h2 y0 9 19 (fun a12 => (jf_R h2 y0 9 20 (fun a13 => (jz_I (8 : Int32) (je_L h2 a13 (y10 / (8 : Int32)) (fun v14 => (js_L h2 a12 y3 v14 (fun h15 => (jf_R h15 y0 9 17 (fun a16 => (jf_R h15 y0 9 18 (fun a17 => (jz_I (8 : Int32) (je_I h15 a17 0 (y10 / (8 : Int32)) (fun v18 => (js_I h15 a16 y3 v18 (fun h19 => (jb (1 : Int32) (some ((1 : Int32), h19)))))))))))))))))))))))))))))))))
theorem t_Mo_moved_199 {h : ja_H} {y0 : Nat} {y1 : Int32} {y2 : Int32} {y3 : Int32} {y4 : Int32} {y5 : Int32} {y10 : Int32} {z0 : Int32} : ja_D ja_gI M_Mo_moved 199 [some (.ref y0), some (.int y1), some (.int y2), some (.int y3), some (.int y4), some (.int y5), none, none, none, none, some (.int y10), none, none, none, none, none] [.int z0] h (r_Mo_moved_199 h y0 y1 y2 y3 y4 y5 y10 z0) := by
  unfold r_Mo_moved_199
  refine jd_istore (fun x1 => [some (.ref y0), some (.int y1), some (.int y2), some (.int y3), some (.int y4), some (.int y5), none, none, none, none, some (.int y10), some (.int x1), none, none, none, none]) i_Mo_moved_199 (by decide) rfl (fun _ => rfl) (fun x1 => ?_)
  refine jd_iload_n i_Mo_moved_201 rfl ?_
  refine jd_callSI G_Mo_82 sc_Mo_reads (fun _ e => c_Mo_reads e) rfl ⟨by decide, by decide⟩ rfl (Nat.le_of_ble_eq_true rfl) i_Mo_moved_202 (fun v3 h2 => ?_)
  refine jd_if_eq 364 i_Mo_moved_205 (by decide) ?_ ?_
  · refine jd_iload_n i_Mo_moved_364 rfl ?_
    refine jd_callSI G_Mo_86 sc_Mo_stores (fun _ e => c_Mo_stores e) rfl ⟨by decide, by decide⟩ rfl (Nat.le_of_ble_eq_true rfl) i_Mo_moved_365 (fun v5 h4 => ?_)
    refine jd_if_eq 381 i_Mo_moved_368 (by decide) ?_ ?_
    · refine jd_aload_n i_Mo_moved_381 rfl ?_
      refine jd_iload_n i_Mo_moved_382 rfl ?_
      refine jd_callVI G_Mo_92 in_Mo_imm se_Mo_imm rfl (fun _ e => c_Mo_imm e) rfl ⟨by decide, by decide⟩ rfl (Nat.le_of_ble_eq_true rfl) i_Mo_moved_383 (fun v7 h6 => ?_)
      refine jd_i2l i_Mo_moved_386 ?_
      exact jd_less (t_Mo_moved_387) ⟨rfl, rfl, rfl, rfl, rfl, rfl, trivial⟩
    · refine jd_aload_n i_Mo_moved_371 rfl ?_
      refine jd_getR F_Mo_49 i_Mo_moved_372 (fun a8 => ?_)
      refine jd_iload i_Mo_moved_375 rfl ?_
      refine jd_lald i_Mo_moved_377 (fun v9 => ?_)
      refine jd_goto 387 i_Mo_moved_378 (by decide) ?_
      exact jd_less (t_Mo_moved_387) ⟨rfl, rfl, rfl, rfl, rfl, rfl, trivial⟩
  · refine jd_iload i_Mo_moved_208 rfl ?_
    refine jd_if_eq 260 i_Mo_moved_210 (by decide) ?_ ?_
    · exact jd_less (t_Mo_moved_260) ⟨rfl, rfl, rfl, rfl, trivial⟩
    · refine jd_aload_n i_Mo_moved_213 rfl ?_
      refine jd_getR F_Mo_46 i_Mo_moved_214 (fun a10 => ?_)
      refine jd_iload i_Mo_moved_217 rfl ?_
      refine jd_bipush 8 i_Mo_moved_219 (by decide) ?_
      refine jd_idiv i_Mo_moved_221 ?_
      refine jd_iald i_Mo_moved_222 (fun v11 => ?_)
      refine jd_if_eq 260 i_Mo_moved_223 (by decide) ?_ ?_
      · exact jd_less (t_Mo_moved_260) ⟨rfl, rfl, rfl, rfl, trivial⟩
      · refine jd_aload_n i_Mo_moved_226 rfl ?_
        refine jd_getR F_Mo_49 i_Mo_moved_227 (fun a12 => ?_)
        refine jd_iload_n i_Mo_moved_230 rfl ?_
        refine jd_aload_n i_Mo_moved_231 rfl ?_
        refine jd_getR F_Mo_52 i_Mo_moved_232 (fun a13 => ?_)
        refine jd_iload i_Mo_moved_235 rfl ?_
        refine jd_bipush 8 i_Mo_moved_237 (by decide) ?_
        refine jd_idiv i_Mo_moved_239 ?_
        refine jd_lald i_Mo_moved_240 (fun v14 => ?_)
        refine jd_last i_Mo_moved_241 (fun h15 => ?_)
        refine jd_aload_n i_Mo_moved_242 rfl ?_
        refine jd_getR F_Mo_43 i_Mo_moved_243 (fun a16 => ?_)
        refine jd_iload_n i_Mo_moved_246 rfl ?_
        refine jd_aload_n i_Mo_moved_247 rfl ?_
        refine jd_getR F_Mo_46 i_Mo_moved_248 (fun a17 => ?_)
        refine jd_iload i_Mo_moved_251 rfl ?_
        refine jd_bipush 8 i_Mo_moved_253 (by decide) ?_
        refine jd_idiv i_Mo_moved_255 ?_
        refine jd_iald i_Mo_moved_256 (fun v18 => ?_)
        refine jd_iast i_Mo_moved_257 (fun h19 => ?_)
        refine jd_iconst 1 i_Mo_moved_258 (by decide) ?_
        exact jd_zreturn i_Mo_moved_259 rfl
noncomputable def r_Mo_moved_198 (h : ja_H) (y0 : Nat) (y1 : Int32) (y2 : Int32) (y3 : Int32) (y4 : Int32) (y5 : Int32) (y10 : Int32) : Option (Int32 × ja_H) := (r_Mo_moved_199 h y0 y1 y2 y3 y4 y5 y10 (0 : Int32))
theorem t_Mo_moved_198 {h : ja_H} {y0 : Nat} {y1 : Int32} {y2 : Int32} {y3 : Int32} {y4 : Int32} {y5 : Int32} {y10 : Int32} : ja_D ja_gI M_Mo_moved 198 [some (.ref y0), some (.int y1), some (.int y2), some (.int y3), some (.int y4), some (.int y5), none, none, none, none, some (.int y10), none, none, none, none, none] [] h (r_Mo_moved_198 h y0 y1 y2 y3 y4 y5 y10) := by
  unfold r_Mo_moved_198
  refine jd_iconst 0 i_Mo_moved_198 (by decide) ?_
  exact jd_less (t_Mo_moved_199) ⟨rfl, rfl, rfl, rfl, rfl, rfl, rfl, trivial⟩
noncomputable def r_Mo_moved_177 (h : ja_H) : Option (Int32 × ja_H) := (jb (0 : Int32) (some ((0 : Int32), h)))
theorem t_Mo_moved_177 {h : ja_H} : ja_D ja_gI M_Mo_moved 177 [none, none, none, none, none, none, none, none, none, none, none, none, none, none, none, none] [] h (r_Mo_moved_177 h) := by
  unfold r_Mo_moved_177
  refine jd_iconst 0 i_Mo_moved_177 (by decide) ?_
  exact jd_zreturn i_Mo_moved_178 rfl
noncomputable def q_Mo_moved_89 (C89 : ja_H → Nat → Int32 → Int32 → Int64 → Int64 → Int32 → Option (Int32 × ja_H)) (h : ja_H) (y0 : Nat) (y3 : Int32) (y5 : Int32) (y8 : Int64) (y10 : Int64) (y12 : Int32) : Option (Int32 × ja_H) := (if y5 ≤ y12 then (jf_R h y0 9 19 (fun a1 => (js_L h a1 y3 y10 (fun h2 => (jf_R h2 y0 9 17 (fun a3 => (js_I h2 a3 y3 (1 : Int32) (fun h4 => (jb (1 : Int32) (some ((1 : Int32), h4))))))))))) else (jf_R h y0 9 8 (fun a5 => (je_I h a5 0 ((Int64.toInt32 y8) + y12) (fun v6 => (jl ((y10 ||| ((Int32.toInt64 v6) <<< (Int32.toInt64 ((8 : Int32) * y12) &&& 63))) : Int64) (fun (x7 : Int64) => (jl (y12 + 1 : Int32) (fun (x8 : Int32) => (C89 h y0 y3 y5 y8 x7 x8))))))))))
theorem t_Mo_moved_89 {C89 : ja_H → Nat → Int32 → Int32 → Int64 → Int64 → Int32 → Option (Int32 × ja_H)} (k89 : ∀ (h : ja_H) (y0 : Nat) (y3 : Int32) (y5 : Int32) (y8 : Int64) (y10 : Int64) (y12 : Int32), ja_D ja_gI M_Mo_moved 89 [some (.ref y0), none, none, some (.int y3), none, some (.int y5), none, none, some (.long y8), none, some (.long y10), none, some (.int y12), none, none, none] [] h (C89 h y0 y3 y5 y8 y10 y12)) {h : ja_H} {y0 : Nat} {y3 : Int32} {y5 : Int32} {y8 : Int64} {y10 : Int64} {y12 : Int32} : ja_D ja_gI M_Mo_moved 89 [some (.ref y0), none, none, some (.int y3), none, some (.int y5), none, none, some (.long y8), none, some (.long y10), none, some (.int y12), none, none, none] [] h (q_Mo_moved_89 C89 h y0 y3 y5 y8 y10 y12) := by
  unfold q_Mo_moved_89
  refine jd_iload i_Mo_moved_89 rfl ?_
  refine jd_iload i_Mo_moved_91 rfl ?_
  refine jd_icmp_ge 125 i_Mo_moved_93 (by decide) ?_ ?_
  · refine jd_aload_n i_Mo_moved_125 rfl ?_
    refine jd_getR F_Mo_49 i_Mo_moved_126 (fun a1 => ?_)
    refine jd_iload_n i_Mo_moved_129 rfl ?_
    refine jd_lload i_Mo_moved_130 rfl ?_
    refine jd_last i_Mo_moved_132 (fun h2 => ?_)
    refine jd_aload_n i_Mo_moved_133 rfl ?_
    refine jd_getR F_Mo_43 i_Mo_moved_134 (fun a3 => ?_)
    refine jd_iload_n i_Mo_moved_137 rfl ?_
    refine jd_iconst 1 i_Mo_moved_138 (by decide) ?_
    refine jd_iast i_Mo_moved_139 (fun h4 => ?_)
    refine jd_iconst 1 i_Mo_moved_140 (by decide) ?_
    exact jd_zreturn i_Mo_moved_141 rfl
  · refine jd_lload i_Mo_moved_96 rfl ?_
    refine jd_aload_n i_Mo_moved_98 rfl ?_
    refine jd_getR F_Mo_24 i_Mo_moved_99 (fun a5 => ?_)
    refine jd_lload i_Mo_moved_102 rfl ?_
    refine jd_l2i i_Mo_moved_104 ?_
    refine jd_iload i_Mo_moved_105 rfl ?_
    refine jd_iadd i_Mo_moved_107 ?_
    refine jd_iald i_Mo_moved_108 (fun v6 => ?_)
    refine jd_i2l i_Mo_moved_109 ?_
    refine jd_bipush 8 i_Mo_moved_110 (by decide) ?_
    refine jd_iload i_Mo_moved_112 rfl ?_
    refine jd_imul i_Mo_moved_114 ?_
    refine jd_lshl i_Mo_moved_115 ?_
    refine jd_lor i_Mo_moved_116 ?_
    refine jd_lstore (fun x7 => [some (.ref y0), none, none, some (.int y3), none, some (.int y5), none, none, some (.long y8), none, some (.long x7), none, some (.int y12), none, none, none]) i_Mo_moved_117 (by decide) rfl (fun _ => rfl) (fun x7 => ?_)
    refine jd_iinc (fun x8 => [some (.ref y0), none, none, some (.int y3), none, some (.int y5), none, none, some (.long y8), none, some (.long x7), none, some (.int x8), none, none, none]) i_Mo_moved_119 rfl rfl (by decide) rfl (fun _ => rfl) (fun x8 => ?_)
    refine jd_goto 89 i_Mo_moved_122 (by decide) ?_
    exact jd_less (k89 _ _ _ _ _ _ _) ⟨rfl, rfl, rfl, rfl, rfl, rfl, trivial⟩
noncomputable def r_Mo_moved_89 : Nat → ja_H → Nat → Int32 → Int32 → Int64 → Int64 → Int32 → Option (Int32 × ja_H) := ja_lo (q_Mo_moved_89) (fun _ _ _ _ _ _ _ => none)
theorem s_Mo_moved_89 : ∀ (n : Nat) (h : ja_H) (y0 : Nat) (y3 : Int32) (y5 : Int32) (y8 : Int64) (y10 : Int64) (y12 : Int32), ja_D ja_gI M_Mo_moved 89 [some (.ref y0), none, none, some (.int y3), none, some (.int y5), none, none, some (.long y8), none, some (.long y10), none, some (.int y12), none, none, none] [] h (r_Mo_moved_89 n h y0 y3 y5 y8 y10 y12) := by
  intro n
  induction n with
  | zero => intro h y0 y3 y5 y8 y10 y12 o e; cases e
  | succ n ih => intro h y0 y3 y5 y8 y10 y12; exact t_Mo_moved_89 ih
noncomputable def r_Mo_moved_81 (h : ja_H) : Option (Int32 × ja_H) := (jb (0 : Int32) (some ((0 : Int32), h)))
theorem t_Mo_moved_81 {h : ja_H} : ja_D ja_gI M_Mo_moved 81 [none, none, none, none, none, none, none, none, none, none, none, none, none, none, none, none] [] h (r_Mo_moved_81 h) := by
  unfold r_Mo_moved_81
  refine jd_iconst 0 i_Mo_moved_81 (by decide) ?_
  exact jd_zreturn i_Mo_moved_82 rfl
noncomputable def r_Mo_moved_19 (h : ja_H) (y0 : Nat) (y1 : Int32) (y2 : Int32) (y3 : Int32) (y4 : Int32) (y5 : Int32) (z0 : Int32) : Option (Int32 × ja_H) := (jl (z0 : Int32) (fun (x1 : Int32) => (jf_R h y0 9 17 (fun a2 => (je_I h a2 0 x1 (fun v3 => (jl (v3 : Int32) (fun (x4 : Int32) => (jf_R h y0 9 19 (fun a5 => (je_L h a5 x1 (fun v6 => (jk h y0 9 (jc_I (r_Mo_off h y0 y1) (fun v8 h7 => (jl ((v6 + (Int32.toInt64 v8)) : Int64) (fun (x9 : Int64) => (if x4 = (2 : Int32) then (jc_I (r_Mo_reads h7 y2) (fun v12 h11 => (if v12 = (0 : Int32) then (r_Mo_moved_81 h11) else (if x9 < (0 : Int64) then (r_Mo_moved_81 h11) else (jf_I h11 y0 9 9 (fun v13 => (if (x9 + (Int32.toInt64 y5)) ≤ (Int32.toInt64 v13) then (jl ((0 : Int64) : Int64) (fun (x14 : Int64) => (jl ((0 : Int32) : Int32) (fun (x15 : Int32) => (r_Mo_moved_89 ja_fu h11 y0 y3 y5 x9 x14 x15))))) else (r_Mo_moved_81 h11)))))))) else (jl (((Int64.toInt32 x9) + (512 : Int32)) : Int32) (fun (x10 : Int32) => (if x4 = (3 : Int32) then (if x9 < (-512 : Int64) then (r_Mo_moved_177 h7) else (if (x9 + (Int32.toInt64 y5)) ≤ (0 : Int64) then (if y5 = (8 : Int32) then (jz_I (8 : Int32) (if (x10 - x10 / (8 : Int32) * (8 : Int32)) = (0 : Int32) then (r_Mo_moved_199 h7 y0 y1 y2 y3 y4 y5 x10 (1 : Int32)) else (r_Mo_moved_198 h7 y0 y1 y2 y3 y4 y5 x10))) else (r_Mo_moved_198 h7 y0 y1 y2 y3 y4 y5 x10)) else (r_Mo_moved_177 h7))) else (r_Mo_moved_177 h7))))))))))))))))))))))
theorem t_Mo_moved_19 {h : ja_H} {y0 : Nat} {y1 : Int32} {y2 : Int32} {y3 : Int32} {y4 : Int32} {y5 : Int32} {z0 : Int32} : ja_D ja_gI M_Mo_moved 19 [some (.ref y0), some (.int y1), some (.int y2), some (.int y3), some (.int y4), some (.int y5), none, none, none, none, none, none, none, none, none, none] [.int z0] h (r_Mo_moved_19 h y0 y1 y2 y3 y4 y5 z0) := by
  unfold r_Mo_moved_19
  refine jd_istore (fun x1 => [some (.ref y0), some (.int y1), some (.int y2), some (.int y3), some (.int y4), some (.int y5), some (.int x1), none, none, none, none, none, none, none, none, none]) i_Mo_moved_19 (by decide) rfl (fun _ => rfl) (fun x1 => ?_)
  refine jd_aload_n i_Mo_moved_21 rfl ?_
  refine jd_getR F_Mo_43 i_Mo_moved_22 (fun a2 => ?_)
  refine jd_iload i_Mo_moved_25 rfl ?_
  refine jd_iald i_Mo_moved_27 (fun v3 => ?_)
  refine jd_istore (fun x4 => [some (.ref y0), some (.int y1), some (.int y2), some (.int y3), some (.int y4), some (.int y5), some (.int x1), some (.int x4), none, none, none, none, none, none, none, none]) i_Mo_moved_28 (by decide) rfl (fun _ => rfl) (fun x4 => ?_)
  refine jd_aload_n i_Mo_moved_30 rfl ?_
  refine jd_getR F_Mo_49 i_Mo_moved_31 (fun a5 => ?_)
  refine jd_iload i_Mo_moved_34 rfl ?_
  refine jd_lald i_Mo_moved_36 (fun v6 => ?_)
  refine jd_aload_n i_Mo_moved_37 rfl ?_
  refine jd_iload_n i_Mo_moved_38 rfl ?_
  refine jd_callVI G_Mo_119 in_Mo_off se_Mo_off rfl (fun _ e => c_Mo_off e) rfl ⟨by decide, by decide⟩ rfl (Nat.le_of_ble_eq_true rfl) i_Mo_moved_39 (fun v8 h7 => ?_)
  refine jd_i2l i_Mo_moved_42 ?_
  refine jd_ladd i_Mo_moved_43 ?_
  refine jd_lstore (fun x9 => [some (.ref y0), some (.int y1), some (.int y2), some (.int y3), some (.int y4), some (.int y5), some (.int x1), some (.int x4), some (.long x9), none, none, none, none, none, none, none]) i_Mo_moved_44 (by decide) rfl (fun _ => rfl) (fun x9 => ?_)
  refine jd_iload i_Mo_moved_46 rfl ?_
  refine jd_iconst 2 i_Mo_moved_48 (by decide) ?_
  refine jd_icmp_ne 142 i_Mo_moved_49 (by decide) ?_ ?_
  · refine jd_lload i_Mo_moved_142 rfl ?_
    refine jd_l2i i_Mo_moved_144 ?_
    refine jd_sipush 512 i_Mo_moved_145 (by decide) ?_
    refine jd_iadd i_Mo_moved_148 ?_
    refine jd_istore (fun x10 => [some (.ref y0), some (.int y1), some (.int y2), some (.int y3), some (.int y4), some (.int y5), some (.int x1), some (.int x4), some (.long x9), none, some (.int x10), none, none, none, none, none]) i_Mo_moved_149 (by decide) rfl (fun _ => rfl) (fun x10 => ?_)
    refine jd_iload i_Mo_moved_151 rfl ?_
    refine jd_iconst 3 i_Mo_moved_153 (by decide) ?_
    refine jd_icmp_ne 177 i_Mo_moved_154 (by decide) ?_ ?_
    · exact jd_less (t_Mo_moved_177) trivial
    · refine jd_lload i_Mo_moved_157 rfl ?_
      refine jd_ldc2 i_Mo_moved_159 K_Mo_250 ?_
      refine jd_lcmp_lt 177 i_Mo_moved_162 i_Mo_moved_163 (by decide) ?_ ?_
      · exact jd_less (t_Mo_moved_177) trivial
      · refine jd_lload i_Mo_moved_166 rfl ?_
        refine jd_iload i_Mo_moved_168 rfl ?_
        refine jd_i2l i_Mo_moved_170 ?_
        refine jd_ladd i_Mo_moved_171 ?_
        refine jd_lconst 0 i_Mo_moved_172 (by decide) ?_
        refine jd_lcmp_le 179 i_Mo_moved_173 i_Mo_moved_174 (by decide) ?_ ?_
        · refine jd_iload i_Mo_moved_179 rfl ?_
          refine jd_bipush 8 i_Mo_moved_181 (by decide) ?_
          refine jd_icmp_ne 198 i_Mo_moved_183 (by decide) ?_ ?_
          · exact jd_less (t_Mo_moved_198) ⟨rfl, rfl, rfl, rfl, rfl, rfl, rfl, trivial⟩
          · refine jd_iload i_Mo_moved_186 rfl ?_
            refine jd_bipush 8 i_Mo_moved_188 (by decide) ?_
            refine jd_irem i_Mo_moved_190 ?_
            refine jd_if_ne 198 i_Mo_moved_191 (by decide) ?_ ?_
            · exact jd_less (t_Mo_moved_198) ⟨rfl, rfl, rfl, rfl, rfl, rfl, rfl, trivial⟩
            · refine jd_iconst 1 i_Mo_moved_194 (by decide) ?_
              refine jd_goto 199 i_Mo_moved_195 (by decide) ?_
              exact jd_less (t_Mo_moved_199) ⟨rfl, rfl, rfl, rfl, rfl, rfl, rfl, trivial⟩
        · exact jd_less (t_Mo_moved_177) trivial
  · refine jd_iload_n i_Mo_moved_52 rfl ?_
    refine jd_callSI G_Mo_82 sc_Mo_reads (fun _ e => c_Mo_reads e) rfl ⟨by decide, by decide⟩ rfl (Nat.le_of_ble_eq_true rfl) i_Mo_moved_53 (fun v12 h11 => ?_)
    refine jd_if_eq 81 i_Mo_moved_56 (by decide) ?_ ?_
    · exact jd_less (t_Mo_moved_81) trivial
    · refine jd_lload i_Mo_moved_59 rfl ?_
      refine jd_lconst 0 i_Mo_moved_61 (by decide) ?_
      refine jd_lcmp_lt 81 i_Mo_moved_62 i_Mo_moved_63 (by decide) ?_ ?_
      · exact jd_less (t_Mo_moved_81) trivial
      · refine jd_lload i_Mo_moved_66 rfl ?_
        refine jd_iload i_Mo_moved_68 rfl ?_
        refine jd_i2l i_Mo_moved_70 ?_
        refine jd_ladd i_Mo_moved_71 ?_
        refine jd_aload_n i_Mo_moved_72 rfl ?_
        refine jd_getI F_Mo_75 i_Mo_moved_73 (fun v13 => ?_)
        refine jd_i2l i_Mo_moved_76 ?_
        refine jd_lcmp_le 83 i_Mo_moved_77 i_Mo_moved_78 (by decide) ?_ ?_
        · refine jd_lconst 0 i_Mo_moved_83 (by decide) ?_
          refine jd_lstore (fun x14 => [some (.ref y0), some (.int y1), some (.int y2), some (.int y3), some (.int y4), some (.int y5), some (.int x1), some (.int x4), some (.long x9), none, some (.long x14), none, none, none, none, none]) i_Mo_moved_84 (by decide) rfl (fun _ => rfl) (fun x14 => ?_)
          refine jd_iconst 0 i_Mo_moved_86 (by decide) ?_
          refine jd_istore (fun x15 => [some (.ref y0), some (.int y1), some (.int y2), some (.int y3), some (.int y4), some (.int y5), some (.int x1), some (.int x4), some (.long x9), none, some (.long x14), none, some (.int x15), none, none, none]) i_Mo_moved_87 (by decide) rfl (fun _ => rfl) (fun x15 => ?_)
          exact jd_less (s_Mo_moved_89 ja_fu _ _ _ _ _ _ _) ⟨rfl, rfl, rfl, rfl, rfl, rfl, trivial⟩
        · exact jd_less (t_Mo_moved_81) trivial
noncomputable def r_Mo_moved (h : ja_H) (a0 : Nat) (a1 : Int32) (a2 : Int32) (a3 : Int32) (a4 : Int32) : Option (Int32 × ja_H) := (jc_I (r_Mo_size h a2) (fun v102 h101 => (jl (v102 : Int32) (fun (x103 : Int32) => (jc_I (r_Mo_reads h101 a2) (fun v105 h104 => (if v105 = (0 : Int32) then (r_Mo_moved_19 h104 a0 a1 a2 a3 a4 x103 a3) else (r_Mo_moved_19 h104 a0 a1 a2 a3 a4 x103 a4))))))))
theorem e_Mo_moved {h : ja_H} {a0 : Nat} {a1 : Int32} {a2 : Int32} {a3 : Int32} {a4 : Int32} : ja_D ja_gI M_Mo_moved 0 [some (.ref a0), some (.int a1), some (.int a2), some (.int a3), some (.int a4), none, none, none, none, none, none, none, none, none, none, none] [] h (r_Mo_moved h a0 a1 a2 a3 a4) := by
  unfold r_Mo_moved
  refine jd_iload_n i_Mo_moved_0 rfl ?_
  refine jd_callSI G_Mo_247 sc_Mo_size (fun _ e => c_Mo_size e) rfl ⟨by decide, by decide⟩ rfl (Nat.le_of_ble_eq_true rfl) i_Mo_moved_1 (fun v102 h101 => ?_)
  refine jd_istore (fun x103 => [some (.ref a0), some (.int a1), some (.int a2), some (.int a3), some (.int a4), some (.int x103), none, none, none, none, none, none, none, none, none, none]) i_Mo_moved_4 (by decide) rfl (fun _ => rfl) (fun x103 => ?_)
  refine jd_iload_n i_Mo_moved_6 rfl ?_
  refine jd_callSI G_Mo_82 sc_Mo_reads (fun _ e => c_Mo_reads e) rfl ⟨by decide, by decide⟩ rfl (Nat.le_of_ble_eq_true rfl) i_Mo_moved_7 (fun v105 h104 => ?_)
  refine jd_if_eq 18 i_Mo_moved_10 (by decide) ?_ ?_
  · refine jd_iload_n i_Mo_moved_18 rfl ?_
    exact jd_less (t_Mo_moved_19) ⟨rfl, rfl, rfl, rfl, rfl, rfl, trivial⟩
  · refine jd_iload i_Mo_moved_13 rfl ?_
    refine jd_goto 19 i_Mo_moved_15 (by decide) ?_
    exact jd_less (t_Mo_moved_19) ⟨rfl, rfl, rfl, rfl, rfl, rfl, trivial⟩
theorem c_Mo_moved {h : ja_H} {a0 : Nat} {a1 : Int32} {a2 : Int32} {a3 : Int32} {a4 : Int32} {o : Int32 × ja_H} (e : r_Mo_moved h a0 a1 a2 a3 a4 = some o) : ja_M (1, 21) y_Mo_moved b_Mo_moved 16 (some .boolean) [.ref a0, .int a1, .int a2, .int a3, .int a4] h [.int o.1] o.2 := jc_of (g := ja_gI) false _ e e_Mo_moved rfl (by decide +kernel) (fun q => nomatch q) (Nat.le_of_ble_eq_true rfl) (fun _ q => nomatch q) (Nat.le_of_ble_eq_true rfl)
