noncomputable def r_Mo_stored_284 (h : ja_H) : Option (Int32 × ja_H) := (some ((0 : Int32), h))
theorem t_Mo_stored_284 {h : ja_H} : ja_D ja_gI M_Mo_stored 284 [none, none, none, none, none, none, none, none, none, none, none] [] h (r_Mo_stored_284 h) := by
  unfold r_Mo_stored_284
  refine jd_iconst 0 i_Mo_stored_284 (by decide) ?_
  exact jd_ireturn i_Mo_stored_285 rfl
noncomputable def q_Mo_stored_206 (C206 : ja_H → Nat → Int32 → Int32 → Int32 → Int32 → Int32 → Option (Int32 × ja_H)) (h : ja_H) (y0 : Nat) (y1 : Int32) (y5 : Int32) (y6 : Int32) (y7 : Int32) (y8 : Int32) : Option (Int32 × ja_H) := (if (y6 + y5) ≤ y8 then (if y7 = (0 : Int32) then (r_Mo_stored_284 h) else (jz_I (8 : Int32) (jk h y0 9 (jc_I (r_Mo_s h y0 y1) (fun v2 h1 => (jk h1 y0 9 (jc_I (r_Mo_is h1 y0 y1 v2) (fun v4 h3 => (jk h3 y0 9 (jc_I (r_Mo_s h3 y0 y1) (fun v6 h5 => (jk h5 y0 9 (jc_L (r_Mo_least h5 y0 y1 v6) (fun v8 h7 => (jk h7 y0 9 (jc_I (r_Mo_s h7 y0 y1) (fun v10 h9 => (jk h9 y0 9 (jc_L (r_Mo_most h9 y0 y1 v10) (fun v12 h11 => (jk h11 y0 9 (jc_V (r_Mo_give h11 y0 (1024 : Int32) ((11 : Int32) + (y6 / (8 : Int32))) v4 v8 v12) (fun h13 => (r_Mo_stored_284 h13)))))))))))))))))))))))) else (jf_R h y0 9 13 (fun a14 => (js_Z h a14 ((524288 : Int32) + y8) (1 : Int32) (fun h15 => (jl (y8 + 1 : Int32) (fun (x16 : Int32) => (C206 h15 y0 y1 y5 y6 y7 x16))))))))
theorem t_Mo_stored_206 {C206 : ja_H → Nat → Int32 → Int32 → Int32 → Int32 → Int32 → Option (Int32 × ja_H)} (k206 : ∀ (h : ja_H) (y0 : Nat) (y1 : Int32) (y5 : Int32) (y6 : Int32) (y7 : Int32) (y8 : Int32), ja_D ja_gI M_Mo_stored 206 [some (.ref y0), some (.int y1), none, none, none, some (.int y5), some (.int y6), some (.int y7), some (.int y8), none, none] [] h (C206 h y0 y1 y5 y6 y7 y8)) {h : ja_H} {y0 : Nat} {y1 : Int32} {y5 : Int32} {y6 : Int32} {y7 : Int32} {y8 : Int32} : ja_D ja_gI M_Mo_stored 206 [some (.ref y0), some (.int y1), none, none, none, some (.int y5), some (.int y6), some (.int y7), some (.int y8), none, none] [] h (q_Mo_stored_206 C206 h y0 y1 y5 y6 y7 y8) := by
  unfold q_Mo_stored_206
  refine jd_iload i_Mo_stored_206 rfl ?_
  refine jd_iload i_Mo_stored_208 rfl ?_
  refine jd_iload i_Mo_stored_210 rfl ?_
  refine jd_iadd i_Mo_stored_212 ?_
  refine jd_icmp_ge 234 i_Mo_stored_213 (by decide) ?_ ?_
  · refine jd_iload i_Mo_stored_234 rfl ?_
    refine jd_if_eq 284 i_Mo_stored_236 (by decide) ?_ ?_
    · exact jd_less (t_Mo_stored_284) trivial
    · refine jd_aload_n i_Mo_stored_239 rfl ?_
      refine jd_sipush 1024 i_Mo_stored_240 (by decide) ?_
      refine jd_bipush 11 i_Mo_stored_243 (by decide) ?_
      refine jd_iload i_Mo_stored_245 rfl ?_
      refine jd_bipush 8 i_Mo_stored_247 (by decide) ?_
      refine jd_idiv i_Mo_stored_249 ?_
      refine jd_iadd i_Mo_stored_250 ?_
      refine jd_aload_n i_Mo_stored_251 rfl ?_
      refine jd_iload_n i_Mo_stored_252 rfl ?_
      refine jd_aload_n i_Mo_stored_253 rfl ?_
      refine jd_iload_n i_Mo_stored_254 rfl ?_
      refine jd_callVI G_Mo_110 in_Mo_s se_Mo_s rfl (fun _ e => c_Mo_s e) rfl ⟨by decide, by decide⟩ rfl (Nat.le_of_ble_eq_true rfl) i_Mo_stored_255 (fun v2 h1 => ?_)
      refine jd_callVI G_Mo_140 in_Mo_is se_Mo_is rfl (fun _ e => c_Mo_is e) rfl ⟨by decide, by decide⟩ rfl (Nat.le_of_ble_eq_true rfl) i_Mo_stored_258 (fun v4 h3 => ?_)
      refine jd_aload_n i_Mo_stored_261 rfl ?_
      refine jd_iload_n i_Mo_stored_262 rfl ?_
      refine jd_aload_n i_Mo_stored_263 rfl ?_
      refine jd_iload_n i_Mo_stored_264 rfl ?_
      refine jd_callVI G_Mo_110 in_Mo_s se_Mo_s rfl (fun _ e => c_Mo_s e) rfl ⟨by decide, by decide⟩ rfl (Nat.le_of_ble_eq_true rfl) i_Mo_stored_265 (fun v6 h5 => ?_)
      refine jd_callVL G_Mo_148 in_Mo_least se_Mo_least rfl (fun _ e => c_Mo_least e) rfl ⟨by decide, by decide⟩ rfl (Nat.le_of_ble_eq_true rfl) i_Mo_stored_268 (fun v8 h7 => ?_)
      refine jd_aload_n i_Mo_stored_271 rfl ?_
      refine jd_iload_n i_Mo_stored_272 rfl ?_
      refine jd_aload_n i_Mo_stored_273 rfl ?_
      refine jd_iload_n i_Mo_stored_274 rfl ?_
      refine jd_callVI G_Mo_110 in_Mo_s se_Mo_s rfl (fun _ e => c_Mo_s e) rfl ⟨by decide, by decide⟩ rfl (Nat.le_of_ble_eq_true rfl) i_Mo_stored_275 (fun v10 h9 => ?_)
      refine jd_callVL G_Mo_152 in_Mo_most se_Mo_most rfl (fun _ e => c_Mo_most e) rfl ⟨by decide, by decide⟩ rfl (Nat.le_of_ble_eq_true rfl) i_Mo_stored_278 (fun v12 h11 => ?_)
      refine jd_callVV G_Mo_144 in_Mo_give se_Mo_give rfl (fun _ e => c_Mo_give e) rfl ⟨by decide, by decide⟩ rfl (Nat.le_of_ble_eq_true rfl) i_Mo_stored_281 (fun h13 => ?_)
      exact jd_less (t_Mo_stored_284) trivial
  · refine jd_aload_n i_Mo_stored_216 rfl ?_
    refine jd_getR F_Mo_40 i_Mo_stored_217 (fun a14 => ?_)
    refine jd_ldcw i_Mo_stored_220 K_Mo_256 ?_
    refine jd_iload i_Mo_stored_223 rfl ?_
    refine jd_iadd i_Mo_stored_225 ?_
    refine jd_iconst 1 i_Mo_stored_226 (by decide) ?_
    refine jd_zast i_Mo_stored_227 (fun h15 => ?_)
    refine jd_iinc (fun x16 => [some (.ref y0), some (.int y1), none, none, none, some (.int y5), some (.int y6), some (.int y7), some (.int x16), none, none]) i_Mo_stored_228 rfl rfl (by decide) rfl (fun _ => rfl) (fun x16 => ?_)
    refine jd_goto 206 i_Mo_stored_231 (by decide) ?_
    exact jd_less (k206 _ _ _ _ _ _ _) ⟨rfl, rfl, rfl, rfl, rfl, rfl, trivial⟩
noncomputable def r_Mo_stored_206 : Nat → ja_H → Nat → Int32 → Int32 → Int32 → Int32 → Int32 → Option (Int32 × ja_H) := ja_lo (q_Mo_stored_206) (fun _ _ _ _ _ _ _ => none)
theorem s_Mo_stored_206 : ∀ (n : Nat) (h : ja_H) (y0 : Nat) (y1 : Int32) (y5 : Int32) (y6 : Int32) (y7 : Int32) (y8 : Int32), ja_D ja_gI M_Mo_stored 206 [some (.ref y0), some (.int y1), none, none, none, some (.int y5), some (.int y6), some (.int y7), some (.int y8), none, none] [] h (r_Mo_stored_206 n h y0 y1 y5 y6 y7 y8) := by
  intro n
  induction n with
  | zero => intro h y0 y1 y5 y6 y7 y8 o e; cases e
  | succ n ih => intro h y0 y1 y5 y6 y7 y8; exact t_Mo_stored_206 ih
noncomputable def r_Mo_stored_184 (C115 : ja_H → Nat → Int32 → Int32 → Int32 → Int32 → Int32 → Option (Int32 × ja_H)) (h : ja_H) (y0 : Nat) (y1 : Int32) (y5 : Int32) (y6 : Int32) (y7 : Int32) (y8 : Int32) (y9 : Int32) : Option (Int32 × ja_H) := (jk h y0 9 (jc_V (r_Mo_give h y0 (1024 : Int32) y9 (0 : Int32) (0 : Int64) (0 : Int64)) (fun h1 => (jl (y8 + 1 : Int32) (fun (x2 : Int32) => (C115 h1 y0 y1 y5 y6 y7 x2))))))
theorem t_Mo_stored_184 {C115 : ja_H → Nat → Int32 → Int32 → Int32 → Int32 → Int32 → Option (Int32 × ja_H)} (k115 : ∀ (h : ja_H) (y0 : Nat) (y1 : Int32) (y5 : Int32) (y6 : Int32) (y7 : Int32) (y8 : Int32), ja_D ja_gI M_Mo_stored 115 [some (.ref y0), some (.int y1), none, none, none, some (.int y5), some (.int y6), some (.int y7), some (.int y8), none, none] [] h (C115 h y0 y1 y5 y6 y7 y8)) {h : ja_H} {y0 : Nat} {y1 : Int32} {y5 : Int32} {y6 : Int32} {y7 : Int32} {y8 : Int32} {y9 : Int32} : ja_D ja_gI M_Mo_stored 184 [some (.ref y0), some (.int y1), none, none, none, some (.int y5), some (.int y6), some (.int y7), some (.int y8), some (.int y9), none] [] h (r_Mo_stored_184 C115 h y0 y1 y5 y6 y7 y8 y9) := by
  unfold r_Mo_stored_184
  refine jd_aload_n i_Mo_stored_184 rfl ?_
  refine jd_sipush 1024 i_Mo_stored_185 (by decide) ?_
  refine jd_iload i_Mo_stored_188 rfl ?_
  refine jd_iconst 0 i_Mo_stored_190 (by decide) ?_
  refine jd_lconst 0 i_Mo_stored_191 (by decide) ?_
  refine jd_lconst 0 i_Mo_stored_192 (by decide) ?_
  refine jd_callVV G_Mo_144 in_Mo_give se_Mo_give rfl (fun _ e => c_Mo_give e) rfl ⟨by decide, by decide⟩ rfl (Nat.le_of_ble_eq_true rfl) i_Mo_stored_193 (fun h1 => ?_)
  refine jd_iinc (fun x2 => [some (.ref y0), some (.int y1), none, none, none, some (.int y5), some (.int y6), some (.int y7), some (.int x2), some (.int y9), none]) i_Mo_stored_196 rfl rfl (by decide) rfl (fun _ => rfl) (fun x2 => ?_)
  refine jd_goto 115 i_Mo_stored_199 (by decide) ?_
  exact jd_less (k115 _ _ _ _ _ _ _) ⟨rfl, rfl, rfl, rfl, rfl, rfl, trivial⟩
noncomputable def q_Mo_stored_150 (C115 : ja_H → Nat → Int32 → Int32 → Int32 → Int32 → Int32 → Option (Int32 × ja_H)) (C150 : ja_H → Nat → Int32 → Int32 → Int32 → Int32 → Int32 → Int32 → Int32 → Option (Int32 × ja_H)) (h : ja_H) (y0 : Nat) (y1 : Int32) (y5 : Int32) (y6 : Int32) (y7 : Int32) (y8 : Int32) (y9 : Int32) (y10 : Int32) : Option (Int32 × ja_H) := (if (8 : Int32) ≤ y10 then (r_Mo_stored_184 C115 h y0 y1 y5 y6 y7 y8 y9) else (jf_R h y0 9 13 (fun a1 => (js_Z h a1 (((524288 : Int32) + ((8 : Int32) * (y9 - (11 : Int32)))) + y10) (0 : Int32) (fun h2 => (jl (y10 + 1 : Int32) (fun (x3 : Int32) => (C150 h2 y0 y1 y5 y6 y7 y8 y9 x3))))))))
theorem t_Mo_stored_150 {C115 : ja_H → Nat → Int32 → Int32 → Int32 → Int32 → Int32 → Option (Int32 × ja_H)} {C150 : ja_H → Nat → Int32 → Int32 → Int32 → Int32 → Int32 → Int32 → Int32 → Option (Int32 × ja_H)} (k115 : ∀ (h : ja_H) (y0 : Nat) (y1 : Int32) (y5 : Int32) (y6 : Int32) (y7 : Int32) (y8 : Int32), ja_D ja_gI M_Mo_stored 115 [some (.ref y0), some (.int y1), none, none, none, some (.int y5), some (.int y6), some (.int y7), some (.int y8), none, none] [] h (C115 h y0 y1 y5 y6 y7 y8)) (k150 : ∀ (h : ja_H) (y0 : Nat) (y1 : Int32) (y5 : Int32) (y6 : Int32) (y7 : Int32) (y8 : Int32) (y9 : Int32) (y10 : Int32), ja_D ja_gI M_Mo_stored 150 [some (.ref y0), some (.int y1), none, none, none, some (.int y5), some (.int y6), some (.int y7), some (.int y8), some (.int y9), some (.int y10)] [] h (C150 h y0 y1 y5 y6 y7 y8 y9 y10)) {h : ja_H} {y0 : Nat} {y1 : Int32} {y5 : Int32} {y6 : Int32} {y7 : Int32} {y8 : Int32} {y9 : Int32} {y10 : Int32} : ja_D ja_gI M_Mo_stored 150 [some (.ref y0), some (.int y1), none, none, none, some (.int y5), some (.int y6), some (.int y7), some (.int y8), some (.int y9), some (.int y10)] [] h (q_Mo_stored_150 C115 C150 h y0 y1 y5 y6 y7 y8 y9 y10) := by
  unfold q_Mo_stored_150
  refine jd_iload i_Mo_stored_150 rfl ?_
  refine jd_bipush 8 i_Mo_stored_152 (by decide) ?_
  refine jd_icmp_ge 184 i_Mo_stored_154 (by decide) ?_ ?_
  · exact jd_less (t_Mo_stored_184 k115) ⟨rfl, rfl, rfl, rfl, rfl, rfl, rfl, trivial⟩
  · refine jd_aload_n i_Mo_stored_157 rfl ?_
    refine jd_getR F_Mo_40 i_Mo_stored_158 (fun a1 => ?_)
    refine jd_ldcw i_Mo_stored_161 K_Mo_256 ?_
    refine jd_bipush 8 i_Mo_stored_164 (by decide) ?_
    refine jd_iload i_Mo_stored_166 rfl ?_
    refine jd_bipush 11 i_Mo_stored_168 (by decide) ?_
    refine jd_isub i_Mo_stored_170 ?_
    refine jd_imul i_Mo_stored_171 ?_
    refine jd_iadd i_Mo_stored_172 ?_
    refine jd_iload i_Mo_stored_173 rfl ?_
    refine jd_iadd i_Mo_stored_175 ?_
    refine jd_iconst 0 i_Mo_stored_176 (by decide) ?_
    refine jd_zast i_Mo_stored_177 (fun h2 => ?_)
    refine jd_iinc (fun x3 => [some (.ref y0), some (.int y1), none, none, none, some (.int y5), some (.int y6), some (.int y7), some (.int y8), some (.int y9), some (.int x3)]) i_Mo_stored_178 rfl rfl (by decide) rfl (fun _ => rfl) (fun x3 => ?_)
    refine jd_goto 150 i_Mo_stored_181 (by decide) ?_
    exact jd_less (k150 _ _ _ _ _ _ _ _ _) ⟨rfl, rfl, rfl, rfl, rfl, rfl, rfl, rfl, trivial⟩
noncomputable def r_Mo_stored_150 (C115 : ja_H → Nat → Int32 → Int32 → Int32 → Int32 → Int32 → Option (Int32 × ja_H)) : Nat → ja_H → Nat → Int32 → Int32 → Int32 → Int32 → Int32 → Int32 → Int32 → Option (Int32 × ja_H) := ja_lo (q_Mo_stored_150 C115) (fun _ _ _ _ _ _ _ _ _ => none)
theorem s_Mo_stored_150 {C115 : ja_H → Nat → Int32 → Int32 → Int32 → Int32 → Int32 → Option (Int32 × ja_H)} (k115 : ∀ (h : ja_H) (y0 : Nat) (y1 : Int32) (y5 : Int32) (y6 : Int32) (y7 : Int32) (y8 : Int32), ja_D ja_gI M_Mo_stored 115 [some (.ref y0), some (.int y1), none, none, none, some (.int y5), some (.int y6), some (.int y7), some (.int y8), none, none] [] h (C115 h y0 y1 y5 y6 y7 y8)) : ∀ (n : Nat) (h : ja_H) (y0 : Nat) (y1 : Int32) (y5 : Int32) (y6 : Int32) (y7 : Int32) (y8 : Int32) (y9 : Int32) (y10 : Int32), ja_D ja_gI M_Mo_stored 150 [some (.ref y0), some (.int y1), none, none, none, some (.int y5), some (.int y6), some (.int y7), some (.int y8), some (.int y9), some (.int y10)] [] h (r_Mo_stored_150 C115 n h y0 y1 y5 y6 y7 y8 y9 y10) := by
  intro n
  induction n with
  | zero => intro h y0 y1 y5 y6 y7 y8 y9 y10 o e; cases e
  | succ n ih => intro h y0 y1 y5 y6 y7 y8 y9 y10; exact t_Mo_stored_150 k115 ih
noncomputable def q_Mo_stored_115 (C115 : ja_H → Nat → Int32 → Int32 → Int32 → Int32 → Int32 → Option (Int32 × ja_H)) (h : ja_H) (y0 : Nat) (y1 : Int32) (y5 : Int32) (y6 : Int32) (y7 : Int32) (y8 : Int32) : Option (Int32 × ja_H) := (if (y6 + y5) ≤ y8 then (jl (y6 : Int32) (fun (x1 : Int32) => (r_Mo_stored_206 ja_fu h y0 y1 y5 y6 y7 x1))) else (jz_I (8 : Int32) (jl (((11 : Int32) + (y8 / (8 : Int32))) : Int32) (fun (x2 : Int32) => (jk h y0 9 (jc_I (r_Mo_pointer h y0 (1024 : Int32) x2) (fun v4 h3 => (if v4 = (0 : Int32) then (r_Mo_stored_184 C115 h3 y0 y1 y5 y6 y7 y8 x2) else (jl ((0 : Int32) : Int32) (fun (x5 : Int32) => (r_Mo_stored_150 C115 ja_fu h3 y0 y1 y5 y6 y7 y8 x2 x5)))))))))))
theorem t_Mo_stored_115 {C115 : ja_H → Nat → Int32 → Int32 → Int32 → Int32 → Int32 → Option (Int32 × ja_H)} (k115 : ∀ (h : ja_H) (y0 : Nat) (y1 : Int32) (y5 : Int32) (y6 : Int32) (y7 : Int32) (y8 : Int32), ja_D ja_gI M_Mo_stored 115 [some (.ref y0), some (.int y1), none, none, none, some (.int y5), some (.int y6), some (.int y7), some (.int y8), none, none] [] h (C115 h y0 y1 y5 y6 y7 y8)) {h : ja_H} {y0 : Nat} {y1 : Int32} {y5 : Int32} {y6 : Int32} {y7 : Int32} {y8 : Int32} : ja_D ja_gI M_Mo_stored 115 [some (.ref y0), some (.int y1), none, none, none, some (.int y5), some (.int y6), some (.int y7), some (.int y8), none, none] [] h (q_Mo_stored_115 C115 h y0 y1 y5 y6 y7 y8) := by
  unfold q_Mo_stored_115
  refine jd_iload i_Mo_stored_115 rfl ?_
  refine jd_iload i_Mo_stored_117 rfl ?_
  refine jd_iload i_Mo_stored_119 rfl ?_
  refine jd_iadd i_Mo_stored_121 ?_
  refine jd_icmp_ge 202 i_Mo_stored_122 (by decide) ?_ ?_
  · refine jd_iload i_Mo_stored_202 rfl ?_
    refine jd_istore (fun x1 => [some (.ref y0), some (.int y1), none, none, none, some (.int y5), some (.int y6), some (.int y7), some (.int x1), none, none]) i_Mo_stored_204 (by decide) rfl (fun _ => rfl) (fun x1 => ?_)
    exact jd_less (s_Mo_stored_206 ja_fu _ _ _ _ _ _ _) ⟨rfl, rfl, rfl, rfl, rfl, rfl, trivial⟩
  · refine jd_bipush 11 i_Mo_stored_125 (by decide) ?_
    refine jd_iload i_Mo_stored_127 rfl ?_
    refine jd_bipush 8 i_Mo_stored_129 (by decide) ?_
    refine jd_idiv i_Mo_stored_131 ?_
    refine jd_iadd i_Mo_stored_132 ?_
    refine jd_istore (fun x2 => [some (.ref y0), some (.int y1), none, none, none, some (.int y5), some (.int y6), some (.int y7), some (.int y8), some (.int x2), none]) i_Mo_stored_133 (by decide) rfl (fun _ => rfl) (fun x2 => ?_)
    refine jd_aload_n i_Mo_stored_135 rfl ?_
    refine jd_sipush 1024 i_Mo_stored_136 (by decide) ?_
    refine jd_iload i_Mo_stored_139 rfl ?_
    refine jd_callVI G_Mo_159 in_Mo_pointer se_Mo_pointer rfl (fun _ e => c_Mo_pointer e) rfl ⟨by decide, by decide⟩ rfl (Nat.le_of_ble_eq_true rfl) i_Mo_stored_141 (fun v4 h3 => ?_)
    refine jd_if_eq 184 i_Mo_stored_144 (by decide) ?_ ?_
    · exact jd_less (t_Mo_stored_184 k115) ⟨rfl, rfl, rfl, rfl, rfl, rfl, rfl, trivial⟩
    · refine jd_iconst 0 i_Mo_stored_147 (by decide) ?_
      refine jd_istore (fun x5 => [some (.ref y0), some (.int y1), none, none, none, some (.int y5), some (.int y6), some (.int y7), some (.int y8), some (.int x2), some (.int x5)]) i_Mo_stored_148 (by decide) rfl (fun _ => rfl) (fun x5 => ?_)
      exact jd_less (s_Mo_stored_150 k115 ja_fu _ _ _ _ _ _ _ _ _) ⟨rfl, rfl, rfl, rfl, rfl, rfl, rfl, rfl, trivial⟩
noncomputable def r_Mo_stored_115 : Nat → ja_H → Nat → Int32 → Int32 → Int32 → Int32 → Int32 → Option (Int32 × ja_H) := ja_lo (q_Mo_stored_115) (fun _ _ _ _ _ _ _ => none)
theorem s_Mo_stored_115 : ∀ (n : Nat) (h : ja_H) (y0 : Nat) (y1 : Int32) (y5 : Int32) (y6 : Int32) (y7 : Int32) (y8 : Int32), ja_D ja_gI M_Mo_stored 115 [some (.ref y0), some (.int y1), none, none, none, some (.int y5), some (.int y6), some (.int y7), some (.int y8), none, none] [] h (r_Mo_stored_115 n h y0 y1 y5 y6 y7 y8) := by
  intro n
  induction n with
  | zero => intro h y0 y1 y5 y6 y7 y8 o e; cases e
  | succ n ih => intro h y0 y1 y5 y6 y7 y8; exact t_Mo_stored_115 ih
noncomputable def r_Mo_stored_111 (h : ja_H) (y0 : Nat) (y1 : Int32) (y5 : Int32) (y6 : Int32) (y7 : Int32) : Option (Int32 × ja_H) := (jl (y6 : Int32) (fun (x1 : Int32) => (r_Mo_stored_115 ja_fu h y0 y1 y5 y6 y7 x1)))
theorem t_Mo_stored_111 {h : ja_H} {y0 : Nat} {y1 : Int32} {y5 : Int32} {y6 : Int32} {y7 : Int32} : ja_D ja_gI M_Mo_stored 111 [some (.ref y0), some (.int y1), none, none, none, some (.int y5), some (.int y6), some (.int y7), none, none, none] [] h (r_Mo_stored_111 h y0 y1 y5 y6 y7) := by
  unfold r_Mo_stored_111
  refine jd_iload i_Mo_stored_111 rfl ?_
  refine jd_istore (fun x1 => [some (.ref y0), some (.int y1), none, none, none, some (.int y5), some (.int y6), some (.int y7), some (.int x1), none, none]) i_Mo_stored_113 (by decide) rfl (fun _ => rfl) (fun x1 => ?_)
  exact jd_less (s_Mo_stored_115 ja_fu _ _ _ _ _ _ _) ⟨rfl, rfl, rfl, rfl, rfl, rfl, trivial⟩
noncomputable def r_Mo_stored_81 (h : ja_H) (y0 : Nat) (y1 : Int32) (y2 : Int32) (y5 : Int32) (y6 : Int32) (z0 : Int32) : Option (Int32 × ja_H) := (jl (z0 : Int32) (fun (x1 : Int32) => (jc_I (r_Mo_stores h y2) (fun v3 h2 => (if v3 = (0 : Int32) then (r_Mo_stored_111 h2 y0 y1 y5 y6 x1) else (jk h2 y0 9 (jc_I (r_Mo_s h2 y0 y1) (fun v5 h4 => (jk h4 y0 9 (jc_I (r_Mo_pointer h4 y0 y1 v5) (fun v7 h6 => (if v7 = (0 : Int32) then (r_Mo_stored_111 h6 y0 y1 y5 y6 x1) else (if x1 = (0 : Int32) then (some ((13 : Int32), h6)) else (r_Mo_stored_111 h6 y0 y1 y5 y6 x1))))))))))))))
theorem t_Mo_stored_81 {h : ja_H} {y0 : Nat} {y1 : Int32} {y2 : Int32} {y5 : Int32} {y6 : Int32} {z0 : Int32} : ja_D ja_gI M_Mo_stored 81 [some (.ref y0), some (.int y1), some (.int y2), none, none, some (.int y5), some (.int y6), none, none, none, none] [.int z0] h (r_Mo_stored_81 h y0 y1 y2 y5 y6 z0) := by
  unfold r_Mo_stored_81
  refine jd_istore (fun x1 => [some (.ref y0), some (.int y1), some (.int y2), none, none, some (.int y5), some (.int y6), some (.int x1), none, none, none]) i_Mo_stored_81 (by decide) rfl (fun _ => rfl) (fun x1 => ?_)
  refine jd_iload_n i_Mo_stored_83 rfl ?_
  refine jd_callSI G_Mo_86 sc_Mo_stores (fun _ e => c_Mo_stores e) rfl ⟨by decide, by decide⟩ rfl (Nat.le_of_ble_eq_true rfl) i_Mo_stored_84 (fun v3 h2 => ?_)
  refine jd_if_eq 111 i_Mo_stored_87 (by decide) ?_ ?_
  · exact jd_less (t_Mo_stored_111) ⟨rfl, rfl, rfl, rfl, rfl, trivial⟩
  · refine jd_aload_n i_Mo_stored_90 rfl ?_
    refine jd_iload_n i_Mo_stored_91 rfl ?_
    refine jd_aload_n i_Mo_stored_92 rfl ?_
    refine jd_iload_n i_Mo_stored_93 rfl ?_
    refine jd_callVI G_Mo_110 in_Mo_s se_Mo_s rfl (fun _ e => c_Mo_s e) rfl ⟨by decide, by decide⟩ rfl (Nat.le_of_ble_eq_true rfl) i_Mo_stored_94 (fun v5 h4 => ?_)
    refine jd_callVI G_Mo_159 in_Mo_pointer se_Mo_pointer rfl (fun _ e => c_Mo_pointer e) rfl ⟨by decide, by decide⟩ rfl (Nat.le_of_ble_eq_true rfl) i_Mo_stored_97 (fun v7 h6 => ?_)
    refine jd_if_eq 111 i_Mo_stored_100 (by decide) ?_ ?_
    · exact jd_less (t_Mo_stored_111) ⟨rfl, rfl, rfl, rfl, rfl, trivial⟩
    · refine jd_iload i_Mo_stored_103 rfl ?_
      refine jd_if_ne 111 i_Mo_stored_105 (by decide) ?_ ?_
      · exact jd_less (t_Mo_stored_111) ⟨rfl, rfl, rfl, rfl, rfl, trivial⟩
      · refine jd_bipush 13 i_Mo_stored_108 (by decide) ?_
        exact jd_ireturn i_Mo_stored_110 rfl
noncomputable def r_Mo_stored_80 (h : ja_H) (y0 : Nat) (y1 : Int32) (y2 : Int32) (y5 : Int32) (y6 : Int32) : Option (Int32 × ja_H) := (r_Mo_stored_81 h y0 y1 y2 y5 y6 (0 : Int32))
theorem t_Mo_stored_80 {h : ja_H} {y0 : Nat} {y1 : Int32} {y2 : Int32} {y5 : Int32} {y6 : Int32} : ja_D ja_gI M_Mo_stored 80 [some (.ref y0), some (.int y1), some (.int y2), none, none, some (.int y5), some (.int y6), none, none, none, none] [] h (r_Mo_stored_80 h y0 y1 y2 y5 y6) := by
  unfold r_Mo_stored_80
  refine jd_iconst 0 i_Mo_stored_80 (by decide) ?_
  exact jd_less (t_Mo_stored_81) ⟨rfl, rfl, rfl, rfl, rfl, trivial⟩
noncomputable def r_Mo_stored (h : ja_H) (a0 : Nat) (a1 : Int32) : Option (Int32 × ja_H) := (jk h a0 9 (jc_I (r_Mo_op h a0 a1) (fun v102 h101 => (jl (v102 : Int32) (fun (x103 : Int32) => (jk h101 a0 9 (jc_I (r_Mo_d h101 a0 a1) (fun v105 h104 => (jl (v105 : Int32) (fun (x106 : Int32) => (jk h104 a0 9 (jc_I (r_Mo_access h104 a0 a1 x106 (1 : Int32)) (fun v108 h107 => (jl (v108 : Int32) (fun (x109 : Int32) => (jc_I (r_Mo_size h107 x103) (fun v111 h110 => (jl (v111 : Int32) (fun (x112 : Int32) => (if x109 = (0 : Int32) then (jk h110 a0 9 (jc_L (r_Mo_least h110 a0 a1 x106) (fun v114 h113 => (jk h113 a0 9 (jc_I (r_Mo_off h113 a0 a1) (fun v116 h115 => (jl ((((Int64.toInt32 v114) + v116) + (512 : Int32)) : Int32) (fun (x117 : Int32) => (jc_I (r_Mo_stores h115 x103) (fun v119 h118 => (if v119 = (0 : Int32) then (r_Mo_stored_80 h118 a0 a1 x103 x112 x117) else (if x112 = (8 : Int32) then (jz_I (8 : Int32) (if (x117 - x117 / (8 : Int32) * (8 : Int32)) = (0 : Int32) then (r_Mo_stored_81 h118 a0 a1 x103 x112 x117 (1 : Int32)) else (r_Mo_stored_80 h118 a0 a1 x103 x112 x117))) else (r_Mo_stored_80 h118 a0 a1 x103 x112 x117))))))))))))) else (some (x109, h110))))))))))))))))))))))
theorem e_Mo_stored {h : ja_H} {a0 : Nat} {a1 : Int32} : ja_D ja_gI M_Mo_stored 0 [some (.ref a0), some (.int a1), none, none, none, none, none, none, none, none, none] [] h (r_Mo_stored h a0 a1) := by
  unfold r_Mo_stored
  refine jd_aload_n i_Mo_stored_0 rfl ?_
  refine jd_iload_n i_Mo_stored_1 rfl ?_
  refine jd_callVI G_Mo_78 in_Mo_op se_Mo_op rfl (fun _ e => c_Mo_op e) rfl ⟨by decide, by decide⟩ rfl (Nat.le_of_ble_eq_true rfl) i_Mo_stored_2 (fun v102 h101 => ?_)
  refine jd_istore_n (fun x103 => [some (.ref a0), some (.int a1), some (.int x103), none, none, none, none, none, none, none, none]) i_Mo_stored_5 (by decide) rfl (fun _ => rfl) (fun x103 => ?_)
  refine jd_aload_n i_Mo_stored_6 rfl ?_
  refine jd_iload_n i_Mo_stored_7 rfl ?_
  refine jd_callVI G_Mo_107 in_Mo_d se_Mo_d rfl (fun _ e => c_Mo_d e) rfl ⟨by decide, by decide⟩ rfl (Nat.le_of_ble_eq_true rfl) i_Mo_stored_8 (fun v105 h104 => ?_)
  refine jd_istore_n (fun x106 => [some (.ref a0), some (.int a1), some (.int x103), some (.int x106), none, none, none, none, none, none, none]) i_Mo_stored_11 (by decide) rfl (fun _ => rfl) (fun x106 => ?_)
  refine jd_aload_n i_Mo_stored_12 rfl ?_
  refine jd_iload_n i_Mo_stored_13 rfl ?_
  refine jd_iload_n i_Mo_stored_14 rfl ?_
  refine jd_iconst 1 i_Mo_stored_15 (by decide) ?_
  refine jd_callVI G_Mo_252 in_Mo_access se_Mo_access rfl (fun _ e => c_Mo_access e) rfl ⟨by decide, by decide⟩ rfl (Nat.le_of_ble_eq_true rfl) i_Mo_stored_16 (fun v108 h107 => ?_)
  refine jd_istore (fun x109 => [some (.ref a0), some (.int a1), some (.int x103), some (.int x106), some (.int x109), none, none, none, none, none, none]) i_Mo_stored_19 (by decide) rfl (fun _ => rfl) (fun x109 => ?_)
  refine jd_iload_n i_Mo_stored_21 rfl ?_
  refine jd_callSI G_Mo_247 sc_Mo_size (fun _ e => c_Mo_size e) rfl ⟨by decide, by decide⟩ rfl (Nat.le_of_ble_eq_true rfl) i_Mo_stored_22 (fun v111 h110 => ?_)
  refine jd_istore (fun x112 => [some (.ref a0), some (.int a1), some (.int x103), some (.int x106), some (.int x109), some (.int x112), none, none, none, none, none]) i_Mo_stored_25 (by decide) rfl (fun _ => rfl) (fun x112 => ?_)
  refine jd_iload i_Mo_stored_27 rfl ?_
  refine jd_if_eq 35 i_Mo_stored_29 (by decide) ?_ ?_
  · refine jd_aload_n i_Mo_stored_35 rfl ?_
    refine jd_iload_n i_Mo_stored_36 rfl ?_
    refine jd_iload_n i_Mo_stored_37 rfl ?_
    refine jd_callVL G_Mo_148 in_Mo_least se_Mo_least rfl (fun _ e => c_Mo_least e) rfl ⟨by decide, by decide⟩ rfl (Nat.le_of_ble_eq_true rfl) i_Mo_stored_38 (fun v114 h113 => ?_)
    refine jd_l2i i_Mo_stored_41 ?_
    refine jd_aload_n i_Mo_stored_42 rfl ?_
    refine jd_iload_n i_Mo_stored_43 rfl ?_
    refine jd_callVI G_Mo_119 in_Mo_off se_Mo_off rfl (fun _ e => c_Mo_off e) rfl ⟨by decide, by decide⟩ rfl (Nat.le_of_ble_eq_true rfl) i_Mo_stored_44 (fun v116 h115 => ?_)
    refine jd_iadd i_Mo_stored_47 ?_
    refine jd_sipush 512 i_Mo_stored_48 (by decide) ?_
    refine jd_iadd i_Mo_stored_51 ?_
    refine jd_istore (fun x117 => [some (.ref a0), some (.int a1), some (.int x103), some (.int x106), some (.int x109), some (.int x112), some (.int x117), none, none, none, none]) i_Mo_stored_52 (by decide) rfl (fun _ => rfl) (fun x117 => ?_)
    refine jd_iload_n i_Mo_stored_54 rfl ?_
    refine jd_callSI G_Mo_86 sc_Mo_stores (fun _ e => c_Mo_stores e) rfl ⟨by decide, by decide⟩ rfl (Nat.le_of_ble_eq_true rfl) i_Mo_stored_55 (fun v119 h118 => ?_)
    refine jd_if_eq 80 i_Mo_stored_58 (by decide) ?_ ?_
    · exact jd_less (t_Mo_stored_80) ⟨rfl, rfl, rfl, rfl, rfl, trivial⟩
    · refine jd_iload i_Mo_stored_61 rfl ?_
      refine jd_bipush 8 i_Mo_stored_63 (by decide) ?_
      refine jd_icmp_ne 80 i_Mo_stored_65 (by decide) ?_ ?_
      · exact jd_less (t_Mo_stored_80) ⟨rfl, rfl, rfl, rfl, rfl, trivial⟩
      · refine jd_iload i_Mo_stored_68 rfl ?_
        refine jd_bipush 8 i_Mo_stored_70 (by decide) ?_
        refine jd_irem i_Mo_stored_72 ?_
        refine jd_if_ne 80 i_Mo_stored_73 (by decide) ?_ ?_
        · exact jd_less (t_Mo_stored_80) ⟨rfl, rfl, rfl, rfl, rfl, trivial⟩
        · refine jd_iconst 1 i_Mo_stored_76 (by decide) ?_
          refine jd_goto 81 i_Mo_stored_77 (by decide) ?_
          exact jd_less (t_Mo_stored_81) ⟨rfl, rfl, rfl, rfl, rfl, trivial⟩
  · refine jd_iload i_Mo_stored_32 rfl ?_
    exact jd_ireturn i_Mo_stored_34 rfl
theorem c_Mo_stored {h : ja_H} {a0 : Nat} {a1 : Int32} {o : Int32 × ja_H} (e : r_Mo_stored h a0 a1 = some o) : ja_M (2, 51) y_Mo_stored b_Mo_stored 11 (some .int) [.ref a0, .int a1] h [.int o.1] o.2 := jc_of (g := ja_gI) false _ e e_Mo_stored rfl (by decide +kernel) (fun q => nomatch q) (Nat.le_of_ble_eq_true rfl) (fun _ q => nomatch q) (Nat.le_of_ble_eq_true rfl)
noncomputable def r_Lg_divideUnsigned (h : ja_H) (a0 : Int64) (a2 : Int64) : Option (Int64 × ja_H) := (if a2 < (0 : Int64) then (some ((UInt64.toInt64 (Int64.toUInt64 (a0 &&& ((a0 - a2) ^^^ (-1 : Int64))) >>> (Int64.toUInt64 (Int32.toInt64 (63 : Int32)) &&& Int64.toUInt64 63))), h)) else (jz_L a2 (jl ((((UInt64.toInt64 (Int64.toUInt64 a0 >>> (Int64.toUInt64 (Int32.toInt64 (1 : Int32)) &&& Int64.toUInt64 63))) / a2) <<< (Int32.toInt64 (1 : Int32) &&& 63)) : Int64) (fun (x101 : Int64) => (jl ((a0 - (x101 * a2)) : Int64) (fun (x102 : Int64) => (some ((x101 + (UInt64.toInt64 (Int64.toUInt64 (x102 ||| ((x102 - a2) ^^^ (-1 : Int64))) >>> (Int64.toUInt64 (Int32.toInt64 (63 : Int32)) &&& Int64.toUInt64 63)))), h))))))))
theorem e_Lg_divideUnsigned {h : ja_H} {a0 : Int64} {a2 : Int64} : ja_D ja_gL M_Lg_divideUnsigned 0 [some (.long a0), none, some (.long a2), none, none, none, none, none] [] h (r_Lg_divideUnsigned h a0 a2) := by
  unfold r_Lg_divideUnsigned
  refine jd_lload_n i_Lg_divideUnsigned_0 rfl ?_
  refine jd_lconst 0 i_Lg_divideUnsigned_1 (by decide) ?_
  refine jd_lcmp_lt 41 i_Lg_divideUnsigned_2 i_Lg_divideUnsigned_3 (by decide) ?_ ?_
  · refine jd_lload_n i_Lg_divideUnsigned_41 rfl ?_
    refine jd_lload_n i_Lg_divideUnsigned_42 rfl ?_
    refine jd_lload_n i_Lg_divideUnsigned_43 rfl ?_
    refine jd_lsub i_Lg_divideUnsigned_44 ?_
    refine jd_ldc2 i_Lg_divideUnsigned_45 K_Lg_306 ?_
    refine jd_lxor i_Lg_divideUnsigned_48 ?_
    refine jd_land i_Lg_divideUnsigned_49 ?_
    refine jd_bipush 63 i_Lg_divideUnsigned_50 (by decide) ?_
    refine jd_lushr i_Lg_divideUnsigned_52 ?_
    exact jd_lreturn i_Lg_divideUnsigned_53 rfl
  · refine jd_lload_n i_Lg_divideUnsigned_6 rfl ?_
    refine jd_iconst 1 i_Lg_divideUnsigned_7 (by decide) ?_
    refine jd_lushr i_Lg_divideUnsigned_8 ?_
    refine jd_lload_n i_Lg_divideUnsigned_9 rfl ?_
    refine jd_ldiv i_Lg_divideUnsigned_10 ?_
    refine jd_iconst 1 i_Lg_divideUnsigned_11 (by decide) ?_
    refine jd_lshl i_Lg_divideUnsigned_12 ?_
    refine jd_lstore (fun x101 => [some (.long a0), none, some (.long a2), none, some (.long x101), none, none, none]) i_Lg_divideUnsigned_13 (by decide) rfl (fun _ => rfl) (fun x101 => ?_)
    refine jd_lload_n i_Lg_divideUnsigned_15 rfl ?_
    refine jd_lload i_Lg_divideUnsigned_16 rfl ?_
    refine jd_lload_n i_Lg_divideUnsigned_18 rfl ?_
    refine jd_lmul i_Lg_divideUnsigned_19 ?_
    refine jd_lsub i_Lg_divideUnsigned_20 ?_
    refine jd_lstore (fun x102 => [some (.long a0), none, some (.long a2), none, some (.long x101), none, some (.long x102), none]) i_Lg_divideUnsigned_21 (by decide) rfl (fun _ => rfl) (fun x102 => ?_)
    refine jd_lload i_Lg_divideUnsigned_23 rfl ?_
    refine jd_lload i_Lg_divideUnsigned_25 rfl ?_
    refine jd_lload i_Lg_divideUnsigned_27 rfl ?_
    refine jd_lload_n i_Lg_divideUnsigned_29 rfl ?_
    refine jd_lsub i_Lg_divideUnsigned_30 ?_
    refine jd_ldc2 i_Lg_divideUnsigned_31 K_Lg_306 ?_
    refine jd_lxor i_Lg_divideUnsigned_34 ?_
    refine jd_lor i_Lg_divideUnsigned_35 ?_
    refine jd_bipush 63 i_Lg_divideUnsigned_36 (by decide) ?_
    refine jd_lushr i_Lg_divideUnsigned_38 ?_
    refine jd_ladd i_Lg_divideUnsigned_39 ?_
    exact jd_lreturn i_Lg_divideUnsigned_40 rfl
theorem c_Lg_divideUnsigned {h : ja_H} {a0 : Int64} {a2 : Int64} {o : Int64 × ja_H} (e : r_Lg_divideUnsigned h a0 a2 = some o) : ja_M (0, 0) y_Lg_divideUnsigned b_Lg_divideUnsigned 8 (some .long) [.long a0, .long a2] h [.long o.1] o.2 := jc_of (g := ja_gL) false _ e e_Lg_divideUnsigned rfl (by decide +kernel) (fun q => nomatch q) (Nat.le_of_ble_eq_true rfl) (fun _ q => nomatch q) (Nat.le_of_ble_eq_true rfl)
noncomputable def r_Lg_remainderUnsigned (h : ja_H) (a0 : Int64) (a2 : Int64) : Option (Int64 × ja_H) := (if a2 < (0 : Int64) then (some ((a0 - (((a0 &&& ((a0 - a2) ^^^ (-1 : Int64))) >>> (Int32.toInt64 (63 : Int32) &&& 63)) &&& a2)), h)) else (jz_L a2 (jl ((((UInt64.toInt64 (Int64.toUInt64 a0 >>> (Int64.toUInt64 (Int32.toInt64 (1 : Int32)) &&& Int64.toUInt64 63))) / a2) <<< (Int32.toInt64 (1 : Int32) &&& 63)) : Int64) (fun (x101 : Int64) => (jl ((a0 - (x101 * a2)) : Int64) (fun (x102 : Int64) => (some ((x102 - ((((x102 - a2) ^^^ (-1 : Int64)) >>> (Int32.toInt64 (63 : Int32) &&& 63)) &&& a2)), h))))))))
theorem e_Lg_remainderUnsigned {h : ja_H} {a0 : Int64} {a2 : Int64} : ja_D ja_gL M_Lg_remainderUnsigned 0 [some (.long a0), none, some (.long a2), none, none, none, none, none] [] h (r_Lg_remainderUnsigned h a0 a2) := by
  unfold r_Lg_remainderUnsigned
  refine jd_lload_n i_Lg_remainderUnsigned_0 rfl ?_
  refine jd_lconst 0 i_Lg_remainderUnsigned_1 (by decide) ?_
  refine jd_lcmp_lt 40 i_Lg_remainderUnsigned_2 i_Lg_remainderUnsigned_3 (by decide) ?_ ?_
  · refine jd_lload_n i_Lg_remainderUnsigned_40 rfl ?_
    refine jd_lload_n i_Lg_remainderUnsigned_41 rfl ?_
    refine jd_lload_n i_Lg_remainderUnsigned_42 rfl ?_
    refine jd_lload_n i_Lg_remainderUnsigned_43 rfl ?_
    refine jd_lsub i_Lg_remainderUnsigned_44 ?_
    refine jd_ldc2 i_Lg_remainderUnsigned_45 K_Lg_306 ?_
    refine jd_lxor i_Lg_remainderUnsigned_48 ?_
    refine jd_land i_Lg_remainderUnsigned_49 ?_
    refine jd_bipush 63 i_Lg_remainderUnsigned_50 (by decide) ?_
    refine jd_lshr i_Lg_remainderUnsigned_52 ?_
    refine jd_lload_n i_Lg_remainderUnsigned_53 rfl ?_
    refine jd_land i_Lg_remainderUnsigned_54 ?_
    refine jd_lsub i_Lg_remainderUnsigned_55 ?_
    exact jd_lreturn i_Lg_remainderUnsigned_56 rfl
  · refine jd_lload_n i_Lg_remainderUnsigned_6 rfl ?_
    refine jd_iconst 1 i_Lg_remainderUnsigned_7 (by decide) ?_
    refine jd_lushr i_Lg_remainderUnsigned_8 ?_
    refine jd_lload_n i_Lg_remainderUnsigned_9 rfl ?_
    refine jd_ldiv i_Lg_remainderUnsigned_10 ?_
    refine jd_iconst 1 i_Lg_remainderUnsigned_11 (by decide) ?_
    refine jd_lshl i_Lg_remainderUnsigned_12 ?_
    refine jd_lstore (fun x101 => [some (.long a0), none, some (.long a2), none, some (.long x101), none, none, none]) i_Lg_remainderUnsigned_13 (by decide) rfl (fun _ => rfl) (fun x101 => ?_)
    refine jd_lload_n i_Lg_remainderUnsigned_15 rfl ?_
    refine jd_lload i_Lg_remainderUnsigned_16 rfl ?_
    refine jd_lload_n i_Lg_remainderUnsigned_18 rfl ?_
    refine jd_lmul i_Lg_remainderUnsigned_19 ?_
    refine jd_lsub i_Lg_remainderUnsigned_20 ?_
    refine jd_lstore (fun x102 => [some (.long a0), none, some (.long a2), none, some (.long x101), none, some (.long x102), none]) i_Lg_remainderUnsigned_21 (by decide) rfl (fun _ => rfl) (fun x102 => ?_)
    refine jd_lload i_Lg_remainderUnsigned_23 rfl ?_
    refine jd_lload i_Lg_remainderUnsigned_25 rfl ?_
    refine jd_lload_n i_Lg_remainderUnsigned_27 rfl ?_
    refine jd_lsub i_Lg_remainderUnsigned_28 ?_
    refine jd_ldc2 i_Lg_remainderUnsigned_29 K_Lg_306 ?_
    refine jd_lxor i_Lg_remainderUnsigned_32 ?_
    refine jd_bipush 63 i_Lg_remainderUnsigned_33 (by decide) ?_
    refine jd_lshr i_Lg_remainderUnsigned_35 ?_
    refine jd_lload_n i_Lg_remainderUnsigned_36 rfl ?_
    refine jd_land i_Lg_remainderUnsigned_37 ?_
    refine jd_lsub i_Lg_remainderUnsigned_38 ?_
    exact jd_lreturn i_Lg_remainderUnsigned_39 rfl
theorem c_Lg_remainderUnsigned {h : ja_H} {a0 : Int64} {a2 : Int64} {o : Int64 × ja_H} (e : r_Lg_remainderUnsigned h a0 a2 = some o) : ja_M (0, 0) y_Lg_remainderUnsigned b_Lg_remainderUnsigned 8 (some .long) [.long a0, .long a2] h [.long o.1] o.2 := jc_of (g := ja_gL) false _ e e_Lg_remainderUnsigned rfl (by decide +kernel) (fun q => nomatch q) (Nat.le_of_ble_eq_true rfl) (fun _ q => nomatch q) (Nat.le_of_ble_eq_true rfl)
noncomputable def r_Mo_machine_412 (h : ja_H) (z0 : Int64) : Option (Int64 × ja_H) := (some (z0, h))
theorem t_Mo_machine_412 {h : ja_H} {z0 : Int64} : ja_D ja_gL M_Mo_machine 412 [none, none, none, none, none, none, none, none, none, none, none, none, none, none, none, none] [.long z0] h (r_Mo_machine_412 h z0) := by
  unfold r_Mo_machine_412
  exact jd_lreturn i_Mo_machine_412 rfl
noncomputable def r_Mo_machine_396 (h : ja_H) (y8 : Int32) (y13 : Int64) : Option (Int64 × ja_H) := (if y8 = (0 : Int32) then (r_Mo_machine_412 h (y13 &&& (4294967295 : Int64))) else (r_Mo_machine_412 h y13))
theorem t_Mo_machine_396 {h : ja_H} {y8 : Int32} {y13 : Int64} : ja_D ja_gL M_Mo_machine 396 [none, none, none, none, none, none, none, none, some (.int y8), none, none, none, none, some (.long y13), none, none] [] h (r_Mo_machine_396 h y8 y13) := by
  unfold r_Mo_machine_396
  refine jd_iload i_Mo_machine_396 rfl ?_
  refine jd_if_eq 406 i_Mo_machine_398 (by decide) ?_ ?_
  · refine jd_lload i_Mo_machine_406 rfl ?_
    refine jd_ldc2 i_Mo_machine_408 K_Mo_122 ?_
    refine jd_land i_Mo_machine_411 ?_
    exact jd_less (t_Mo_machine_412) trivial
  · refine jd_lload i_Mo_machine_401 rfl ?_
    refine jd_goto 412 i_Mo_machine_403 (by decide) ?_
    exact jd_less (t_Mo_machine_412) trivial
noncomputable def r_Mo_machine_394 (h : ja_H) (y8 : Int32) (z0 : Int64) : Option (Int64 × ja_H) := (jl (z0 : Int64) (fun (x1 : Int64) => (r_Mo_machine_396 h y8 x1)))
theorem t_Mo_machine_394 {h : ja_H} {y8 : Int32} {z0 : Int64} : ja_D ja_gL M_Mo_machine 394 [none, none, none, none, none, none, none, none, some (.int y8), none, none, none, none, none, none, none] [.long z0] h (r_Mo_machine_394 h y8 z0) := by
  unfold r_Mo_machine_394
  refine jd_lstore (fun x1 => [none, none, none, none, none, none, none, none, some (.int y8), none, none, none, none, some (.long x1), none, none]) i_Mo_machine_394 (by decide) rfl (fun _ => rfl) (fun x1 => ?_)
  exact jd_less (t_Mo_machine_396) ⟨rfl, rfl, trivial⟩
noncomputable def r_Mo_machine_352 (h : ja_H) (y8 : Int32) (z0 : Int64) : Option (Int64 × ja_H) := (jl (z0 : Int64) (fun (x1 : Int64) => (r_Mo_machine_396 h y8 x1)))
theorem t_Mo_machine_352 {h : ja_H} {y8 : Int32} {z0 : Int64} : ja_D ja_gL M_Mo_machine 352 [none, none, none, none, none, none, none, none, some (.int y8), none, none, none, none, none, none, none] [.long z0] h (r_Mo_machine_352 h y8 z0) := by
  unfold r_Mo_machine_352
  refine jd_lstore (fun x1 => [none, none, none, none, none, none, none, none, some (.int y8), none, none, none, none, some (.long x1), none, none]) i_Mo_machine_352 (by decide) rfl (fun _ => rfl) (fun x1 => ?_)
  refine jd_goto 396 i_Mo_machine_354 (by decide) ?_
  exact jd_less (t_Mo_machine_396) ⟨rfl, rfl, trivial⟩
noncomputable def r_Mo_machine_280 (h : ja_H) (y8 : Int32) (z0 : Int64) : Option (Int64 × ja_H) := (jl (z0 : Int64) (fun (x1 : Int64) => (r_Mo_machine_396 h y8 x1)))
theorem t_Mo_machine_280 {h : ja_H} {y8 : Int32} {z0 : Int64} : ja_D ja_gL M_Mo_machine 280 [none, none, none, none, none, none, none, none, some (.int y8), none, none, none, none, none, none, none] [.long z0] h (r_Mo_machine_280 h y8 z0) := by
  unfold r_Mo_machine_280
  refine jd_lstore (fun x1 => [none, none, none, none, none, none, none, none, some (.int y8), none, none, none, none, some (.long x1), none, none]) i_Mo_machine_280 (by decide) rfl (fun _ => rfl) (fun x1 => ?_)
  refine jd_goto 396 i_Mo_machine_282 (by decide) ?_
  exact jd_less (t_Mo_machine_396) ⟨rfl, rfl, trivial⟩
noncomputable def r_Mo_machine_161 (h : ja_H) (y7 : Int32) (y8 : Int32) (y9 : Int64) (y11 : Int64) (z0 : Int32) (z1 : Int64) : Option (Int64 × ja_H) := (jl ((Int64.toInt32 (z1 &&& (Int32.toInt64 z0))) : Int32) (fun (x1 : Int32) => (jsw y7 [0, 1, 2, 3, 4, 5, 6, 7, 8, 9, 10, 11] [(jl ((y9 + y11) : Int64) (fun (x2 : Int64) => (r_Mo_machine_396 h y8 x2))), (jl ((y9 - y11) : Int64) (fun (x3 : Int64) => (r_Mo_machine_396 h y8 x3))), (jl ((y9 * y11) : Int64) (fun (x4 : Int64) => (r_Mo_machine_396 h y8 x4))), (if y11 = (0 : Int64) then (r_Mo_machine_280 h y8 (0 : Int64)) else (jc_L (r_Lg_divideUnsigned h y9 y11) (fun v6 h5 => (r_Mo_machine_280 h5 y8 v6)))), (jl ((y9 ||| y11) : Int64) (fun (x7 : Int64) => (r_Mo_machine_396 h y8 x7))), (jl ((y9 &&& y11) : Int64) (fun (x8 : Int64) => (r_Mo_machine_396 h y8 x8))), (jl ((y9 <<< (Int32.toInt64 x1 &&& 63)) : Int64) (fun (x9 : Int64) => (r_Mo_machine_396 h y8 x9))), (jl ((UInt64.toInt64 (Int64.toUInt64 y9 >>> (Int64.toUInt64 (Int32.toInt64 x1) &&& Int64.toUInt64 63))) : Int64) (fun (x10 : Int64) => (r_Mo_machine_396 h y8 x10))), (jl ((-y9) : Int64) (fun (x11 : Int64) => (r_Mo_machine_396 h y8 x11))), (if y11 = (0 : Int64) then (r_Mo_machine_352 h y8 y9) else (jc_L (r_Lg_remainderUnsigned h y9 y11) (fun v13 h12 => (r_Mo_machine_352 h12 y8 v13)))), (jl ((y9 ^^^ y11) : Int64) (fun (x14 : Int64) => (r_Mo_machine_396 h y8 x14))), (jl (y11 : Int64) (fun (x15 : Int64) => (r_Mo_machine_396 h y8 x15)))] (if y8 = (0 : Int32) then (r_Mo_machine_394 h y8 (Int32.toInt64 ((Int64.toInt32 y9) >>> (x1 &&& 31)))) else (r_Mo_machine_394 h y8 (y9 >>> (Int32.toInt64 x1 &&& 63)))))))
theorem t_Mo_machine_161 {h : ja_H} {y7 : Int32} {y8 : Int32} {y9 : Int64} {y11 : Int64} {z0 : Int32} {z1 : Int64} : ja_D ja_gL M_Mo_machine 161 [none, none, none, none, none, none, none, some (.int y7), some (.int y8), some (.long y9), none, some (.long y11), none, none, none, none] [.int z0, .long z1] h (r_Mo_machine_161 h y7 y8 y9 y11 z0 z1) := by
  unfold r_Mo_machine_161
  refine jd_i2l i_Mo_machine_161 ?_
  refine jd_land i_Mo_machine_162 ?_
  refine jd_l2i i_Mo_machine_163 ?_
  refine jd_istore (fun x1 => [none, none, none, none, none, none, none, some (.int y7), some (.int y8), some (.long y9), none, some (.long y11), none, none, none, some (.int x1)]) i_Mo_machine_164 (by decide) rfl (fun _ => rfl) (fun x1 => ?_)
  refine jd_iload i_Mo_machine_166 rfl ?_
  refine jd_ts 374 [0, 1, 2, 3, 4, 5, 6, 7, 8, 9, 10, 11] [232, 242, 252, 262, 285, 295, 305, 315, 325, 333, 357, 367] i_Mo_machine_168 rfl (by decide) (by decide) (by decide) ?_ ⟨?_, ?_, ?_, ?_, ?_, ?_, ?_, ?_, ?_, ?_, ?_, ?_, trivial⟩
  · refine jd_iload i_Mo_machine_374 rfl ?_
    refine jd_if_eq 387 i_Mo_machine_376 (by decide) ?_ ?_
    · refine jd_lload i_Mo_machine_387 rfl ?_
      refine jd_l2i i_Mo_machine_389 ?_
      refine jd_iload i_Mo_machine_390 rfl ?_
      refine jd_ishr i_Mo_machine_392 ?_
      refine jd_i2l i_Mo_machine_393 ?_
      exact jd_less (t_Mo_machine_394) ⟨rfl, trivial⟩
    · refine jd_lload i_Mo_machine_379 rfl ?_
      refine jd_iload i_Mo_machine_381 rfl ?_
      refine jd_lshr i_Mo_machine_383 ?_
      refine jd_goto 394 i_Mo_machine_384 (by decide) ?_
      exact jd_less (t_Mo_machine_394) ⟨rfl, trivial⟩
  · refine jd_lload i_Mo_machine_232 rfl ?_
    refine jd_lload i_Mo_machine_234 rfl ?_
    refine jd_ladd i_Mo_machine_236 ?_
    refine jd_lstore (fun x2 => [none, none, none, none, none, none, none, some (.int y7), some (.int y8), some (.long y9), none, some (.long y11), none, some (.long x2), none, some (.int x1)]) i_Mo_machine_237 (by decide) rfl (fun _ => rfl) (fun x2 => ?_)
    refine jd_goto 396 i_Mo_machine_239 (by decide) ?_
    exact jd_less (t_Mo_machine_396) ⟨rfl, rfl, trivial⟩
  · refine jd_lload i_Mo_machine_242 rfl ?_
    refine jd_lload i_Mo_machine_244 rfl ?_
    refine jd_lsub i_Mo_machine_246 ?_
    refine jd_lstore (fun x3 => [none, none, none, none, none, none, none, some (.int y7), some (.int y8), some (.long y9), none, some (.long y11), none, some (.long x3), none, some (.int x1)]) i_Mo_machine_247 (by decide) rfl (fun _ => rfl) (fun x3 => ?_)
    refine jd_goto 396 i_Mo_machine_249 (by decide) ?_
    exact jd_less (t_Mo_machine_396) ⟨rfl, rfl, trivial⟩
  · refine jd_lload i_Mo_machine_252 rfl ?_
    refine jd_lload i_Mo_machine_254 rfl ?_
    refine jd_lmul i_Mo_machine_256 ?_
    refine jd_lstore (fun x4 => [none, none, none, none, none, none, none, some (.int y7), some (.int y8), some (.long y9), none, some (.long y11), none, some (.long x4), none, some (.int x1)]) i_Mo_machine_257 (by decide) rfl (fun _ => rfl) (fun x4 => ?_)
    refine jd_goto 396 i_Mo_machine_259 (by decide) ?_
    exact jd_less (t_Mo_machine_396) ⟨rfl, rfl, trivial⟩
  · refine jd_lload i_Mo_machine_262 rfl ?_
    refine jd_lconst 0 i_Mo_machine_264 (by decide) ?_
    refine jd_lcmp_ne 273 i_Mo_machine_265 i_Mo_machine_266 (by decide) ?_ ?_
    · refine jd_lload i_Mo_machine_273 rfl ?_
      refine jd_lload i_Mo_machine_275 rfl ?_
      refine jd_callSL G_Mo_232 sc_Lg_divideUnsigned (fun _ e => c_Lg_divideUnsigned e) rfl ⟨by decide, by decide⟩ rfl (Nat.le_of_ble_eq_true rfl) i_Mo_machine_277 (fun v6 h5 => ?_)
      exact jd_less (t_Mo_machine_280) ⟨rfl, trivial⟩
    · refine jd_lconst 0 i_Mo_machine_269 (by decide) ?_
      refine jd_goto 280 i_Mo_machine_270 (by decide) ?_
      exact jd_less (t_Mo_machine_280) ⟨rfl, trivial⟩
  · refine jd_lload i_Mo_machine_285 rfl ?_
    refine jd_lload i_Mo_machine_287 rfl ?_
    refine jd_lor i_Mo_machine_289 ?_
    refine jd_lstore (fun x7 => [none, none, none, none, none, none, none, some (.int y7), some (.int y8), some (.long y9), none, some (.long y11), none, some (.long x7), none, some (.int x1)]) i_Mo_machine_290 (by decide) rfl (fun _ => rfl) (fun x7 => ?_)
    refine jd_goto 396 i_Mo_machine_292 (by decide) ?_
    exact jd_less (t_Mo_machine_396) ⟨rfl, rfl, trivial⟩
  · refine jd_lload i_Mo_machine_295 rfl ?_
    refine jd_lload i_Mo_machine_297 rfl ?_
    refine jd_land i_Mo_machine_299 ?_
    refine jd_lstore (fun x8 => [none, none, none, none, none, none, none, some (.int y7), some (.int y8), some (.long y9), none, some (.long y11), none, some (.long x8), none, some (.int x1)]) i_Mo_machine_300 (by decide) rfl (fun _ => rfl) (fun x8 => ?_)
    refine jd_goto 396 i_Mo_machine_302 (by decide) ?_
    exact jd_less (t_Mo_machine_396) ⟨rfl, rfl, trivial⟩
  · refine jd_lload i_Mo_machine_305 rfl ?_
    refine jd_iload i_Mo_machine_307 rfl ?_
    refine jd_lshl i_Mo_machine_309 ?_
    refine jd_lstore (fun x9 => [none, none, none, none, none, none, none, some (.int y7), some (.int y8), some (.long y9), none, some (.long y11), none, some (.long x9), none, some (.int x1)]) i_Mo_machine_310 (by decide) rfl (fun _ => rfl) (fun x9 => ?_)
    refine jd_goto 396 i_Mo_machine_312 (by decide) ?_
    exact jd_less (t_Mo_machine_396) ⟨rfl, rfl, trivial⟩
  · refine jd_lload i_Mo_machine_315 rfl ?_
    refine jd_iload i_Mo_machine_317 rfl ?_
    refine jd_lushr i_Mo_machine_319 ?_
    refine jd_lstore (fun x10 => [none, none, none, none, none, none, none, some (.int y7), some (.int y8), some (.long y9), none, some (.long y11), none, some (.long x10), none, some (.int x1)]) i_Mo_machine_320 (by decide) rfl (fun _ => rfl) (fun x10 => ?_)
    refine jd_goto 396 i_Mo_machine_322 (by decide) ?_
    exact jd_less (t_Mo_machine_396) ⟨rfl, rfl, trivial⟩
  · refine jd_lload i_Mo_machine_325 rfl ?_
    refine jd_lneg i_Mo_machine_327 ?_
    refine jd_lstore (fun x11 => [none, none, none, none, none, none, none, some (.int y7), some (.int y8), some (.long y9), none, some (.long y11), none, some (.long x11), none, some (.int x1)]) i_Mo_machine_328 (by decide) rfl (fun _ => rfl) (fun x11 => ?_)
    refine jd_goto 396 i_Mo_machine_330 (by decide) ?_
    exact jd_less (t_Mo_machine_396) ⟨rfl, rfl, trivial⟩
  · refine jd_lload i_Mo_machine_333 rfl ?_
    refine jd_lconst 0 i_Mo_machine_335 (by decide) ?_
    refine jd_lcmp_ne 345 i_Mo_machine_336 i_Mo_machine_337 (by decide) ?_ ?_
    · refine jd_lload i_Mo_machine_345 rfl ?_
      refine jd_lload i_Mo_machine_347 rfl ?_
      refine jd_callSL G_Mo_237 sc_Lg_remainderUnsigned (fun _ e => c_Lg_remainderUnsigned e) rfl ⟨by decide, by decide⟩ rfl (Nat.le_of_ble_eq_true rfl) i_Mo_machine_349 (fun v13 h12 => ?_)
      exact jd_less (t_Mo_machine_352) ⟨rfl, trivial⟩
    · refine jd_lload i_Mo_machine_340 rfl ?_
      refine jd_goto 352 i_Mo_machine_342 (by decide) ?_
      exact jd_less (t_Mo_machine_352) ⟨rfl, trivial⟩
  · refine jd_lload i_Mo_machine_357 rfl ?_
    refine jd_lload i_Mo_machine_359 rfl ?_
    refine jd_lxor i_Mo_machine_361 ?_
    refine jd_lstore (fun x14 => [none, none, none, none, none, none, none, some (.int y7), some (.int y8), some (.long y9), none, some (.long y11), none, some (.long x14), none, some (.int x1)]) i_Mo_machine_362 (by decide) rfl (fun _ => rfl) (fun x14 => ?_)
    refine jd_goto 396 i_Mo_machine_364 (by decide) ?_
    exact jd_less (t_Mo_machine_396) ⟨rfl, rfl, trivial⟩
  · refine jd_lload i_Mo_machine_367 rfl ?_
    refine jd_lstore (fun x15 => [none, none, none, none, none, none, none, some (.int y7), some (.int y8), some (.long y9), none, some (.long y11), none, some (.long x15), none, some (.int x1)]) i_Mo_machine_369 (by decide) rfl (fun _ => rfl) (fun x15 => ?_)
    refine jd_goto 396 i_Mo_machine_371 (by decide) ?_
    exact jd_less (t_Mo_machine_396) ⟨rfl, rfl, trivial⟩
noncomputable def r_Mo_machine_145 (h : ja_H) (y7 : Int32) (y8 : Int32) (y9 : Int64) (z0 : Int64) : Option (Int64 × ja_H) := (jl (z0 : Int64) (fun (x1 : Int64) => (if y8 = (0 : Int32) then (r_Mo_machine_161 h y7 y8 y9 x1 (31 : Int32) x1) else (r_Mo_machine_161 h y7 y8 y9 x1 (63 : Int32) x1))))
theorem t_Mo_machine_145 {h : ja_H} {y7 : Int32} {y8 : Int32} {y9 : Int64} {z0 : Int64} : ja_D ja_gL M_Mo_machine 145 [none, none, none, none, none, none, none, some (.int y7), some (.int y8), some (.long y9), none, none, none, none, none, none] [.long z0] h (r_Mo_machine_145 h y7 y8 y9 z0) := by
  unfold r_Mo_machine_145
  refine jd_lstore (fun x1 => [none, none, none, none, none, none, none, some (.int y7), some (.int y8), some (.long y9), none, some (.long x1), none, none, none, none]) i_Mo_machine_145 (by decide) rfl (fun _ => rfl) (fun x1 => ?_)
  refine jd_lload i_Mo_machine_147 rfl ?_
  refine jd_iload i_Mo_machine_149 rfl ?_
  refine jd_if_eq 159 i_Mo_machine_151 (by decide) ?_ ?_
  · refine jd_bipush 31 i_Mo_machine_159 (by decide) ?_
    exact jd_less (t_Mo_machine_161) ⟨rfl, rfl, rfl, rfl, trivial⟩
  · refine jd_bipush 63 i_Mo_machine_154 (by decide) ?_
    refine jd_goto 161 i_Mo_machine_156 (by decide) ?_
    exact jd_less (t_Mo_machine_161) ⟨rfl, rfl, rfl, rfl, trivial⟩
noncomputable def r_Mo_machine_127 (h : ja_H) (y4 : Int64) (y7 : Int32) (y8 : Int32) (z0 : Int64) : Option (Int64 × ja_H) := (jl (z0 : Int64) (fun (x1 : Int64) => (if y8 = (0 : Int32) then (r_Mo_machine_145 h y7 y8 x1 (y4 &&& (4294967295 : Int64))) else (r_Mo_machine_145 h y7 y8 x1 y4))))
theorem t_Mo_machine_127 {h : ja_H} {y4 : Int64} {y7 : Int32} {y8 : Int32} {z0 : Int64} : ja_D ja_gL M_Mo_machine 127 [none, none, none, none, some (.long y4), none, none, some (.int y7), some (.int y8), none, none, none, none, none, none, none] [.long z0] h (r_Mo_machine_127 h y4 y7 y8 z0) := by
  unfold r_Mo_machine_127
  refine jd_lstore (fun x1 => [none, none, none, none, some (.long y4), none, none, some (.int y7), some (.int y8), some (.long x1), none, none, none, none, none, none]) i_Mo_machine_127 (by decide) rfl (fun _ => rfl) (fun x1 => ?_)
  refine jd_iload i_Mo_machine_129 rfl ?_
  refine jd_if_eq 139 i_Mo_machine_131 (by decide) ?_ ?_
  · refine jd_lload i_Mo_machine_139 rfl ?_
    refine jd_ldc2 i_Mo_machine_141 K_Mo_122 ?_
    refine jd_land i_Mo_machine_144 ?_
    exact jd_less (t_Mo_machine_145) ⟨rfl, rfl, rfl, trivial⟩
  · refine jd_lload i_Mo_machine_134 rfl ?_
    refine jd_goto 145 i_Mo_machine_136 (by decide) ?_
    exact jd_less (t_Mo_machine_145) ⟨rfl, rfl, rfl, trivial⟩
noncomputable def r_Mo_machine_111 (h : ja_H) (y2 : Int64) (y4 : Int64) (y7 : Int32) (z0 : Int32) : Option (Int64 × ja_H) := (jl (z0 : Int32) (fun (x1 : Int32) => (if x1 = (0 : Int32) then (r_Mo_machine_127 h y4 y7 x1 (y2 &&& (4294967295 : Int64))) else (r_Mo_machine_127 h y4 y7 x1 y2))))
theorem t_Mo_machine_111 {h : ja_H} {y2 : Int64} {y4 : Int64} {y7 : Int32} {z0 : Int32} : ja_D ja_gL M_Mo_machine 111 [none, none, some (.long y2), none, some (.long y4), none, none, some (.int y7), none, none, none, none, none, none, none, none] [.int z0] h (r_Mo_machine_111 h y2 y4 y7 z0) := by
  unfold r_Mo_machine_111
  refine jd_istore (fun x1 => [none, none, some (.long y2), none, some (.long y4), none, none, some (.int y7), some (.int x1), none, none, none, none, none, none, none]) i_Mo_machine_111 (by decide) rfl (fun _ => rfl) (fun x1 => ?_)
  refine jd_iload i_Mo_machine_113 rfl ?_
  refine jd_if_eq 122 i_Mo_machine_115 (by decide) ?_ ?_
  · refine jd_lload_n i_Mo_machine_122 rfl ?_
    refine jd_ldc2 i_Mo_machine_123 K_Mo_122 ?_
    refine jd_land i_Mo_machine_126 ?_
    exact jd_less (t_Mo_machine_127) ⟨rfl, rfl, rfl, trivial⟩
  · refine jd_lload_n i_Mo_machine_118 rfl ?_
    refine jd_goto 127 i_Mo_machine_119 (by decide) ?_
    exact jd_less (t_Mo_machine_127) ⟨rfl, rfl, rfl, trivial⟩
noncomputable def r_Mo_machine_82 (C36 : ja_H → Int64 → Int32 → Int32 → Int64 → Int32 → Option (Int64 × ja_H)) (h : ja_H) (y2 : Int64) (y6 : Int32) (y8 : Int32) (y11 : Int32) (z0 : Int32) (z1 : Int32) (z2 : Int64) (z3 : Int64) : Option (Int64 × ja_H) := (jl ((z3 ||| (z2 <<< (Int32.toInt64 (z1 * z0) &&& 63))) : Int64) (fun (x1 : Int64) => (jl (y11 + 1 : Int32) (fun (x2 : Int32) => (C36 h y2 y6 y8 x1 x2)))))
theorem t_Mo_machine_82 {C36 : ja_H → Int64 → Int32 → Int32 → Int64 → Int32 → Option (Int64 × ja_H)} (k36 : ∀ (h : ja_H) (y2 : Int64) (y6 : Int32) (y8 : Int32) (y9 : Int64) (y11 : Int32), ja_D ja_gL M_Mo_machine 36 [none, none, some (.long y2), none, none, none, some (.int y6), none, some (.int y8), some (.long y9), none, some (.int y11), none, none, none, none] [] h (C36 h y2 y6 y8 y9 y11)) {h : ja_H} {y2 : Int64} {y6 : Int32} {y8 : Int32} {y11 : Int32} {z0 : Int32} {z1 : Int32} {z2 : Int64} {z3 : Int64} : ja_D ja_gL M_Mo_machine 82 [none, none, some (.long y2), none, none, none, some (.int y6), none, some (.int y8), none, none, some (.int y11), none, none, none, none] [.int z0, .int z1, .long z2, .long z3] h (r_Mo_machine_82 C36 h y2 y6 y8 y11 z0 z1 z2 z3) := by
  unfold r_Mo_machine_82
  refine jd_imul i_Mo_machine_82 ?_
  refine jd_lshl i_Mo_machine_83 ?_
  refine jd_lor i_Mo_machine_84 ?_
  refine jd_lstore (fun x1 => [none, none, some (.long y2), none, none, none, some (.int y6), none, some (.int y8), some (.long x1), none, some (.int y11), none, none, none, none]) i_Mo_machine_85 (by decide) rfl (fun _ => rfl) (fun x1 => ?_)
  refine jd_iinc (fun x2 => [none, none, some (.long y2), none, none, none, some (.int y6), none, some (.int y8), some (.long x1), none, some (.int x2), none, none, none, none]) i_Mo_machine_87 rfl rfl (by decide) rfl (fun _ => rfl) (fun x2 => ?_)
  refine jd_goto 36 i_Mo_machine_90 (by decide) ?_
  exact jd_less (k36 _ _ _ _ _ _) ⟨rfl, rfl, rfl, rfl, rfl, trivial⟩
noncomputable def q_Mo_machine_36 (C36 : ja_H → Int64 → Int32 → Int32 → Int64 → Int32 → Option (Int64 × ja_H)) (h : ja_H) (y2 : Int64) (y6 : Int32) (y8 : Int32) (y9 : Int64) (y11 : Int32) : Option (Int64 × ja_H) := (if y8 ≤ y11 then (some (y9, h)) else (jl (((UInt64.toInt64 (Int64.toUInt64 y2 >>> (Int64.toUInt64 (Int32.toInt64 ((8 : Int32) * y11)) &&& Int64.toUInt64 63))) &&& (255 : Int64)) : Int64) (fun (x1 : Int64) => (if (y6 &&& (8 : Int32)) = (0 : Int32) then (r_Mo_machine_82 C36 h y2 y6 y8 y11 y11 (8 : Int32) x1 y9) else (r_Mo_machine_82 C36 h y2 y6 y8 y11 ((y8 - (1 : Int32)) - y11) (8 : Int32) x1 y9)))))
theorem t_Mo_machine_36 {C36 : ja_H → Int64 → Int32 → Int32 → Int64 → Int32 → Option (Int64 × ja_H)} (k36 : ∀ (h : ja_H) (y2 : Int64) (y6 : Int32) (y8 : Int32) (y9 : Int64) (y11 : Int32), ja_D ja_gL M_Mo_machine 36 [none, none, some (.long y2), none, none, none, some (.int y6), none, some (.int y8), some (.long y9), none, some (.int y11), none, none, none, none] [] h (C36 h y2 y6 y8 y9 y11)) {h : ja_H} {y2 : Int64} {y6 : Int32} {y8 : Int32} {y9 : Int64} {y11 : Int32} : ja_D ja_gL M_Mo_machine 36 [none, none, some (.long y2), none, none, none, some (.int y6), none, some (.int y8), some (.long y9), none, some (.int y11), none, none, none, none] [] h (q_Mo_machine_36 C36 h y2 y6 y8 y9 y11) := by
  unfold q_Mo_machine_36
  refine jd_iload i_Mo_machine_36 rfl ?_
  refine jd_iload i_Mo_machine_38 rfl ?_
  refine jd_icmp_ge 93 i_Mo_machine_40 (by decide) ?_ ?_
  · refine jd_lload i_Mo_machine_93 rfl ?_
    exact jd_lreturn i_Mo_machine_95 rfl
  · refine jd_lload_n i_Mo_machine_43 rfl ?_
    refine jd_bipush 8 i_Mo_machine_44 (by decide) ?_
    refine jd_iload i_Mo_machine_46 rfl ?_
    refine jd_imul i_Mo_machine_48 ?_
    refine jd_lushr i_Mo_machine_49 ?_
    refine jd_ldc2 i_Mo_machine_50 K_Mo_230 ?_
    refine jd_land i_Mo_machine_53 ?_
    refine jd_lstore (fun x1 => [none, none, some (.long y2), none, none, none, some (.int y6), none, some (.int y8), some (.long y9), none, some (.int y11), some (.long x1), none, none, none]) i_Mo_machine_54 (by decide) rfl (fun _ => rfl) (fun x1 => ?_)
    refine jd_lload i_Mo_machine_56 rfl ?_
    refine jd_lload i_Mo_machine_58 rfl ?_
    refine jd_bipush 8 i_Mo_machine_60 (by decide) ?_
    refine jd_iload i_Mo_machine_62 rfl ?_
    refine jd_bipush 8 i_Mo_machine_64 (by decide) ?_
    refine jd_iand i_Mo_machine_66 ?_
    refine jd_if_ne 75 i_Mo_machine_67 (by decide) ?_ ?_
    · refine jd_iload i_Mo_machine_75 rfl ?_
      refine jd_iconst 1 i_Mo_machine_77 (by decide) ?_
      refine jd_isub i_Mo_machine_78 ?_
      refine jd_iload i_Mo_machine_79 rfl ?_
      refine jd_isub i_Mo_machine_81 ?_
      exact jd_less (t_Mo_machine_82 k36) ⟨rfl, rfl, rfl, rfl, trivial⟩
    · refine jd_iload i_Mo_machine_70 rfl ?_
      refine jd_goto 82 i_Mo_machine_72 (by decide) ?_
      exact jd_less (t_Mo_machine_82 k36) ⟨rfl, rfl, rfl, rfl, trivial⟩
noncomputable def r_Mo_machine_36 : Nat → ja_H → Int64 → Int32 → Int32 → Int64 → Int32 → Option (Int64 × ja_H) := ja_lo (q_Mo_machine_36) (fun _ _ _ _ _ _ => none)
theorem s_Mo_machine_36 : ∀ (n : Nat) (h : ja_H) (y2 : Int64) (y6 : Int32) (y8 : Int32) (y9 : Int64) (y11 : Int32), ja_D ja_gL M_Mo_machine 36 [none, none, some (.long y2), none, none, none, some (.int y6), none, some (.int y8), some (.long y9), none, some (.int y11), none, none, none, none] [] h (r_Mo_machine_36 n h y2 y6 y8 y9 y11) := by
  intro n
  induction n with
  | zero => intro h y2 y6 y8 y9 y11 o e; cases e
  | succ n ih => intro h y2 y6 y8 y9 y11; exact t_Mo_machine_36 ih
noncomputable def r_Mo_machine (h : ja_H) (a0 : Nat) (a1 : Int32) (a2 : Int64) (a4 : Int64) : Option (Int64 × ja_H) := (jk h a0 9 (jc_I (r_Mo_op h a0 a1) (fun v102 h101 => (jl (v102 : Int32) (fun (x103 : Int32) => (jl ((x103 >>> ((4 : Int32) &&& 31)) : Int32) (fun (x104 : Int32) => (if x104 = (13 : Int32) then (jk h101 a0 9 (jc_I (r_Mo_imm h101 a0 a1) (fun v106 h105 => (jz_I (8 : Int32) (jl ((v106 / (8 : Int32)) : Int32) (fun (x107 : Int32) => (jl ((0 : Int64) : Int64) (fun (x108 : Int64) => (jl ((0 : Int32) : Int32) (fun (x109 : Int32) => (r_Mo_machine_36 ja_fu h105 a2 x103 x107 x108 x109))))))))))) else (if (x103 &&& (7 : Int32)) = (7 : Int32) then (r_Mo_machine_111 h101 a2 a4 x104 (1 : Int32)) else (r_Mo_machine_111 h101 a2 a4 x104 (0 : Int32)))))))))))
theorem e_Mo_machine {h : ja_H} {a0 : Nat} {a1 : Int32} {a2 : Int64} {a4 : Int64} : ja_D ja_gL M_Mo_machine 0 [some (.ref a0), some (.int a1), some (.long a2), none, some (.long a4), none, none, none, none, none, none, none, none, none, none, none] [] h (r_Mo_machine h a0 a1 a2 a4) := by
  unfold r_Mo_machine
  refine jd_aload_n i_Mo_machine_0 rfl ?_
  refine jd_iload_n i_Mo_machine_1 rfl ?_
  refine jd_callVI G_Mo_78 in_Mo_op se_Mo_op rfl (fun _ e => c_Mo_op e) rfl ⟨by decide, by decide⟩ rfl (Nat.le_of_ble_eq_true rfl) i_Mo_machine_2 (fun v102 h101 => ?_)
  refine jd_istore (fun x103 => [some (.ref a0), some (.int a1), some (.long a2), none, some (.long a4), none, some (.int x103), none, none, none, none, none, none, none, none, none]) i_Mo_machine_5 (by decide) rfl (fun _ => rfl) (fun x103 => ?_)
  refine jd_iload i_Mo_machine_7 rfl ?_
  refine jd_iconst 4 i_Mo_machine_9 (by decide) ?_
  refine jd_ishr i_Mo_machine_10 ?_
  refine jd_istore (fun x104 => [some (.ref a0), some (.int a1), some (.long a2), none, some (.long a4), none, some (.int x103), some (.int x104), none, none, none, none, none, none, none, none]) i_Mo_machine_11 (by decide) rfl (fun _ => rfl) (fun x104 => ?_)
  refine jd_iload i_Mo_machine_13 rfl ?_
  refine jd_bipush 13 i_Mo_machine_15 (by decide) ?_
  refine jd_icmp_ne 96 i_Mo_machine_17 (by decide) ?_ ?_
  · refine jd_iload i_Mo_machine_96 rfl ?_
    refine jd_bipush 7 i_Mo_machine_98 (by decide) ?_
    refine jd_iand i_Mo_machine_100 ?_
    refine jd_bipush 7 i_Mo_machine_101 (by decide) ?_
    refine jd_icmp_ne 110 i_Mo_machine_103 (by decide) ?_ ?_
    · refine jd_iconst 0 i_Mo_machine_110 (by decide) ?_
      exact jd_less (t_Mo_machine_111) ⟨rfl, rfl, rfl, trivial⟩
    · refine jd_iconst 1 i_Mo_machine_106 (by decide) ?_
      refine jd_goto 111 i_Mo_machine_107 (by decide) ?_
      exact jd_less (t_Mo_machine_111) ⟨rfl, rfl, rfl, trivial⟩
  · refine jd_aload_n i_Mo_machine_20 rfl ?_
    refine jd_iload_n i_Mo_machine_21 rfl ?_
    refine jd_callVI G_Mo_92 in_Mo_imm se_Mo_imm rfl (fun _ e => c_Mo_imm e) rfl ⟨by decide, by decide⟩ rfl (Nat.le_of_ble_eq_true rfl) i_Mo_machine_22 (fun v106 h105 => ?_)
    refine jd_bipush 8 i_Mo_machine_25 (by decide) ?_
    refine jd_idiv i_Mo_machine_27 ?_
    refine jd_istore (fun x107 => [some (.ref a0), some (.int a1), some (.long a2), none, some (.long a4), none, some (.int x103), some (.int x104), some (.int x107), none, none, none, none, none, none, none]) i_Mo_machine_28 (by decide) rfl (fun _ => rfl) (fun x107 => ?_)
    refine jd_lconst 0 i_Mo_machine_30 (by decide) ?_
    refine jd_lstore (fun x108 => [some (.ref a0), some (.int a1), some (.long a2), none, some (.long a4), none, some (.int x103), some (.int x104), some (.int x107), some (.long x108), none, none, none, none, none, none]) i_Mo_machine_31 (by decide) rfl (fun _ => rfl) (fun x108 => ?_)
    refine jd_iconst 0 i_Mo_machine_33 (by decide) ?_
    refine jd_istore (fun x109 => [some (.ref a0), some (.int a1), some (.long a2), none, some (.long a4), none, some (.int x103), some (.int x104), some (.int x107), some (.long x108), none, some (.int x109), none, none, none, none]) i_Mo_machine_34 (by decide) rfl (fun _ => rfl) (fun x109 => ?_)
    exact jd_less (s_Mo_machine_36 ja_fu _ _ _ _ _ _) ⟨rfl, rfl, rfl, rfl, rfl, trivial⟩
theorem c_Mo_machine {h : ja_H} {a0 : Nat} {a1 : Int32} {a2 : Int64} {a4 : Int64} {o : Int64 × ja_H} (e : r_Mo_machine h a0 a1 a2 a4 = some o) : ja_M (1, 27) y_Mo_machine b_Mo_machine 16 (some .long) [.ref a0, .int a1, .long a2, .long a4] h [.long o.1] o.2 := jc_of (g := ja_gL) false _ e e_Mo_machine rfl (by decide +kernel) (fun q => nomatch q) (Nat.le_of_ble_eq_true rfl) (fun _ q => nomatch q) (Nat.le_of_ble_eq_true rfl)
