noncomputable def r_Mo_run_471 (h : ja_H) (y0 : Nat) : Option (Int64 × ja_H) := (jf_R h y0 9 19 (fun a1 => (je_L h a1 (0 : Int32) (fun v2 => (some (v2, h))))))
theorem t_Mo_run_471 {h : ja_H} {y0 : Nat} : ja_D ja_gL M_Mo_run 471 [some (.ref y0), none, none, none, none, none, none, none, none] [] h (r_Mo_run_471 h y0) := by
  unfold r_Mo_run_471
  refine jd_aload_n i_Mo_run_471 rfl ?_
  refine jd_getR F_Mo_49 i_Mo_run_472 (fun a1 => ?_)
  refine jd_iconst 0 i_Mo_run_475 (by decide) ?_
  refine jd_lald i_Mo_run_476 (fun v2 => ?_)
  exact jd_lreturn i_Mo_run_477 rfl
noncomputable def r_Mo_run_461 (h : ja_H) (y0 : Nat) : Option (Int64 × ja_H) := (jf_I h y0 9 15 (fun v1 => (jp_I h y0 9 15 (v1 + (1 : Int32)) (fun h2 => (r_Mo_run_471 h2 y0)))))
theorem t_Mo_run_461 {h : ja_H} {y0 : Nat} : ja_D ja_gL M_Mo_run 461 [some (.ref y0), none, none, none, none, none, none, none, none] [] h (r_Mo_run_461 h y0) := by
  unfold r_Mo_run_461
  refine jd_aload_n i_Mo_run_461 rfl ?_
  refine jd_dupR i_Mo_run_462 ?_
  refine jd_getI F_Mo_270 i_Mo_run_463 (fun v1 => ?_)
  refine jd_iconst 1 i_Mo_run_466 (by decide) ?_
  refine jd_iadd i_Mo_run_467 ?_
  refine jd_putI F_Mo_270 P_Mo_odd i_Mo_run_468 (fun h2 => ?_)
  exact jd_less (t_Mo_run_471) ⟨rfl, trivial⟩
noncomputable def r_Mo_run_444 (C125 : ja_H → Nat → Int32 → Int32 → Option (Int64 × ja_H)) (h : ja_H) (y0 : Nat) (y1 : Int32) (y2 : Int32) : Option (Int64 × ja_H) := (C125 h y0 y1 y2)
theorem t_Mo_run_444 {C125 : ja_H → Nat → Int32 → Int32 → Option (Int64 × ja_H)} (k125 : ∀ (h : ja_H) (y0 : Nat) (y1 : Int32) (y2 : Int32), ja_D ja_gL M_Mo_run 125 [some (.ref y0), some (.int y1), some (.int y2), none, none, none, none, none, none] [] h (C125 h y0 y1 y2)) {h : ja_H} {y0 : Nat} {y1 : Int32} {y2 : Int32} : ja_D ja_gL M_Mo_run 444 [some (.ref y0), some (.int y1), some (.int y2), none, none, none, none, none, none] [] h (r_Mo_run_444 C125 h y0 y1 y2) := by
  unfold r_Mo_run_444
  refine jd_goto 125 i_Mo_run_444 (by decide) ?_
  exact jd_less (k125 _ _ _ _) ⟨rfl, rfl, rfl, trivial⟩
noncomputable def r_Mo_run_441 (C125 : ja_H → Nat → Int32 → Int32 → Option (Int64 × ja_H)) (h : ja_H) (y0 : Nat) (y1 : Int32) (y2 : Int32) : Option (Int64 × ja_H) := (jl (y2 + 1 : Int32) (fun (x1 : Int32) => (r_Mo_run_444 C125 h y0 y1 x1)))
theorem t_Mo_run_441 {C125 : ja_H → Nat → Int32 → Int32 → Option (Int64 × ja_H)} (k125 : ∀ (h : ja_H) (y0 : Nat) (y1 : Int32) (y2 : Int32), ja_D ja_gL M_Mo_run 125 [some (.ref y0), some (.int y1), some (.int y2), none, none, none, none, none, none] [] h (C125 h y0 y1 y2)) {h : ja_H} {y0 : Nat} {y1 : Int32} {y2 : Int32} : ja_D ja_gL M_Mo_run 441 [some (.ref y0), some (.int y1), some (.int y2), none, none, none, none, none, none] [] h (r_Mo_run_441 C125 h y0 y1 y2) := by
  unfold r_Mo_run_441
  refine jd_iinc (fun x1 => [some (.ref y0), some (.int y1), some (.int x1), none, none, none, none, none, none]) i_Mo_run_441 rfl rfl (by decide) rfl (fun _ => rfl) (fun x1 => ?_)
  exact jd_less (t_Mo_run_444 k125) ⟨rfl, rfl, rfl, trivial⟩
noncomputable def r_Mo_run_391 (C125 : ja_H → Nat → Int32 → Int32 → Option (Int64 × ja_H)) (h : ja_H) (y0 : Nat) (y1 : Int32) (y2 : Int32) (y4 : Int32) (y6 : Int64) (z0 : Int32) : Option (Int64 × ja_H) := (jl (z0 : Int32) (fun (x1 : Int32) => (jf_R h y0 9 19 (fun a2 => (jf_R h y0 9 19 (fun a3 => (je_L h a3 y4 (fun v4 => (jk h y0 9 (jc_L (r_Mo_machine h y0 y2 v4 y6) (fun v6 h5 => (js_L h5 a2 y4 v6 (fun h7 => (jf_R h7 y0 9 17 (fun a8 => (js_I h7 a8 y4 x1 (fun h9 => (r_Mo_run_441 C125 h9 y0 y1 y2))))))))))))))))))
theorem t_Mo_run_391 {C125 : ja_H → Nat → Int32 → Int32 → Option (Int64 × ja_H)} (k125 : ∀ (h : ja_H) (y0 : Nat) (y1 : Int32) (y2 : Int32), ja_D ja_gL M_Mo_run 125 [some (.ref y0), some (.int y1), some (.int y2), none, none, none, none, none, none] [] h (C125 h y0 y1 y2)) {h : ja_H} {y0 : Nat} {y1 : Int32} {y2 : Int32} {y4 : Int32} {y6 : Int64} {z0 : Int32} : ja_D ja_gL M_Mo_run 391 [some (.ref y0), some (.int y1), some (.int y2), none, some (.int y4), none, some (.long y6), none, none] [.int z0] h (r_Mo_run_391 C125 h y0 y1 y2 y4 y6 z0) := by
  unfold r_Mo_run_391
  refine jd_istore (fun x1 => [some (.ref y0), some (.int y1), some (.int y2), none, some (.int y4), none, some (.long y6), none, some (.int x1)]) i_Mo_run_391 (by decide) rfl (fun _ => rfl) (fun x1 => ?_)
  refine jd_aload_n i_Mo_run_393 rfl ?_
  refine jd_getR F_Mo_49 i_Mo_run_394 (fun a2 => ?_)
  refine jd_iload i_Mo_run_397 rfl ?_
  refine jd_aload_n i_Mo_run_399 rfl ?_
  refine jd_iload_n i_Mo_run_400 rfl ?_
  refine jd_aload_n i_Mo_run_401 rfl ?_
  refine jd_getR F_Mo_49 i_Mo_run_402 (fun a3 => ?_)
  refine jd_iload i_Mo_run_405 rfl ?_
  refine jd_lald i_Mo_run_407 (fun v4 => ?_)
  refine jd_lload i_Mo_run_408 rfl ?_
  refine jd_callVL G_Mo_211 in_Mo_machine se_Mo_machine rfl (fun _ e => c_Mo_machine e) rfl ⟨by decide, by decide⟩ rfl (Nat.le_of_ble_eq_true rfl) i_Mo_run_410 (fun v6 h5 => ?_)
  refine jd_last i_Mo_run_413 (fun h7 => ?_)
  refine jd_aload_n i_Mo_run_414 rfl ?_
  refine jd_getR F_Mo_43 i_Mo_run_415 (fun a8 => ?_)
  refine jd_iload i_Mo_run_418 rfl ?_
  refine jd_iload i_Mo_run_420 rfl ?_
  refine jd_iast i_Mo_run_422 (fun h9 => ?_)
  refine jd_goto 441 i_Mo_run_423 (by decide) ?_
  exact jd_less (t_Mo_run_441 k125) ⟨rfl, rfl, rfl, trivial⟩
noncomputable def r_Mo_run_388 (C125 : ja_H → Nat → Int32 → Int32 → Option (Int64 × ja_H)) (h : ja_H) (y0 : Nat) (y1 : Int32) (y2 : Int32) (y4 : Int32) (y6 : Int64) (z0 : Int32) (z1 : Int32) : Option (Int64 × ja_H) := (jc_I (r_Mt_max_I h z1 z0) (fun v2 h1 => (r_Mo_run_391 C125 h1 y0 y1 y2 y4 y6 v2)))
theorem t_Mo_run_388 {C125 : ja_H → Nat → Int32 → Int32 → Option (Int64 × ja_H)} (k125 : ∀ (h : ja_H) (y0 : Nat) (y1 : Int32) (y2 : Int32), ja_D ja_gL M_Mo_run 125 [some (.ref y0), some (.int y1), some (.int y2), none, none, none, none, none, none] [] h (C125 h y0 y1 y2)) {h : ja_H} {y0 : Nat} {y1 : Int32} {y2 : Int32} {y4 : Int32} {y6 : Int64} {z0 : Int32} {z1 : Int32} : ja_D ja_gL M_Mo_run 388 [some (.ref y0), some (.int y1), some (.int y2), none, some (.int y4), none, some (.long y6), none, none] [.int z0, .int z1] h (r_Mo_run_388 C125 h y0 y1 y2 y4 y6 z0 z1) := by
  unfold r_Mo_run_388
  refine jd_callSI G_Mo_264 sc_Mt_max_I (fun _ e => c_Mt_max_I e) rfl ⟨by decide, by decide⟩ rfl (Nat.le_of_ble_eq_true rfl) i_Mo_run_388 (fun v2 h1 => ?_)
  exact jd_less (t_Mo_run_391 k125) ⟨rfl, rfl, rfl, rfl, rfl, trivial⟩
noncomputable def r_Mo_run_270 (C125 : ja_H → Nat → Int32 → Int32 → Option (Int64 × ja_H)) (h : ja_H) (y0 : Nat) (y1 : Int32) (z0 : Int32) (z1 : Int32) (z2 : Int32) : Option (Int64 × ja_H) := (jl ((z2 + (z1 + z0)) : Int32) (fun (x1 : Int32) => (r_Mo_run_444 C125 h y0 y1 x1)))
theorem t_Mo_run_270 {C125 : ja_H → Nat → Int32 → Int32 → Option (Int64 × ja_H)} (k125 : ∀ (h : ja_H) (y0 : Nat) (y1 : Int32) (y2 : Int32), ja_D ja_gL M_Mo_run 125 [some (.ref y0), some (.int y1), some (.int y2), none, none, none, none, none, none] [] h (C125 h y0 y1 y2)) {h : ja_H} {y0 : Nat} {y1 : Int32} {z0 : Int32} {z1 : Int32} {z2 : Int32} : ja_D ja_gL M_Mo_run 270 [some (.ref y0), some (.int y1), none, none, none, none, none, none, none] [.int z0, .int z1, .int z2] h (r_Mo_run_270 C125 h y0 y1 z0 z1 z2) := by
  unfold r_Mo_run_270
  refine jd_iadd i_Mo_run_270 ?_
  refine jd_iadd i_Mo_run_271 ?_
  refine jd_istore_n (fun x1 => [some (.ref y0), some (.int y1), some (.int x1), none, none, none, none, none, none]) i_Mo_run_272 (by decide) rfl (fun _ => rfl) (fun x1 => ?_)
  refine jd_goto 444 i_Mo_run_273 (by decide) ?_
  exact jd_less (t_Mo_run_444 k125) ⟨rfl, rfl, rfl, trivial⟩
noncomputable def r_Mo_run_261 (C125 : ja_H → Nat → Int32 → Int32 → Option (Int64 × ja_H)) (h : ja_H) (y0 : Nat) (y1 : Int32) (y2 : Int32) (z0 : Int32) (z1 : Int32) : Option (Int64 × ja_H) := (jk h y0 9 (jc_I (r_Mo_off h y0 y2) (fun v2 h1 => (r_Mo_run_270 C125 h1 y0 y1 v2 z0 z1))))
theorem t_Mo_run_261 {C125 : ja_H → Nat → Int32 → Int32 → Option (Int64 × ja_H)} (k125 : ∀ (h : ja_H) (y0 : Nat) (y1 : Int32) (y2 : Int32), ja_D ja_gL M_Mo_run 125 [some (.ref y0), some (.int y1), some (.int y2), none, none, none, none, none, none] [] h (C125 h y0 y1 y2)) {h : ja_H} {y0 : Nat} {y1 : Int32} {y2 : Int32} {z0 : Int32} {z1 : Int32} : ja_D ja_gL M_Mo_run 261 [some (.ref y0), some (.int y1), some (.int y2), none, none, none, none, none, none] [.int z0, .int z1] h (r_Mo_run_261 C125 h y0 y1 y2 z0 z1) := by
  unfold r_Mo_run_261
  refine jd_aload_n i_Mo_run_261 rfl ?_
  refine jd_iload_n i_Mo_run_262 rfl ?_
  refine jd_callVI G_Mo_119 in_Mo_off se_Mo_off rfl (fun _ e => c_Mo_off e) rfl ⟨by decide, by decide⟩ rfl (Nat.le_of_ble_eq_true rfl) i_Mo_run_263 (fun v2 h1 => ?_)
  refine jd_goto 270 i_Mo_run_266 (by decide) ?_
  exact jd_less (t_Mo_run_270 k125) ⟨rfl, rfl, trivial⟩
noncomputable def r_Mo_run_227 (C125 : ja_H → Nat → Int32 → Int32 → Option (Int64 × ja_H)) (h : ja_H) (y0 : Nat) (y1 : Int32) (y2 : Int32) (y3 : Int32) (y4 : Int32) (y5 : Int32) (z0 : Int64) : Option (Int64 × ja_H) := (jl (z0 : Int64) (fun (x1 : Int64) => (jc_I (r_Mo_test h y3) (fun v3 h2 => (if v3 = (0 : Int32) then (if y3 = (24 : Int32) then (jf_R h2 y0 9 19 (fun a19 => (jk h2 y0 9 (jc_I (r_Mo_imm h2 y0 y2) (fun v21 h20 => (jk h20 y0 9 (jc_I (r_Mo_imm h20 y0 (y2 + (1 : Int32))) (fun v23 h22 => (js_L h22 a19 y4 (((Int32.toInt64 v21) &&& (4294967295 : Int64)) ||| ((Int32.toInt64 v23) <<< (Int32.toInt64 (32 : Int32) &&& 63))) (fun h24 => (jf_R h24 y0 9 17 (fun a25 => (js_I h24 a25 y4 (1 : Int32) (fun h26 => (jl (y2 + 2 : Int32) (fun (x27 : Int32) => (r_Mo_run_444 C125 h26 y0 y1 x27))))))))))))))))) else (jc_I (r_Mo_sum h2 y3) (fun v5 h4 => (if v5 = (0 : Int32) then (jk h4 y0 9 (jc_I (r_Mo_moved h4 y0 y2 y3 y4 y5) (fun v7 h6 => (if v7 = (0 : Int32) then (jl ((1 : Int32) : Int32) (fun (x8 : Int32) => (r_Mo_run_441 C125 h6 y0 x8 y2))) else (r_Mo_run_441 C125 h6 y0 y1 y2))))) else (if (y3 >>> ((4 : Int32) &&& 31)) = (11 : Int32) then (jk h4 y0 9 (jc_I (r_Mo_usesS h4 y0 y2) (fun v16 h15 => (if v16 = (0 : Int32) then (r_Mo_run_391 C125 h15 y0 y1 y2 y4 x1 (1 : Int32)) else (jf_R h15 y0 9 17 (fun a17 => (je_I h15 a17 0 y5 (fun v18 => (r_Mo_run_391 C125 h15 y0 y1 y2 y4 x1 v18))))))))) else (jf_R h4 y0 9 17 (fun a9 => (je_I h4 a9 0 y4 (fun v10 => (jk h4 y0 9 (jc_I (r_Mo_usesS h4 y0 y2) (fun v12 h11 => (if v12 = (0 : Int32) then (r_Mo_run_388 C125 h11 y0 y1 y2 y4 x1 (1 : Int32) v10) else (jf_R h11 y0 9 17 (fun a13 => (je_I h11 a13 0 y5 (fun v14 => (r_Mo_run_388 C125 h11 y0 y1 y2 y4 x1 v14 v10)))))))))))))))))) else (jc_I (r_Mo_go h2 y3) (fun v29 h28 => (if v29 = (0 : Int32) then (jf_R h28 y0 9 19 (fun a30 => (je_L h28 a30 y4 (fun v31 => (jc_I (r_Mo_holds h28 y3 v31 x1) (fun v33 h32 => (if v33 = (0 : Int32) then (r_Mo_run_270 C125 h32 y0 y1 (0 : Int32) (1 : Int32) y2) else (r_Mo_run_261 C125 h32 y0 y1 y2 (1 : Int32) y2)))))))) else (r_Mo_run_261 C125 h28 y0 y1 y2 (1 : Int32) y2)))))))))
theorem t_Mo_run_227 {C125 : ja_H → Nat → Int32 → Int32 → Option (Int64 × ja_H)} (k125 : ∀ (h : ja_H) (y0 : Nat) (y1 : Int32) (y2 : Int32), ja_D ja_gL M_Mo_run 125 [some (.ref y0), some (.int y1), some (.int y2), none, none, none, none, none, none] [] h (C125 h y0 y1 y2)) {h : ja_H} {y0 : Nat} {y1 : Int32} {y2 : Int32} {y3 : Int32} {y4 : Int32} {y5 : Int32} {z0 : Int64} : ja_D ja_gL M_Mo_run 227 [some (.ref y0), some (.int y1), some (.int y2), some (.int y3), some (.int y4), some (.int y5), none, none, none] [.long z0] h (r_Mo_run_227 C125 h y0 y1 y2 y3 y4 y5 z0) := by
  unfold r_Mo_run_227
  refine jd_lstore (fun x1 => [some (.ref y0), some (.int y1), some (.int y2), some (.int y3), some (.int y4), some (.int y5), some (.long x1), none, none]) i_Mo_run_227 (by decide) rfl (fun _ => rfl) (fun x1 => ?_)
  refine jd_iload_n i_Mo_run_229 rfl ?_
  refine jd_callSI G_Mo_98 sc_Mo_test (fun _ e => c_Mo_test e) rfl ⟨by decide, by decide⟩ rfl (Nat.le_of_ble_eq_true rfl) i_Mo_run_230 (fun v3 h2 => ?_)
  refine jd_if_eq 276 i_Mo_run_233 (by decide) ?_ ?_
  · refine jd_iload_n i_Mo_run_276 rfl ?_
    refine jd_bipush 24 i_Mo_run_277 (by decide) ?_
    refine jd_icmp_ne 325 i_Mo_run_279 (by decide) ?_ ?_
    · refine jd_iload_n i_Mo_run_325 rfl ?_
      refine jd_callSI G_Mo_95 sc_Mo_sum (fun _ e => c_Mo_sum e) rfl ⟨by decide, by decide⟩ rfl (Nat.le_of_ble_eq_true rfl) i_Mo_run_326 (fun v5 h4 => ?_)
      refine jd_if_eq 426 i_Mo_run_329 (by decide) ?_ ?_
      · refine jd_aload_n i_Mo_run_426 rfl ?_
        refine jd_iload_n i_Mo_run_427 rfl ?_
        refine jd_iload_n i_Mo_run_428 rfl ?_
        refine jd_iload i_Mo_run_429 rfl ?_
        refine jd_iload i_Mo_run_431 rfl ?_
        refine jd_callVI G_Mo_266 in_Mo_moved se_Mo_moved rfl (fun _ e => c_Mo_moved e) rfl ⟨by decide, by decide⟩ rfl (Nat.le_of_ble_eq_true rfl) i_Mo_run_433 (fun v7 h6 => ?_)
        refine jd_if_ne 441 i_Mo_run_436 (by decide) ?_ ?_
        · exact jd_less (t_Mo_run_441 k125) ⟨rfl, rfl, rfl, trivial⟩
        · refine jd_iconst 1 i_Mo_run_439 (by decide) ?_
          refine jd_istore_n (fun x8 => [some (.ref y0), some (.int x8), some (.int y2), some (.int y3), some (.int y4), some (.int y5), some (.long x1), none, none]) i_Mo_run_440 (by decide) rfl (fun _ => rfl) (fun x8 => ?_)
          exact jd_less (t_Mo_run_441 k125) ⟨rfl, rfl, rfl, trivial⟩
      · refine jd_iload_n i_Mo_run_332 rfl ?_
        refine jd_iconst 4 i_Mo_run_333 (by decide) ?_
        refine jd_ishr i_Mo_run_334 ?_
        refine jd_bipush 11 i_Mo_run_335 (by decide) ?_
        refine jd_icmp_ne 362 i_Mo_run_337 (by decide) ?_ ?_
        · refine jd_aload_n i_Mo_run_362 rfl ?_
          refine jd_getR F_Mo_43 i_Mo_run_363 (fun a9 => ?_)
          refine jd_iload i_Mo_run_366 rfl ?_
          refine jd_iald i_Mo_run_368 (fun v10 => ?_)
          refine jd_aload_n i_Mo_run_369 rfl ?_
          refine jd_iload_n i_Mo_run_370 rfl ?_
          refine jd_callVI G_Mo_116 in_Mo_usesS se_Mo_usesS rfl (fun _ e => c_Mo_usesS e) rfl ⟨by decide, by decide⟩ rfl (Nat.le_of_ble_eq_true rfl) i_Mo_run_371 (fun v12 h11 => ?_)
          refine jd_if_eq 387 i_Mo_run_374 (by decide) ?_ ?_
          · refine jd_iconst 1 i_Mo_run_387 (by decide) ?_
            exact jd_less (t_Mo_run_388 k125) ⟨rfl, rfl, rfl, rfl, rfl, trivial⟩
          · refine jd_aload_n i_Mo_run_377 rfl ?_
            refine jd_getR F_Mo_43 i_Mo_run_378 (fun a13 => ?_)
            refine jd_iload i_Mo_run_381 rfl ?_
            refine jd_iald i_Mo_run_383 (fun v14 => ?_)
            refine jd_goto 388 i_Mo_run_384 (by decide) ?_
            exact jd_less (t_Mo_run_388 k125) ⟨rfl, rfl, rfl, rfl, rfl, trivial⟩
        · refine jd_aload_n i_Mo_run_340 rfl ?_
          refine jd_iload_n i_Mo_run_341 rfl ?_
          refine jd_callVI G_Mo_116 in_Mo_usesS se_Mo_usesS rfl (fun _ e => c_Mo_usesS e) rfl ⟨by decide, by decide⟩ rfl (Nat.le_of_ble_eq_true rfl) i_Mo_run_342 (fun v16 h15 => ?_)
          refine jd_if_eq 358 i_Mo_run_345 (by decide) ?_ ?_
          · refine jd_iconst 1 i_Mo_run_358 (by decide) ?_
            refine jd_goto 391 i_Mo_run_359 (by decide) ?_
            exact jd_less (t_Mo_run_391 k125) ⟨rfl, rfl, rfl, rfl, rfl, trivial⟩
          · refine jd_aload_n i_Mo_run_348 rfl ?_
            refine jd_getR F_Mo_43 i_Mo_run_349 (fun a17 => ?_)
            refine jd_iload i_Mo_run_352 rfl ?_
            refine jd_iald i_Mo_run_354 (fun v18 => ?_)
            refine jd_goto 391 i_Mo_run_355 (by decide) ?_
            exact jd_less (t_Mo_run_391 k125) ⟨rfl, rfl, rfl, rfl, rfl, trivial⟩
    · refine jd_aload_n i_Mo_run_282 rfl ?_
      refine jd_getR F_Mo_49 i_Mo_run_283 (fun a19 => ?_)
      refine jd_iload i_Mo_run_286 rfl ?_
      refine jd_aload_n i_Mo_run_288 rfl ?_
      refine jd_iload_n i_Mo_run_289 rfl ?_
      refine jd_callVI G_Mo_92 in_Mo_imm se_Mo_imm rfl (fun _ e => c_Mo_imm e) rfl ⟨by decide, by decide⟩ rfl (Nat.le_of_ble_eq_true rfl) i_Mo_run_290 (fun v21 h20 => ?_)
      refine jd_i2l i_Mo_run_293 ?_
      refine jd_ldc2 i_Mo_run_294 K_Mo_122 ?_
      refine jd_land i_Mo_run_297 ?_
      refine jd_aload_n i_Mo_run_298 rfl ?_
      refine jd_iload_n i_Mo_run_299 rfl ?_
      refine jd_iconst 1 i_Mo_run_300 (by decide) ?_
      refine jd_iadd i_Mo_run_301 ?_
      refine jd_callVI G_Mo_92 in_Mo_imm se_Mo_imm rfl (fun _ e => c_Mo_imm e) rfl ⟨by decide, by decide⟩ rfl (Nat.le_of_ble_eq_true rfl) i_Mo_run_302 (fun v23 h22 => ?_)
      refine jd_i2l i_Mo_run_305 ?_
      refine jd_bipush 32 i_Mo_run_306 (by decide) ?_
      refine jd_lshl i_Mo_run_308 ?_
      refine jd_lor i_Mo_run_309 ?_
      refine jd_last i_Mo_run_310 (fun h24 => ?_)
      refine jd_aload_n i_Mo_run_311 rfl ?_
      refine jd_getR F_Mo_43 i_Mo_run_312 (fun a25 => ?_)
      refine jd_iload i_Mo_run_315 rfl ?_
      refine jd_iconst 1 i_Mo_run_317 (by decide) ?_
      refine jd_iast i_Mo_run_318 (fun h26 => ?_)
      refine jd_iinc (fun x27 => [some (.ref y0), some (.int y1), some (.int x27), some (.int y3), some (.int y4), some (.int y5), some (.long x1), none, none]) i_Mo_run_319 rfl rfl (by decide) rfl (fun _ => rfl) (fun x27 => ?_)
      refine jd_goto 444 i_Mo_run_322 (by decide) ?_
      exact jd_less (t_Mo_run_444 k125) ⟨rfl, rfl, rfl, trivial⟩
  · refine jd_iload_n i_Mo_run_236 rfl ?_
    refine jd_iconst 1 i_Mo_run_237 (by decide) ?_
    refine jd_iload_n i_Mo_run_238 rfl ?_
    refine jd_callSI G_Mo_101 sc_Mo_go (fun _ e => c_Mo_go e) rfl ⟨by decide, by decide⟩ rfl (Nat.le_of_ble_eq_true rfl) i_Mo_run_239 (fun v29 h28 => ?_)
    refine jd_if_ne 261 i_Mo_run_242 (by decide) ?_ ?_
    · exact jd_less (t_Mo_run_261 k125) ⟨rfl, rfl, rfl, trivial⟩
    · refine jd_iload_n i_Mo_run_245 rfl ?_
      refine jd_aload_n i_Mo_run_246 rfl ?_
      refine jd_getR F_Mo_49 i_Mo_run_247 (fun a30 => ?_)
      refine jd_iload i_Mo_run_250 rfl ?_
      refine jd_lald i_Mo_run_252 (fun v31 => ?_)
      refine jd_lload i_Mo_run_253 rfl ?_
      refine jd_callSI G_Mo_260 sc_Mo_holds (fun _ e => c_Mo_holds e) rfl ⟨by decide, by decide⟩ rfl (Nat.le_of_ble_eq_true rfl) i_Mo_run_255 (fun v33 h32 => ?_)
      refine jd_if_eq 269 i_Mo_run_258 (by decide) ?_ ?_
      · refine jd_iconst 0 i_Mo_run_269 (by decide) ?_
        exact jd_less (t_Mo_run_270 k125) ⟨rfl, rfl, trivial⟩
      · exact jd_less (t_Mo_run_261 k125) ⟨rfl, rfl, rfl, trivial⟩
noncomputable def r_Mo_run_193 (C125 : ja_H → Nat → Int32 → Int32 → Option (Int64 × ja_H)) (h : ja_H) (y0 : Nat) (y1 : Int32) (y2 : Int32) (y3 : Int32) (y4 : Int32) (y5 : Int32) : Option (Int64 × ja_H) := (if y3 = (149 : Int32) then (if y1 = (0 : Int32) then (jf_R h y0 9 17 (fun a7 => (je_I h a7 0 (0 : Int32) (fun v8 => (if v8 = (1 : Int32) then (r_Mo_run_471 h y0) else (r_Mo_run_461 h y0)))))) else (r_Mo_run_461 h y0)) else (jk h y0 9 (jc_I (r_Mo_usesS h y0 y2) (fun v2 h1 => (if v2 = (0 : Int32) then (jk h1 y0 9 (jc_I (r_Mo_imm h1 y0 y2) (fun v4 h3 => (r_Mo_run_227 C125 h3 y0 y1 y2 y3 y4 y5 (Int32.toInt64 v4))))) else (jf_R h1 y0 9 19 (fun a5 => (je_L h1 a5 y5 (fun v6 => (r_Mo_run_227 C125 h1 y0 y1 y2 y3 y4 y5 v6))))))))))
theorem t_Mo_run_193 {C125 : ja_H → Nat → Int32 → Int32 → Option (Int64 × ja_H)} (k125 : ∀ (h : ja_H) (y0 : Nat) (y1 : Int32) (y2 : Int32), ja_D ja_gL M_Mo_run 125 [some (.ref y0), some (.int y1), some (.int y2), none, none, none, none, none, none] [] h (C125 h y0 y1 y2)) {h : ja_H} {y0 : Nat} {y1 : Int32} {y2 : Int32} {y3 : Int32} {y4 : Int32} {y5 : Int32} : ja_D ja_gL M_Mo_run 193 [some (.ref y0), some (.int y1), some (.int y2), some (.int y3), some (.int y4), some (.int y5), none, none, none] [] h (r_Mo_run_193 C125 h y0 y1 y2 y3 y4 y5) := by
  unfold r_Mo_run_193
  refine jd_iload_n i_Mo_run_193 rfl ?_
  refine jd_sipush 149 i_Mo_run_194 (by decide) ?_
  refine jd_icmp_ne 203 i_Mo_run_197 (by decide) ?_ ?_
  · refine jd_aload_n i_Mo_run_203 rfl ?_
    refine jd_iload_n i_Mo_run_204 rfl ?_
    refine jd_callVI G_Mo_116 in_Mo_usesS se_Mo_usesS rfl (fun _ e => c_Mo_usesS e) rfl ⟨by decide, by decide⟩ rfl (Nat.le_of_ble_eq_true rfl) i_Mo_run_205 (fun v2 h1 => ?_)
    refine jd_if_eq 221 i_Mo_run_208 (by decide) ?_ ?_
    · refine jd_aload_n i_Mo_run_221 rfl ?_
      refine jd_iload_n i_Mo_run_222 rfl ?_
      refine jd_callVI G_Mo_92 in_Mo_imm se_Mo_imm rfl (fun _ e => c_Mo_imm e) rfl ⟨by decide, by decide⟩ rfl (Nat.le_of_ble_eq_true rfl) i_Mo_run_223 (fun v4 h3 => ?_)
      refine jd_i2l i_Mo_run_226 ?_
      exact jd_less (t_Mo_run_227 k125) ⟨rfl, rfl, rfl, rfl, rfl, rfl, trivial⟩
    · refine jd_aload_n i_Mo_run_211 rfl ?_
      refine jd_getR F_Mo_49 i_Mo_run_212 (fun a5 => ?_)
      refine jd_iload i_Mo_run_215 rfl ?_
      refine jd_lald i_Mo_run_217 (fun v6 => ?_)
      refine jd_goto 227 i_Mo_run_218 (by decide) ?_
      exact jd_less (t_Mo_run_227 k125) ⟨rfl, rfl, rfl, rfl, rfl, rfl, trivial⟩
  · refine jd_goto 447 i_Mo_run_200 (by decide) ?_
    refine jd_iload_n i_Mo_run_447 rfl ?_
    refine jd_if_ne 461 i_Mo_run_448 (by decide) ?_ ?_
    · exact jd_less (t_Mo_run_461) ⟨rfl, trivial⟩
    · refine jd_aload_n i_Mo_run_451 rfl ?_
      refine jd_getR F_Mo_43 i_Mo_run_452 (fun a7 => ?_)
      refine jd_iconst 0 i_Mo_run_455 (by decide) ?_
      refine jd_iald i_Mo_run_456 (fun v8 => ?_)
      refine jd_iconst 1 i_Mo_run_457 (by decide) ?_
      refine jd_icmp_eq 471 i_Mo_run_458 (by decide) ?_ ?_
      · exact jd_less (t_Mo_run_471) ⟨rfl, trivial⟩
      · exact jd_less (t_Mo_run_461) ⟨rfl, trivial⟩
noncomputable def r_Mo_run_191 (C125 : ja_H → Nat → Int32 → Int32 → Option (Int64 × ja_H)) (h : ja_H) (y0 : Nat) (y2 : Int32) (y3 : Int32) (y4 : Int32) (y5 : Int32) : Option (Int64 × ja_H) := (jl ((1 : Int32) : Int32) (fun (x1 : Int32) => (r_Mo_run_193 C125 h y0 x1 y2 y3 y4 y5)))
theorem t_Mo_run_191 {C125 : ja_H → Nat → Int32 → Int32 → Option (Int64 × ja_H)} (k125 : ∀ (h : ja_H) (y0 : Nat) (y1 : Int32) (y2 : Int32), ja_D ja_gL M_Mo_run 125 [some (.ref y0), some (.int y1), some (.int y2), none, none, none, none, none, none] [] h (C125 h y0 y1 y2)) {h : ja_H} {y0 : Nat} {y2 : Int32} {y3 : Int32} {y4 : Int32} {y5 : Int32} : ja_D ja_gL M_Mo_run 191 [some (.ref y0), none, some (.int y2), some (.int y3), some (.int y4), some (.int y5), none, none, none] [] h (r_Mo_run_191 C125 h y0 y2 y3 y4 y5) := by
  unfold r_Mo_run_191
  refine jd_iconst 1 i_Mo_run_191 (by decide) ?_
  refine jd_istore_n (fun x1 => [some (.ref y0), some (.int x1), some (.int y2), some (.int y3), some (.int y4), some (.int y5), none, none, none]) i_Mo_run_192 (by decide) rfl (fun _ => rfl) (fun x1 => ?_)
  exact jd_less (t_Mo_run_193 k125) ⟨rfl, rfl, rfl, rfl, rfl, rfl, trivial⟩
noncomputable def r_Mo_run_173 (C125 : ja_H → Nat → Int32 → Int32 → Option (Int64 × ja_H)) (h : ja_H) (y0 : Nat) (y1 : Int32) (y2 : Int32) (y3 : Int32) (y4 : Int32) (y5 : Int32) : Option (Int64 × ja_H) := (jk h y0 9 (jc_I (r_Mo_usesS h y0 y2) (fun v2 h1 => (if v2 = (0 : Int32) then (r_Mo_run_193 C125 h1 y0 y1 y2 y3 y4 y5) else (jf_R h1 y0 9 17 (fun a3 => (je_I h1 a3 0 y5 (fun v4 => (if v4 = (0 : Int32) then (r_Mo_run_191 C125 h1 y0 y2 y3 y4 y5) else (r_Mo_run_193 C125 h1 y0 y1 y2 y3 y4 y5))))))))))
theorem t_Mo_run_173 {C125 : ja_H → Nat → Int32 → Int32 → Option (Int64 × ja_H)} (k125 : ∀ (h : ja_H) (y0 : Nat) (y1 : Int32) (y2 : Int32), ja_D ja_gL M_Mo_run 125 [some (.ref y0), some (.int y1), some (.int y2), none, none, none, none, none, none] [] h (C125 h y0 y1 y2)) {h : ja_H} {y0 : Nat} {y1 : Int32} {y2 : Int32} {y3 : Int32} {y4 : Int32} {y5 : Int32} : ja_D ja_gL M_Mo_run 173 [some (.ref y0), some (.int y1), some (.int y2), some (.int y3), some (.int y4), some (.int y5), none, none, none] [] h (r_Mo_run_173 C125 h y0 y1 y2 y3 y4 y5) := by
  unfold r_Mo_run_173
  refine jd_aload_n i_Mo_run_173 rfl ?_
  refine jd_iload_n i_Mo_run_174 rfl ?_
  refine jd_callVI G_Mo_116 in_Mo_usesS se_Mo_usesS rfl (fun _ e => c_Mo_usesS e) rfl ⟨by decide, by decide⟩ rfl (Nat.le_of_ble_eq_true rfl) i_Mo_run_175 (fun v2 h1 => ?_)
  refine jd_if_eq 193 i_Mo_run_178 (by decide) ?_ ?_
  · exact jd_less (t_Mo_run_193 k125) ⟨rfl, rfl, rfl, rfl, rfl, rfl, trivial⟩
  · refine jd_aload_n i_Mo_run_181 rfl ?_
    refine jd_getR F_Mo_43 i_Mo_run_182 (fun a3 => ?_)
    refine jd_iload i_Mo_run_185 rfl ?_
    refine jd_iald i_Mo_run_187 (fun v4 => ?_)
    refine jd_if_ne 193 i_Mo_run_188 (by decide) ?_ ?_
    · exact jd_less (t_Mo_run_193 k125) ⟨rfl, rfl, rfl, rfl, rfl, rfl, trivial⟩
    · exact jd_less (t_Mo_run_191 k125) ⟨rfl, rfl, rfl, rfl, rfl, trivial⟩
noncomputable def q_Mo_run_125 (C125 : ja_H → Nat → Int32 → Int32 → Option (Int64 × ja_H)) (h : ja_H) (y0 : Nat) (y1 : Int32) (y2 : Int32) : Option (Int64 × ja_H) := (jk h y0 9 (jc_I (r_Mo_op h y0 y2) (fun v2 h1 => (jl (v2 : Int32) (fun (x3 : Int32) => (jk h1 y0 9 (jc_I (r_Mo_d h1 y0 y2) (fun v5 h4 => (jl (v5 : Int32) (fun (x6 : Int32) => (jk h4 y0 9 (jc_I (r_Mo_s h4 y0 y2) (fun v8 h7 => (jl (v8 : Int32) (fun (x9 : Int32) => (jf_I h7 y0 9 14 (fun v10 => (jp_I h7 y0 9 14 (v10 + (1 : Int32)) (fun h11 => (jk h11 y0 9 (jc_I (r_Mo_usesD h11 y0 y2) (fun v13 h12 => (if v13 = (0 : Int32) then (r_Mo_run_173 C125 h12 y0 y1 y2 x3 x6 x9) else (jf_R h12 y0 9 17 (fun a14 => (je_I h12 a14 0 x6 (fun v15 => (if v15 = (0 : Int32) then (r_Mo_run_191 C125 h12 y0 y2 x3 x6 x9) else (r_Mo_run_173 C125 h12 y0 y1 y2 x3 x6 x9)))))))))))))))))))))))))))))
theorem t_Mo_run_125 {C125 : ja_H → Nat → Int32 → Int32 → Option (Int64 × ja_H)} (k125 : ∀ (h : ja_H) (y0 : Nat) (y1 : Int32) (y2 : Int32), ja_D ja_gL M_Mo_run 125 [some (.ref y0), some (.int y1), some (.int y2), none, none, none, none, none, none] [] h (C125 h y0 y1 y2)) {h : ja_H} {y0 : Nat} {y1 : Int32} {y2 : Int32} : ja_D ja_gL M_Mo_run 125 [some (.ref y0), some (.int y1), some (.int y2), none, none, none, none, none, none] [] h (q_Mo_run_125 C125 h y0 y1 y2) := by
  unfold q_Mo_run_125
  refine jd_aload_n i_Mo_run_125 rfl ?_
  refine jd_iload_n i_Mo_run_126 rfl ?_
  refine jd_callVI G_Mo_78 in_Mo_op se_Mo_op rfl (fun _ e => c_Mo_op e) rfl ⟨by decide, by decide⟩ rfl (Nat.le_of_ble_eq_true rfl) i_Mo_run_127 (fun v2 h1 => ?_)
  refine jd_istore_n (fun x3 => [some (.ref y0), some (.int y1), some (.int y2), some (.int x3), none, none, none, none, none]) i_Mo_run_130 (by decide) rfl (fun _ => rfl) (fun x3 => ?_)
  refine jd_aload_n i_Mo_run_131 rfl ?_
  refine jd_iload_n i_Mo_run_132 rfl ?_
  refine jd_callVI G_Mo_107 in_Mo_d se_Mo_d rfl (fun _ e => c_Mo_d e) rfl ⟨by decide, by decide⟩ rfl (Nat.le_of_ble_eq_true rfl) i_Mo_run_133 (fun v5 h4 => ?_)
  refine jd_istore (fun x6 => [some (.ref y0), some (.int y1), some (.int y2), some (.int x3), some (.int x6), none, none, none, none]) i_Mo_run_136 (by decide) rfl (fun _ => rfl) (fun x6 => ?_)
  refine jd_aload_n i_Mo_run_138 rfl ?_
  refine jd_iload_n i_Mo_run_139 rfl ?_
  refine jd_callVI G_Mo_110 in_Mo_s se_Mo_s rfl (fun _ e => c_Mo_s e) rfl ⟨by decide, by decide⟩ rfl (Nat.le_of_ble_eq_true rfl) i_Mo_run_140 (fun v8 h7 => ?_)
  refine jd_istore (fun x9 => [some (.ref y0), some (.int y1), some (.int y2), some (.int x3), some (.int x6), some (.int x9), none, none, none]) i_Mo_run_143 (by decide) rfl (fun _ => rfl) (fun x9 => ?_)
  refine jd_aload_n i_Mo_run_145 rfl ?_
  refine jd_dupR i_Mo_run_146 ?_
  refine jd_getI F_Mo_257 i_Mo_run_147 (fun v10 => ?_)
  refine jd_iconst 1 i_Mo_run_150 (by decide) ?_
  refine jd_iadd i_Mo_run_151 ?_
  refine jd_putI F_Mo_257 P_Mo_steps i_Mo_run_152 (fun h11 => ?_)
  refine jd_aload_n i_Mo_run_155 rfl ?_
  refine jd_iload_n i_Mo_run_156 rfl ?_
  refine jd_callVI G_Mo_171 in_Mo_usesD se_Mo_usesD rfl (fun _ e => c_Mo_usesD e) rfl ⟨by decide, by decide⟩ rfl (Nat.le_of_ble_eq_true rfl) i_Mo_run_157 (fun v13 h12 => ?_)
  refine jd_if_eq 173 i_Mo_run_160 (by decide) ?_ ?_
  · exact jd_less (t_Mo_run_173 k125) ⟨rfl, rfl, rfl, rfl, rfl, rfl, trivial⟩
  · refine jd_aload_n i_Mo_run_163 rfl ?_
    refine jd_getR F_Mo_43 i_Mo_run_164 (fun a14 => ?_)
    refine jd_iload i_Mo_run_167 rfl ?_
    refine jd_iald i_Mo_run_169 (fun v15 => ?_)
    refine jd_if_eq 191 i_Mo_run_170 (by decide) ?_ ?_
    · exact jd_less (t_Mo_run_191 k125) ⟨rfl, rfl, rfl, rfl, rfl, trivial⟩
    · exact jd_less (t_Mo_run_173 k125) ⟨rfl, rfl, rfl, rfl, rfl, rfl, trivial⟩
noncomputable def r_Mo_run_125 : Nat → ja_H → Nat → Int32 → Int32 → Option (Int64 × ja_H) := ja_lo (q_Mo_run_125) (fun _ _ _ _ => none)
theorem s_Mo_run_125 : ∀ (n : Nat) (h : ja_H) (y0 : Nat) (y1 : Int32) (y2 : Int32), ja_D ja_gL M_Mo_run 125 [some (.ref y0), some (.int y1), some (.int y2), none, none, none, none, none, none] [] h (r_Mo_run_125 n h y0 y1 y2) := by
  intro n
  induction n with
  | zero => intro h y0 y1 y2 o e; cases e
  | succ n ih => intro h y0 y1 y2; exact t_Mo_run_125 ih
noncomputable def q_Mo_run_66 (C66 : ja_H → Nat → Int32 → Option (Int64 × ja_H)) (h : ja_H) (y0 : Nat) (y1 : Int32) : Option (Int64 × ja_H) := (if (512 : Int32) ≤ y1 then (jf_R h y0 9 17 (fun a1 => (js_I h a1 (1 : Int32) (2 : Int32) (fun h2 => (jf_R h2 y0 9 19 (fun a3 => (js_L h2 a3 (1 : Int32) (0 : Int64) (fun h4 => (jf_R h4 y0 9 17 (fun a5 => (js_I h4 a5 (10 : Int32) (3 : Int32) (fun h6 => (jf_R h6 y0 9 19 (fun a7 => (js_L h6 a7 (10 : Int32) (0 : Int64) (fun h8 => (jp_I h8 y0 9 14 (0 : Int32) (fun h9 => (jl ((0 : Int32) : Int32) (fun (x10 : Int32) => (jl ((0 : Int32) : Int32) (fun (x11 : Int32) => (r_Mo_run_125 ja_fu h9 y0 x10 x11))))))))))))))))))))))) else (jf_R h y0 9 22 (fun a12 => (js_Z h a12 y1 (0 : Int32) (fun h13 => (jl (y1 + 1 : Int32) (fun (x14 : Int32) => (C66 h13 y0 x14))))))))
theorem t_Mo_run_66 {C66 : ja_H → Nat → Int32 → Option (Int64 × ja_H)} (k66 : ∀ (h : ja_H) (y0 : Nat) (y1 : Int32), ja_D ja_gL M_Mo_run 66 [some (.ref y0), some (.int y1), none, none, none, none, none, none, none] [] h (C66 h y0 y1)) {h : ja_H} {y0 : Nat} {y1 : Int32} : ja_D ja_gL M_Mo_run 66 [some (.ref y0), some (.int y1), none, none, none, none, none, none, none] [] h (q_Mo_run_66 C66 h y0 y1) := by
  unfold q_Mo_run_66
  refine jd_iload_n i_Mo_run_66 rfl ?_
  refine jd_sipush 512 i_Mo_run_67 (by decide) ?_
  refine jd_icmp_ge 86 i_Mo_run_70 (by decide) ?_ ?_
  · refine jd_aload_n i_Mo_run_86 rfl ?_
    refine jd_getR F_Mo_43 i_Mo_run_87 (fun a1 => ?_)
    refine jd_iconst 1 i_Mo_run_90 (by decide) ?_
    refine jd_iconst 2 i_Mo_run_91 (by decide) ?_
    refine jd_iast i_Mo_run_92 (fun h2 => ?_)
    refine jd_aload_n i_Mo_run_93 rfl ?_
    refine jd_getR F_Mo_49 i_Mo_run_94 (fun a3 => ?_)
    refine jd_iconst 1 i_Mo_run_97 (by decide) ?_
    refine jd_lconst 0 i_Mo_run_98 (by decide) ?_
    refine jd_last i_Mo_run_99 (fun h4 => ?_)
    refine jd_aload_n i_Mo_run_100 rfl ?_
    refine jd_getR F_Mo_43 i_Mo_run_101 (fun a5 => ?_)
    refine jd_bipush 10 i_Mo_run_104 (by decide) ?_
    refine jd_iconst 3 i_Mo_run_106 (by decide) ?_
    refine jd_iast i_Mo_run_107 (fun h6 => ?_)
    refine jd_aload_n i_Mo_run_108 rfl ?_
    refine jd_getR F_Mo_49 i_Mo_run_109 (fun a7 => ?_)
    refine jd_bipush 10 i_Mo_run_112 (by decide) ?_
    refine jd_lconst 0 i_Mo_run_114 (by decide) ?_
    refine jd_last i_Mo_run_115 (fun h8 => ?_)
    refine jd_aload_n i_Mo_run_116 rfl ?_
    refine jd_iconst 0 i_Mo_run_117 (by decide) ?_
    refine jd_putI F_Mo_257 P_Mo_steps i_Mo_run_118 (fun h9 => ?_)
    refine jd_iconst 0 i_Mo_run_121 (by decide) ?_
    refine jd_istore_n (fun x10 => [some (.ref y0), some (.int x10), none, none, none, none, none, none, none]) i_Mo_run_122 (by decide) rfl (fun _ => rfl) (fun x10 => ?_)
    refine jd_iconst 0 i_Mo_run_123 (by decide) ?_
    refine jd_istore_n (fun x11 => [some (.ref y0), some (.int x10), some (.int x11), none, none, none, none, none, none]) i_Mo_run_124 (by decide) rfl (fun _ => rfl) (fun x11 => ?_)
    exact jd_less (s_Mo_run_125 ja_fu _ _ _ _) ⟨rfl, rfl, rfl, trivial⟩
  · refine jd_aload_n i_Mo_run_73 rfl ?_
    refine jd_getR F_Mo_58 i_Mo_run_74 (fun a12 => ?_)
    refine jd_iload_n i_Mo_run_77 rfl ?_
    refine jd_iconst 0 i_Mo_run_78 (by decide) ?_
    refine jd_zast i_Mo_run_79 (fun h13 => ?_)
    refine jd_iinc (fun x14 => [some (.ref y0), some (.int x14), none, none, none, none, none, none, none]) i_Mo_run_80 rfl rfl (by decide) rfl (fun _ => rfl) (fun x14 => ?_)
    refine jd_goto 66 i_Mo_run_83 (by decide) ?_
    exact jd_less (k66 _ _ _) ⟨rfl, rfl, trivial⟩
noncomputable def r_Mo_run_66 : Nat → ja_H → Nat → Int32 → Option (Int64 × ja_H) := ja_lo (q_Mo_run_66) (fun _ _ _ => none)
theorem s_Mo_run_66 : ∀ (n : Nat) (h : ja_H) (y0 : Nat) (y1 : Int32), ja_D ja_gL M_Mo_run 66 [some (.ref y0), some (.int y1), none, none, none, none, none, none, none] [] h (r_Mo_run_66 n h y0 y1) := by
  intro n
  induction n with
  | zero => intro h y0 y1 o e; cases e
  | succ n ih => intro h y0 y1; exact t_Mo_run_66 ih
noncomputable def q_Mo_run_45 (C45 : ja_H → Nat → Int32 → Option (Int64 × ja_H)) (h : ja_H) (y0 : Nat) (y1 : Int32) : Option (Int64 × ja_H) := (if (64 : Int32) ≤ y1 then (jl ((0 : Int32) : Int32) (fun (x1 : Int32) => (r_Mo_run_66 ja_fu h y0 x1))) else (jf_R h y0 9 18 (fun a2 => (js_I h a2 y1 (0 : Int32) (fun h3 => (jl (y1 + 1 : Int32) (fun (x4 : Int32) => (C45 h3 y0 x4))))))))
theorem t_Mo_run_45 {C45 : ja_H → Nat → Int32 → Option (Int64 × ja_H)} (k45 : ∀ (h : ja_H) (y0 : Nat) (y1 : Int32), ja_D ja_gL M_Mo_run 45 [some (.ref y0), some (.int y1), none, none, none, none, none, none, none] [] h (C45 h y0 y1)) {h : ja_H} {y0 : Nat} {y1 : Int32} : ja_D ja_gL M_Mo_run 45 [some (.ref y0), some (.int y1), none, none, none, none, none, none, none] [] h (q_Mo_run_45 C45 h y0 y1) := by
  unfold q_Mo_run_45
  refine jd_iload_n i_Mo_run_45 rfl ?_
  refine jd_bipush 64 i_Mo_run_46 (by decide) ?_
  refine jd_icmp_ge 64 i_Mo_run_48 (by decide) ?_ ?_
  · refine jd_iconst 0 i_Mo_run_64 (by decide) ?_
    refine jd_istore_n (fun x1 => [some (.ref y0), some (.int x1), none, none, none, none, none, none, none]) i_Mo_run_65 (by decide) rfl (fun _ => rfl) (fun x1 => ?_)
    exact jd_less (s_Mo_run_66 ja_fu _ _ _) ⟨rfl, rfl, trivial⟩
  · refine jd_aload_n i_Mo_run_51 rfl ?_
    refine jd_getR F_Mo_46 i_Mo_run_52 (fun a2 => ?_)
    refine jd_iload_n i_Mo_run_55 rfl ?_
    refine jd_iconst 0 i_Mo_run_56 (by decide) ?_
    refine jd_iast i_Mo_run_57 (fun h3 => ?_)
    refine jd_iinc (fun x4 => [some (.ref y0), some (.int x4), none, none, none, none, none, none, none]) i_Mo_run_58 rfl rfl (by decide) rfl (fun _ => rfl) (fun x4 => ?_)
    refine jd_goto 45 i_Mo_run_61 (by decide) ?_
    exact jd_less (k45 _ _ _) ⟨rfl, rfl, trivial⟩
noncomputable def r_Mo_run_45 : Nat → ja_H → Nat → Int32 → Option (Int64 × ja_H) := ja_lo (q_Mo_run_45) (fun _ _ _ => none)
theorem s_Mo_run_45 : ∀ (n : Nat) (h : ja_H) (y0 : Nat) (y1 : Int32), ja_D ja_gL M_Mo_run 45 [some (.ref y0), some (.int y1), none, none, none, none, none, none, none] [] h (r_Mo_run_45 n h y0 y1) := by
  intro n
  induction n with
  | zero => intro h y0 y1 o e; cases e
  | succ n ih => intro h y0 y1; exact t_Mo_run_45 ih
noncomputable def q_Mo_run_24 (C24 : ja_H → Nat → Int32 → Option (Int64 × ja_H)) (h : ja_H) (y0 : Nat) (y1 : Int32) : Option (Int64 × ja_H) := (if (11 : Int32) ≤ y1 then (jl ((0 : Int32) : Int32) (fun (x1 : Int32) => (r_Mo_run_45 ja_fu h y0 x1))) else (jf_R h y0 9 17 (fun a2 => (js_I h a2 y1 (0 : Int32) (fun h3 => (jl (y1 + 1 : Int32) (fun (x4 : Int32) => (C24 h3 y0 x4))))))))
theorem t_Mo_run_24 {C24 : ja_H → Nat → Int32 → Option (Int64 × ja_H)} (k24 : ∀ (h : ja_H) (y0 : Nat) (y1 : Int32), ja_D ja_gL M_Mo_run 24 [some (.ref y0), some (.int y1), none, none, none, none, none, none, none] [] h (C24 h y0 y1)) {h : ja_H} {y0 : Nat} {y1 : Int32} : ja_D ja_gL M_Mo_run 24 [some (.ref y0), some (.int y1), none, none, none, none, none, none, none] [] h (q_Mo_run_24 C24 h y0 y1) := by
  unfold q_Mo_run_24
  refine jd_iload_n i_Mo_run_24 rfl ?_
  refine jd_bipush 11 i_Mo_run_25 (by decide) ?_
  refine jd_icmp_ge 43 i_Mo_run_27 (by decide) ?_ ?_
  · refine jd_iconst 0 i_Mo_run_43 (by decide) ?_
    refine jd_istore_n (fun x1 => [some (.ref y0), some (.int x1), none, none, none, none, none, none, none]) i_Mo_run_44 (by decide) rfl (fun _ => rfl) (fun x1 => ?_)
    exact jd_less (s_Mo_run_45 ja_fu _ _ _) ⟨rfl, rfl, trivial⟩
  · refine jd_aload_n i_Mo_run_30 rfl ?_
    refine jd_getR F_Mo_43 i_Mo_run_31 (fun a2 => ?_)
    refine jd_iload_n i_Mo_run_34 rfl ?_
    refine jd_iconst 0 i_Mo_run_35 (by decide) ?_
    refine jd_iast i_Mo_run_36 (fun h3 => ?_)
    refine jd_iinc (fun x4 => [some (.ref y0), some (.int x4), none, none, none, none, none, none, none]) i_Mo_run_37 rfl rfl (by decide) rfl (fun _ => rfl) (fun x4 => ?_)
    refine jd_goto 24 i_Mo_run_40 (by decide) ?_
    exact jd_less (k24 _ _ _) ⟨rfl, rfl, trivial⟩
noncomputable def r_Mo_run_24 : Nat → ja_H → Nat → Int32 → Option (Int64 × ja_H) := ja_lo (q_Mo_run_24) (fun _ _ _ => none)
theorem s_Mo_run_24 : ∀ (n : Nat) (h : ja_H) (y0 : Nat) (y1 : Int32), ja_D ja_gL M_Mo_run 24 [some (.ref y0), some (.int y1), none, none, none, none, none, none, none] [] h (r_Mo_run_24 n h y0 y1) := by
  intro n
  induction n with
  | zero => intro h y0 y1 o e; cases e
  | succ n ih => intro h y0 y1; exact t_Mo_run_24 ih
noncomputable def r_Mo_run_13 (h : ja_H) (y0 : Nat) (z0 : Int32) (z1 : Nat) : Option (Int64 × ja_H) := (jk h z1 9 (jc_I (r_Mo_fails h z1 z0 (1 : Int32)) (fun v2 h1 => (if v2 = (0 : Int32) then (jl ((0 : Int32) : Int32) (fun (x3 : Int32) => (r_Mo_run_24 ja_fu h1 y0 x3))) else (some ((0 : Int64), h1))))))
theorem t_Mo_run_13 {h : ja_H} {y0 : Nat} {z0 : Int32} {z1 : Nat} : ja_D ja_gL M_Mo_run 13 [some (.ref y0), none, none, none, none, none, none, none, none] [.int z0, .ref z1] h (r_Mo_run_13 h y0 z0 z1) := by
  unfold r_Mo_run_13
  refine jd_iconst 1 i_Mo_run_13 (by decide) ?_
  refine jd_callVI G_Mo_67 in_Mo_fails se_Mo_fails rfl (fun _ e => c_Mo_fails e) rfl ⟨by decide, by decide⟩ rfl (Nat.le_of_ble_eq_true rfl) i_Mo_run_14 (fun v2 h1 => ?_)
  refine jd_if_eq 22 i_Mo_run_17 (by decide) ?_ ?_
  · refine jd_iconst 0 i_Mo_run_22 (by decide) ?_
    refine jd_istore_n (fun x3 => [some (.ref y0), some (.int x3), none, none, none, none, none, none, none]) i_Mo_run_23 (by decide) rfl (fun _ => rfl) (fun x3 => ?_)
    exact jd_less (s_Mo_run_24 ja_fu _ _ _) ⟨rfl, rfl, trivial⟩
  · refine jd_lconst 0 i_Mo_run_20 (by decide) ?_
    exact jd_lreturn i_Mo_run_21 rfl
noncomputable def r_Mo_run (h : ja_H) (a0 : Nat) : Option (Int64 × ja_H) := (jf_I h a0 9 5 (fun v101 => (if v101 = (0 : Int32) then (r_Mo_run_13 h a0 (1 : Int32) a0) else (r_Mo_run_13 h a0 (0 : Int32) a0))))
theorem e_Mo_run {h : ja_H} {a0 : Nat} : ja_D ja_gL M_Mo_run 0 [some (.ref a0), none, none, none, none, none, none, none, none] [] h (r_Mo_run h a0) := by
  unfold r_Mo_run
  refine jd_aload_n i_Mo_run_0 rfl ?_
  refine jd_aload_n i_Mo_run_1 rfl ?_
  refine jd_getI F_Mo_71 i_Mo_run_2 (fun v101 => ?_)
  refine jd_if_ne 12 i_Mo_run_5 (by decide) ?_ ?_
  · refine jd_iconst 0 i_Mo_run_12 (by decide) ?_
    exact jd_less (t_Mo_run_13) ⟨rfl, trivial⟩
  · refine jd_iconst 1 i_Mo_run_8 (by decide) ?_
    refine jd_goto 13 i_Mo_run_9 (by decide) ?_
    exact jd_less (t_Mo_run_13) ⟨rfl, trivial⟩
theorem c_Mo_run {h : ja_H} {a0 : Nat} {o : Int64 × ja_H} (e : r_Mo_run h a0 = some o) : ja_M (2, 62) y_Mo_run b_Mo_run 9 (some .long) [.ref a0] h [.long o.1] o.2 := jc_of (g := ja_gL) false _ e e_Mo_run rfl (by decide +kernel) (fun q => nomatch q) (Nat.le_of_ble_eq_true rfl) (fun _ q => nomatch q) (Nat.le_of_ble_eq_true rfl)
noncomputable def r_Mo_count_109 (h : ja_H) (z0 : Int32) : Option (Int32 × ja_H) := (some (z0, h))
theorem t_Mo_count_109 {h : ja_H} {z0 : Int32} : ja_D ja_gI M_Mo_count 109 [none, none, none, none] [.int z0] h (r_Mo_count_109 h z0) := by
  unfold r_Mo_count_109
  exact jd_ireturn i_Mo_count_109 rfl
noncomputable def r_Mo_count_61 (h : ja_H) (y0 : Nat) (y1 : Int32) (y2 : Int32) : Option (Int32 × ja_H) := (if y1 = (0 : Int32) then (jf_I h y0 9 2 (fun v4 => (r_Mo_count_109 h v4))) else (if y1 = (1 : Int32) then (jf_I h y0 9 9 (fun v3 => (r_Mo_count_109 h v3))) else (if y1 = (2 : Int32) then (jf_I h y0 9 14 (fun v2 => (r_Mo_count_109 h v2))) else (if y1 = (3 : Int32) then (r_Mo_count_109 h y2) else (jf_I h y0 9 15 (fun v1 => (r_Mo_count_109 h v1)))))))
theorem t_Mo_count_61 {h : ja_H} {y0 : Nat} {y1 : Int32} {y2 : Int32} : ja_D ja_gI M_Mo_count 61 [some (.ref y0), some (.int y1), some (.int y2), none] [] h (r_Mo_count_61 h y0 y1 y2) := by
  unfold r_Mo_count_61
  refine jd_iload_n i_Mo_count_61 rfl ?_
  refine jd_if_ne 72 i_Mo_count_62 (by decide) ?_ ?_
  · refine jd_iload_n i_Mo_count_72 rfl ?_
    refine jd_iconst 1 i_Mo_count_73 (by decide) ?_
    refine jd_icmp_ne 84 i_Mo_count_74 (by decide) ?_ ?_
    · refine jd_iload_n i_Mo_count_84 rfl ?_
      refine jd_iconst 2 i_Mo_count_85 (by decide) ?_
      refine jd_icmp_ne 96 i_Mo_count_86 (by decide) ?_ ?_
      · refine jd_iload_n i_Mo_count_96 rfl ?_
        refine jd_iconst 3 i_Mo_count_97 (by decide) ?_
        refine jd_icmp_ne 105 i_Mo_count_98 (by decide) ?_ ?_
        · refine jd_aload_n i_Mo_count_105 rfl ?_
          refine jd_getI F_Mo_270 i_Mo_count_106 (fun v1 => ?_)
          exact jd_less (t_Mo_count_109) trivial
        · refine jd_iload_n i_Mo_count_101 rfl ?_
          refine jd_goto 109 i_Mo_count_102 (by decide) ?_
          exact jd_less (t_Mo_count_109) trivial
      · refine jd_aload_n i_Mo_count_89 rfl ?_
        refine jd_getI F_Mo_257 i_Mo_count_90 (fun v2 => ?_)
        refine jd_goto 109 i_Mo_count_93 (by decide) ?_
        exact jd_less (t_Mo_count_109) trivial
    · refine jd_aload_n i_Mo_count_77 rfl ?_
      refine jd_getI F_Mo_75 i_Mo_count_78 (fun v3 => ?_)
      refine jd_goto 109 i_Mo_count_81 (by decide) ?_
      exact jd_less (t_Mo_count_109) trivial
  · refine jd_aload_n i_Mo_count_65 rfl ?_
    refine jd_getI F_Mo_64 i_Mo_count_66 (fun v4 => ?_)
    refine jd_goto 109 i_Mo_count_69 (by decide) ?_
    exact jd_less (t_Mo_count_109) trivial
noncomputable def r_Mo_count_55 (C28 : ja_H → Nat → Int32 → Int32 → Int32 → Option (Int32 × ja_H)) (h : ja_H) (y0 : Nat) (y1 : Int32) (y2 : Int32) (y3 : Int32) : Option (Int32 × ja_H) := (jl (y3 + 1 : Int32) (fun (x1 : Int32) => (C28 h y0 y1 y2 x1)))
theorem t_Mo_count_55 {C28 : ja_H → Nat → Int32 → Int32 → Int32 → Option (Int32 × ja_H)} (k28 : ∀ (h : ja_H) (y0 : Nat) (y1 : Int32) (y2 : Int32) (y3 : Int32), ja_D ja_gI M_Mo_count 28 [some (.ref y0), some (.int y1), some (.int y2), some (.int y3)] [] h (C28 h y0 y1 y2 y3)) {h : ja_H} {y0 : Nat} {y1 : Int32} {y2 : Int32} {y3 : Int32} : ja_D ja_gI M_Mo_count 55 [some (.ref y0), some (.int y1), some (.int y2), some (.int y3)] [] h (r_Mo_count_55 C28 h y0 y1 y2 y3) := by
  unfold r_Mo_count_55
  refine jd_iinc (fun x1 => [some (.ref y0), some (.int y1), some (.int y2), some (.int x1)]) i_Mo_count_55 rfl rfl (by decide) rfl (fun _ => rfl) (fun x1 => ?_)
  refine jd_goto 28 i_Mo_count_58 (by decide) ?_
  exact jd_less (k28 _ _ _ _ _) ⟨rfl, rfl, rfl, rfl, trivial⟩
noncomputable def q_Mo_count_28 (C28 : ja_H → Nat → Int32 → Int32 → Int32 → Option (Int32 × ja_H)) (h : ja_H) (y0 : Nat) (y1 : Int32) (y2 : Int32) (y3 : Int32) : Option (Int32 × ja_H) := (jf_I h y0 9 2 (fun v1 => (if v1 ≤ y3 then (r_Mo_count_61 h y0 y1 y2) else (jf_I h y0 9 5 (fun v2 => (if v2 = (0 : Int32) then (r_Mo_count_61 h y0 y1 y2) else (jf_R h y0 9 4 (fun a3 => (je_I h a3 2 y3 (fun v4 => (if v4 = (0 : Int32) then (r_Mo_count_55 C28 h y0 y1 y2 y3) else (jl (y2 + 1 : Int32) (fun (x5 : Int32) => (r_Mo_count_55 C28 h y0 y1 x5 y3))))))))))))))
theorem t_Mo_count_28 {C28 : ja_H → Nat → Int32 → Int32 → Int32 → Option (Int32 × ja_H)} (k28 : ∀ (h : ja_H) (y0 : Nat) (y1 : Int32) (y2 : Int32) (y3 : Int32), ja_D ja_gI M_Mo_count 28 [some (.ref y0), some (.int y1), some (.int y2), some (.int y3)] [] h (C28 h y0 y1 y2 y3)) {h : ja_H} {y0 : Nat} {y1 : Int32} {y2 : Int32} {y3 : Int32} : ja_D ja_gI M_Mo_count 28 [some (.ref y0), some (.int y1), some (.int y2), some (.int y3)] [] h (q_Mo_count_28 C28 h y0 y1 y2 y3) := by
  unfold q_Mo_count_28
  refine jd_iload_n i_Mo_count_28 rfl ?_
  refine jd_aload_n i_Mo_count_29 rfl ?_
  refine jd_getI F_Mo_64 i_Mo_count_30 (fun v1 => ?_)
  refine jd_icmp_ge 61 i_Mo_count_33 (by decide) ?_ ?_
  · exact jd_less (t_Mo_count_61) ⟨rfl, rfl, rfl, trivial⟩
  · refine jd_aload_n i_Mo_count_36 rfl ?_
    refine jd_getI F_Mo_71 i_Mo_count_37 (fun v2 => ?_)
    refine jd_if_eq 61 i_Mo_count_40 (by decide) ?_ ?_
    · exact jd_less (t_Mo_count_61) ⟨rfl, rfl, rfl, trivial⟩
    · refine jd_aload_n i_Mo_count_43 rfl ?_
      refine jd_getR F_Mo_17 i_Mo_count_44 (fun a3 => ?_)
      refine jd_iload_n i_Mo_count_47 rfl ?_
      refine jd_zald i_Mo_count_48 (fun v4 => ?_)
      refine jd_if_eq 55 i_Mo_count_49 (by decide) ?_ ?_
      · exact jd_less (t_Mo_count_55 k28) ⟨rfl, rfl, rfl, rfl, trivial⟩
      · refine jd_iinc (fun x5 => [some (.ref y0), some (.int y1), some (.int x5), some (.int y3)]) i_Mo_count_52 rfl rfl (by decide) rfl (fun _ => rfl) (fun x5 => ?_)
        exact jd_less (t_Mo_count_55 k28) ⟨rfl, rfl, rfl, rfl, trivial⟩
noncomputable def r_Mo_count_28 : Nat → ja_H → Nat → Int32 → Int32 → Int32 → Option (Int32 × ja_H) := ja_lo (q_Mo_count_28) (fun _ _ _ _ _ => none)
theorem s_Mo_count_28 : ∀ (n : Nat) (h : ja_H) (y0 : Nat) (y1 : Int32) (y2 : Int32) (y3 : Int32), ja_D ja_gI M_Mo_count 28 [some (.ref y0), some (.int y1), some (.int y2), some (.int y3)] [] h (r_Mo_count_28 n h y0 y1 y2 y3) := by
  intro n
  induction n with
  | zero => intro h y0 y1 y2 y3 o e; cases e
  | succ n ih => intro h y0 y1 y2 y3; exact t_Mo_count_28 ih
noncomputable def r_Mo_count_15 (h : ja_H) (y0 : Nat) (y1 : Int32) (z0 : Int32) (z1 : Nat) : Option (Int32 × ja_H) := (jk h z1 9 (jc_I (r_Mo_fails h z1 z0 (1 : Int32)) (fun v2 h1 => (if v2 = (0 : Int32) then (jl ((0 : Int32) : Int32) (fun (x3 : Int32) => (jl ((0 : Int32) : Int32) (fun (x4 : Int32) => (r_Mo_count_28 ja_fu h1 y0 y1 x3 x4))))) else (some ((0 : Int32), h1))))))
theorem t_Mo_count_15 {h : ja_H} {y0 : Nat} {y1 : Int32} {z0 : Int32} {z1 : Nat} : ja_D ja_gI M_Mo_count 15 [some (.ref y0), some (.int y1), none, none] [.int z0, .ref z1] h (r_Mo_count_15 h y0 y1 z0 z1) := by
  unfold r_Mo_count_15
  refine jd_iconst 1 i_Mo_count_15 (by decide) ?_
  refine jd_callVI G_Mo_67 in_Mo_fails se_Mo_fails rfl (fun _ e => c_Mo_fails e) rfl ⟨by decide, by decide⟩ rfl (Nat.le_of_ble_eq_true rfl) i_Mo_count_16 (fun v2 h1 => ?_)
  refine jd_if_eq 24 i_Mo_count_19 (by decide) ?_ ?_
  · refine jd_iconst 0 i_Mo_count_24 (by decide) ?_
    refine jd_istore_n (fun x3 => [some (.ref y0), some (.int y1), some (.int x3), none]) i_Mo_count_25 (by decide) rfl (fun _ => rfl) (fun x3 => ?_)
    refine jd_iconst 0 i_Mo_count_26 (by decide) ?_
    refine jd_istore_n (fun x4 => [some (.ref y0), some (.int y1), some (.int x3), some (.int x4)]) i_Mo_count_27 (by decide) rfl (fun _ => rfl) (fun x4 => ?_)
    exact jd_less (s_Mo_count_28 ja_fu _ _ _ _ _) ⟨rfl, rfl, rfl, rfl, trivial⟩
  · refine jd_iconst 0 i_Mo_count_22 (by decide) ?_
    exact jd_ireturn i_Mo_count_23 rfl
noncomputable def r_Mo_count_10 (h : ja_H) (y0 : Nat) (y1 : Int32) (z0 : Nat) : Option (Int32 × ja_H) := (r_Mo_count_15 h y0 y1 (1 : Int32) z0)
theorem t_Mo_count_10 {h : ja_H} {y0 : Nat} {y1 : Int32} {z0 : Nat} : ja_D ja_gI M_Mo_count 10 [some (.ref y0), some (.int y1), none, none] [.ref z0] h (r_Mo_count_10 h y0 y1 z0) := by
  unfold r_Mo_count_10
  refine jd_iconst 1 i_Mo_count_10 (by decide) ?_
  refine jd_goto 15 i_Mo_count_11 (by decide) ?_
  exact jd_less (t_Mo_count_15) ⟨rfl, rfl, trivial⟩
noncomputable def r_Mo_count (h : ja_H) (a0 : Nat) (a1 : Int32) : Option (Int32 × ja_H) := (if a1 < (0 : Int32) then (r_Mo_count_10 h a0 a1 a0) else (if a1 ≤ (4 : Int32) then (r_Mo_count_15 h a0 a1 (0 : Int32) a0) else (r_Mo_count_10 h a0 a1 a0)))
theorem e_Mo_count {h : ja_H} {a0 : Nat} {a1 : Int32} : ja_D ja_gI M_Mo_count 0 [some (.ref a0), some (.int a1), none, none] [] h (r_Mo_count h a0 a1) := by
  unfold r_Mo_count
  refine jd_aload_n i_Mo_count_0 rfl ?_
  refine jd_iload_n i_Mo_count_1 rfl ?_
  refine jd_if_lt 10 i_Mo_count_2 (by decide) ?_ ?_
  · exact jd_less (t_Mo_count_10) ⟨rfl, rfl, trivial⟩
  · refine jd_iload_n i_Mo_count_5 rfl ?_
    refine jd_iconst 4 i_Mo_count_6 (by decide) ?_
    refine jd_icmp_le 14 i_Mo_count_7 (by decide) ?_ ?_
    · refine jd_iconst 0 i_Mo_count_14 (by decide) ?_
      exact jd_less (t_Mo_count_15) ⟨rfl, rfl, trivial⟩
    · exact jd_less (t_Mo_count_10) ⟨rfl, rfl, trivial⟩
theorem c_Mo_count {h : ja_H} {a0 : Nat} {a1 : Int32} {o : Int32 × ja_H} (e : r_Mo_count h a0 a1 = some o) : ja_M (1, 22) y_Mo_count b_Mo_count 4 (some .int) [.ref a0, .int a1] h [.int o.1] o.2 := jc_of (g := ja_gI) false _ e e_Mo_count rfl (by decide +kernel) (fun q => nomatch q) (Nat.le_of_ble_eq_true rfl) (fun _ q => nomatch q) (Nat.le_of_ble_eq_true rfl)
noncomputable def r_La_word (h : ja_H) (a0 : Nat) (a1 : Int32) (a2 : Int64) (a4 : Nat) : Option (Int32 × ja_H) := (jk h a0 0 (jt_I (r_WJ_word h a0 a1 a2) (fun v103 h101 => (js_L h101 a4 (0 : Int32) (Int32.toInt64 v103) (fun h104 => (some ((0 : Int32), h104))))) [(22, fun h102 => (some ((1 : Int32), h102)))]))
theorem e_La_word {h : ja_H} {a0 : Nat} {a1 : Int32} {a2 : Int64} {a4 : Nat} : ja_D ja_gI M_La_word 0 [some (.ref a0), some (.int a1), some (.long a2), none, some (.ref a4), none] [] h (r_La_word h a0 a1 a2 a4) := by
  unfold r_La_word
  refine jd_aload i_La_word_0 rfl ?_
  refine jd_iconst 0 i_La_word_2 (by decide) ?_
  refine jd_aload_n i_La_word_3 rfl ?_
  refine jd_iload_n i_La_word_4 rfl ?_
  refine jd_lload_n i_La_word_5 rfl ?_
  refine jd_tryVI (as := [.int a1, .long a2]) G_La_7 in_WJ_word se_WJ_word rfl e_WJ_word rfl rfl (by decide +kernel) rfl (Nat.le_of_ble_eq_true rfl) ⟨by decide, by decide⟩ rfl (Nat.le_of_ble_eq_true rfl) i_La_word_6 (fun v103 h101 => ?_) ⟨⟨_, S_La_word_22, fun _ h102 => ?_⟩, trivial⟩
  · refine jd_i2l i_La_word_9 ?_
    refine jd_last i_La_word_10 (fun h104 => ?_)
    refine jd_goto 18 i_La_word_11 (by decide) ?_
    refine jd_iconst 0 i_La_word_18 (by decide) ?_
    exact jd_ireturn i_La_word_19 rfl
  · refine jd_astoreE [some (.ref a0), some (.int a1), some (.long a2), none, some (.ref a4), none] i_La_word_14 (by decide) rfl rfl ?_
    refine jd_iconst 1 i_La_word_16 (by decide) ?_
    exact jd_ireturn i_La_word_17 rfl
theorem c_La_word {h : ja_H} {a0 : Nat} {a1 : Int32} {a2 : Int64} {a4 : Nat} {o : Int32 × ja_H} (e : r_La_word h a0 a1 a2 a4 = some o) : ja_Mw (7, 123) y_La_word b_La_word 6 (some .int) [(0, 11, 14, 13)] [.ref a0, .int a1, .long a2, .ref a4] h [.int o.1] o.2 := jc_ofW [some (.ref a0), some (.int a1), some (.long a2), none, some (.ref a4), none] e e_La_word rfl (by decide +kernel) (Nat.le_of_ble_eq_true rfl)
noncomputable def r_La_cut (h : ja_H) (a0 : Nat) (a1 : Int32) : Option (Int32 × ja_H) := (jk h a0 0 (jt_V (r_WJ_cut h a0 a1) (fun h101 => (some ((0 : Int32), h101))) [(15, fun h102 => (some ((1 : Int32), h102)))]))
theorem e_La_cut {h : ja_H} {a0 : Nat} {a1 : Int32} : ja_D ja_gI M_La_cut 0 [some (.ref a0), some (.int a1), none] [] h (r_La_cut h a0 a1) := by
  unfold r_La_cut
  refine jd_aload_n i_La_cut_0 rfl ?_
  refine jd_iload_n i_La_cut_1 rfl ?_
  refine jd_tryVV (as := [.int a1]) G_La_15 in_WJ_cut se_WJ_cut rfl e_WJ_cut rfl rfl (by decide +kernel) rfl (Nat.le_of_ble_eq_true rfl) ⟨by decide, by decide⟩ rfl (Nat.le_of_ble_eq_true rfl) i_La_cut_2 (fun h101 => ?_) ⟨⟨_, S_La_cut_15, fun _ h102 => ?_⟩, trivial⟩
  · refine jd_goto 11 i_La_cut_5 (by decide) ?_
    refine jd_iconst 0 i_La_cut_11 (by decide) ?_
    exact jd_ireturn i_La_cut_12 rfl
  · refine jd_astoreE_n [some (.ref a0), some (.int a1), none] i_La_cut_8 (by decide) rfl rfl ?_
    refine jd_iconst 1 i_La_cut_9 (by decide) ?_
    exact jd_ireturn i_La_cut_10 rfl
theorem c_La_cut {h : ja_H} {a0 : Nat} {a1 : Int32} {o : Int32 × ja_H} (e : r_La_cut h a0 a1 = some o) : ja_Mw (7, 121) y_La_cut b_La_cut 3 (some .int) [(0, 5, 8, 13)] [.ref a0, .int a1] h [.int o.1] o.2 := jc_ofW [some (.ref a0), some (.int a1), none] e e_La_cut rfl (by decide +kernel) (Nat.le_of_ble_eq_true rfl)
noncomputable def r_La_context (h : ja_H) (a0 : Nat) (a1 : Int32) : Option (Int32 × ja_H) := (jk h a0 0 (jt_V (r_WJ_context h a0 a1) (fun h101 => (some ((0 : Int32), h101))) [(11, fun h102 => (some ((1 : Int32), h102)))]))
theorem e_La_context {h : ja_H} {a0 : Nat} {a1 : Int32} : ja_D ja_gI M_La_context 0 [some (.ref a0), some (.int a1), none] [] h (r_La_context h a0 a1) := by
  unfold r_La_context
  refine jd_aload_n i_La_context_0 rfl ?_
  refine jd_iload_n i_La_context_1 rfl ?_
  refine jd_tryVV (as := [.int a1]) G_La_19 in_WJ_context se_WJ_context rfl e_WJ_context rfl rfl (by decide +kernel) rfl (Nat.le_of_ble_eq_true rfl) ⟨by decide, by decide⟩ rfl (Nat.le_of_ble_eq_true rfl) i_La_context_2 (fun h101 => ?_) ⟨⟨_, S_La_context_11, fun _ h102 => ?_⟩, trivial⟩
  · refine jd_goto 11 i_La_context_5 (by decide) ?_
    refine jd_iconst 0 i_La_context_11 (by decide) ?_
    exact jd_ireturn i_La_context_12 rfl
  · refine jd_astoreE_n [some (.ref a0), some (.int a1), none] i_La_context_8 (by decide) rfl rfl ?_
    refine jd_iconst 1 i_La_context_9 (by decide) ?_
    exact jd_ireturn i_La_context_10 rfl
theorem c_La_context {h : ja_H} {a0 : Nat} {a1 : Int32} {o : Int32 × ja_H} (e : r_La_context h a0 a1 = some o) : ja_Mw (7, 121) y_La_context b_La_context 3 (some .int) [(0, 5, 8, 22)] [.ref a0, .int a1] h [.int o.1] o.2 := jc_ofW [some (.ref a0), some (.int a1), none] e e_La_context rfl (by decide +kernel) (Nat.le_of_ble_eq_true rfl)
noncomputable def r_La_put (h : ja_H) (a0 : Nat) (a1 : Int32) (a2 : Int64) : Option (Int32 × ja_H) := (jk h a0 0 (jt_V (r_WJ_put h a0 a1 a2) (fun h101 => (some ((0 : Int32), h101))) [(15, fun h102 => (some ((1 : Int32), h102)))]))
theorem e_La_put {h : ja_H} {a0 : Nat} {a1 : Int32} {a2 : Int64} : ja_D ja_gI M_La_put 0 [some (.ref a0), some (.int a1), some (.long a2), none, none] [] h (r_La_put h a0 a1 a2) := by
  unfold r_La_put
  refine jd_aload_n i_La_put_0 rfl ?_
  refine jd_iload_n i_La_put_1 rfl ?_
  refine jd_lload_n i_La_put_2 rfl ?_
  refine jd_tryVV (as := [.int a1, .long a2]) G_La_24 in_WJ_put se_WJ_put rfl e_WJ_put rfl rfl (by decide +kernel) rfl (Nat.le_of_ble_eq_true rfl) ⟨by decide, by decide⟩ rfl (Nat.le_of_ble_eq_true rfl) i_La_put_3 (fun h101 => ?_) ⟨⟨_, S_La_put_15, fun _ h102 => ?_⟩, trivial⟩
  · refine jd_goto 13 i_La_put_6 (by decide) ?_
    refine jd_iconst 0 i_La_put_13 (by decide) ?_
    exact jd_ireturn i_La_put_14 rfl
  · refine jd_astoreE [some (.ref a0), some (.int a1), some (.long a2), none, none] i_La_put_9 (by decide) rfl rfl ?_
    refine jd_iconst 1 i_La_put_11 (by decide) ?_
    exact jd_ireturn i_La_put_12 rfl
theorem c_La_put {h : ja_H} {a0 : Nat} {a1 : Int32} {a2 : Int64} {o : Int32 × ja_H} (e : r_La_put h a0 a1 a2 = some o) : ja_Mw (7, 123) y_La_put b_La_put 5 (some .int) [(0, 6, 9, 13)] [.ref a0, .int a1, .long a2] h [.int o.1] o.2 := jc_ofW [some (.ref a0), some (.int a1), some (.long a2), none, none] e e_La_put rfl (by decide +kernel) (Nat.le_of_ble_eq_true rfl)
noncomputable def r_La_verify (h : ja_H) (a0 : Nat) (a1 : Nat) : Option (Int32 × ja_H) := (jk h a0 0 (jt_I (r_WJ_verify h a0) (fun v103 h101 => (js_L h101 a1 (0 : Int32) (Int32.toInt64 v103) (fun h104 => (some ((0 : Int32), h104))))) [(10, fun h102 => (some ((1 : Int32), h102)))]))
theorem e_La_verify {h : ja_H} {a0 : Nat} {a1 : Nat} : ja_D ja_gI M_La_verify 0 [some (.ref a0), some (.ref a1), none] [] h (r_La_verify h a0 a1) := by
  unfold r_La_verify
  refine jd_aload_n i_La_verify_0 rfl ?_
  refine jd_iconst 0 i_La_verify_1 (by decide) ?_
  refine jd_aload_n i_La_verify_2 rfl ?_
  refine jd_tryVI (as := []) G_La_28 in_WJ_verify se_WJ_verify rfl e_WJ_verify rfl rfl (by decide +kernel) rfl (Nat.le_of_ble_eq_true rfl) ⟨by decide, by decide⟩ rfl (Nat.le_of_ble_eq_true rfl) i_La_verify_3 (fun v103 h101 => ?_) ⟨⟨_, S_La_verify_10, fun _ h102 => ?_⟩, trivial⟩
  · refine jd_i2l i_La_verify_6 ?_
    refine jd_last i_La_verify_7 (fun h104 => ?_)
    refine jd_goto 14 i_La_verify_8 (by decide) ?_
    refine jd_iconst 0 i_La_verify_14 (by decide) ?_
    exact jd_ireturn i_La_verify_15 rfl
  · refine jd_astoreE_n [some (.ref a0), some (.ref a1), none] i_La_verify_11 (by decide) rfl rfl ?_
    refine jd_iconst 1 i_La_verify_12 (by decide) ?_
    exact jd_ireturn i_La_verify_13 rfl
theorem c_La_verify {h : ja_H} {a0 : Nat} {a1 : Nat} {o : Int32 × ja_H} (e : r_La_verify h a0 a1 = some o) : ja_Mw (8, 196) y_La_verify b_La_verify 3 (some .int) [(0, 8, 11, 32)] [.ref a0, .ref a1] h [.int o.1] o.2 := jc_ofW [some (.ref a0), some (.ref a1), none] e e_La_verify rfl (by decide +kernel) (Nat.le_of_ble_eq_true rfl)
noncomputable def r_La_state (h : ja_H) (a0 : Nat) (a1 : Int32) (a2 : Int32) (a3 : Int32) (a4 : Nat) : Option (Int32 × ja_H) := (jk h a0 0 (jt_L (r_WJ_state h a0 a1 a2 a3) (fun v105 h101 => (js_L h101 a4 (0 : Int32) v105 (fun h106 => (some ((0 : Int32), h106))))) [(19, fun h102 => (some ((1 : Int32), h102))), (36, fun h103 => (some ((2 : Int32), h103))), (57, fun h104 => (some ((3 : Int32), h104)))]))
theorem e_La_state {h : ja_H} {a0 : Nat} {a1 : Int32} {a2 : Int32} {a3 : Int32} {a4 : Nat} : ja_D ja_gI M_La_state 0 [some (.ref a0), some (.int a1), some (.int a2), some (.int a3), some (.ref a4), none] [] h (r_La_state h a0 a1 a2 a3 a4) := by
  unfold r_La_state
  refine jd_aload i_La_state_0 rfl ?_
  refine jd_iconst 0 i_La_state_2 (by decide) ?_
  refine jd_aload_n i_La_state_3 rfl ?_
  refine jd_iload_n i_La_state_4 rfl ?_
  refine jd_iload_n i_La_state_5 rfl ?_
  refine jd_iload_n i_La_state_6 rfl ?_
  refine jd_tryVL (as := [.int a1, .int a2, .int a3]) G_La_34 in_WJ_state se_WJ_state rfl e_WJ_state rfl rfl (by decide +kernel) rfl (Nat.le_of_ble_eq_true rfl) ⟨by decide, by decide⟩ rfl (Nat.le_of_ble_eq_true rfl) i_La_state_7 (fun v105 h101 => ?_) ⟨⟨_, S_La_state_19, fun _ h102 => ?_⟩, ⟨_, S_La_state_36, fun _ h103 => ?_⟩, ⟨_, S_La_state_57, fun _ h104 => ?_⟩, trivial⟩
  · refine jd_last i_La_state_10 (fun h106 => ?_)
    refine jd_goto 26 i_La_state_11 (by decide) ?_
    refine jd_iconst 0 i_La_state_26 (by decide) ?_
    exact jd_ireturn i_La_state_27 rfl
  · refine jd_astoreE [some (.ref a0), some (.int a1), some (.int a2), some (.int a3), some (.ref a4), none] i_La_state_14 (by decide) rfl rfl ?_
    refine jd_iconst 1 i_La_state_16 (by decide) ?_
    exact jd_ireturn i_La_state_17 rfl
  · refine jd_astoreE [some (.ref a0), some (.int a1), some (.int a2), some (.int a3), some (.ref a4), none] i_La_state_18 (by decide) rfl rfl ?_
    refine jd_iconst 2 i_La_state_20 (by decide) ?_
    exact jd_ireturn i_La_state_21 rfl
  · refine jd_astoreE [some (.ref a0), some (.int a1), some (.int a2), some (.int a3), some (.ref a4), none] i_La_state_22 (by decide) rfl rfl ?_
    refine jd_iconst 3 i_La_state_24 (by decide) ?_
    exact jd_ireturn i_La_state_25 rfl
theorem c_La_state {h : ja_H} {a0 : Nat} {a1 : Int32} {a2 : Int32} {a3 : Int32} {a4 : Nat} {o : Int32 × ja_H} (e : r_La_state h a0 a1 a2 a3 a4 = some o) : ja_Mw (7, 123) y_La_state b_La_state 6 (some .int) [(0, 11, 14, 22), (0, 11, 18, 32), (0, 11, 22, 13)] [.ref a0, .int a1, .int a2, .int a3, .ref a4] h [.int o.1] o.2 := jc_ofW [some (.ref a0), some (.int a1), some (.int a2), some (.int a3), some (.ref a4), none] e e_La_state rfl (by decide +kernel) (Nat.le_of_ble_eq_true rfl)
noncomputable def r_La_run (h : ja_H) (a0 : Nat) (a1 : Nat) : Option (Int32 × ja_H) := (jk h a0 0 (jt_L (r_WJ_run h a0) (fun v103 h101 => (js_L h101 a1 (0 : Int32) v103 (fun h104 => (some ((0 : Int32), h104))))) [(7, fun h102 => (some ((1 : Int32), h102)))]))
theorem e_La_run {h : ja_H} {a0 : Nat} {a1 : Nat} : ja_D ja_gI M_La_run 0 [some (.ref a0), some (.ref a1), none] [] h (r_La_run h a0 a1) := by
  unfold r_La_run
  refine jd_aload_n i_La_run_0 rfl ?_
  refine jd_iconst 0 i_La_run_1 (by decide) ?_
  refine jd_aload_n i_La_run_2 rfl ?_
  refine jd_tryVL (as := []) G_La_38 in_WJ_run se_WJ_run rfl e_WJ_run rfl rfl (by decide +kernel) rfl (Nat.le_of_ble_eq_true rfl) ⟨by decide, by decide⟩ rfl (Nat.le_of_ble_eq_true rfl) i_La_run_3 (fun v103 h101 => ?_) ⟨⟨_, S_La_run_7, fun _ h102 => ?_⟩, trivial⟩
  · refine jd_last i_La_run_6 (fun h104 => ?_)
    refine jd_goto 13 i_La_run_7 (by decide) ?_
    refine jd_iconst 0 i_La_run_13 (by decide) ?_
    exact jd_ireturn i_La_run_14 rfl
  · refine jd_astoreE_n [some (.ref a0), some (.ref a1), none] i_La_run_10 (by decide) rfl rfl ?_
    refine jd_iconst 1 i_La_run_11 (by decide) ?_
    exact jd_ireturn i_La_run_12 rfl
theorem c_La_run {h : ja_H} {a0 : Nat} {a1 : Nat} {o : Int32 × ja_H} (e : r_La_run h a0 a1 = some o) : ja_Mw (7, 164) y_La_run b_La_run 3 (some .int) [(0, 7, 10, 32)] [.ref a0, .ref a1] h [.int o.1] o.2 := jc_ofW [some (.ref a0), some (.ref a1), none] e e_La_run rfl (by decide +kernel) (Nat.le_of_ble_eq_true rfl)
