noncomputable def r_Mo_summed_444 (h : ja_H) : Option (Int32 × ja_H) := (some ((7 : Int32), h))
theorem t_Mo_summed_444 {h : ja_H} : ja_D ja_gI M_Mo_summed 444 [none, none, none, none, none, none, none, none, none, none, none, none, none, none, none, none, none, none, none, none, none, none, none, none, none, none, none] [] h (r_Mo_summed_444 h) := by
  unfold r_Mo_summed_444
  refine jd_bipush 7 i_Mo_summed_444 (by decide) ?_
  exact jd_ireturn i_Mo_summed_446 rfl
noncomputable def r_Mo_summed_406 (h : ja_H) (y0 : Nat) (y4 : Int32) (y14 : Int32) (y23 : Int64) (z0 : Int64) : Option (Int32 × ja_H) := (jl (z0 : Int64) (fun (x1 : Int64) => (if y23 < (-100000 : Int64) then (r_Mo_summed_444 h) else (if (100000 : Int64) < x1 then (r_Mo_summed_444 h) else (if x1 < (-100000 : Int64) then (r_Mo_summed_444 h) else (if y23 ≤ (100000 : Int64) then (jk h y0 9 (jc_V (r_Mo_give h y0 (1024 : Int32) y4 y14 y23 x1) (fun h2 => (some ((0 : Int32), h2))))) else (r_Mo_summed_444 h)))))))
theorem t_Mo_summed_406 {h : ja_H} {y0 : Nat} {y4 : Int32} {y14 : Int32} {y23 : Int64} {z0 : Int64} : ja_D ja_gI M_Mo_summed 406 [some (.ref y0), none, none, none, some (.int y4), none, none, none, none, none, none, none, none, none, some (.int y14), none, none, none, none, none, none, none, none, some (.long y23), none, none, none] [.long z0] h (r_Mo_summed_406 h y0 y4 y14 y23 z0) := by
  unfold r_Mo_summed_406
  refine jd_lstore (fun x1 => [some (.ref y0), none, none, none, some (.int y4), none, none, none, none, none, none, none, none, none, some (.int y14), none, none, none, none, none, none, none, none, some (.long y23), none, some (.long x1), none]) i_Mo_summed_406 (by decide) rfl (fun _ => rfl) (fun x1 => ?_)
  refine jd_lload i_Mo_summed_408 rfl ?_
  refine jd_ldc2 i_Mo_summed_410 K_Mo_193 ?_
  refine jd_lcmp_lt 444 i_Mo_summed_413 i_Mo_summed_414 (by decide) ?_ ?_
  · exact jd_less (t_Mo_summed_444) trivial
  · refine jd_lload i_Mo_summed_417 rfl ?_
    refine jd_ldc2 i_Mo_summed_419 K_Mo_195 ?_
    refine jd_lcmp_gt 444 i_Mo_summed_422 i_Mo_summed_423 (by decide) ?_ ?_
    · exact jd_less (t_Mo_summed_444) trivial
    · refine jd_lload i_Mo_summed_426 rfl ?_
      refine jd_ldc2 i_Mo_summed_428 K_Mo_193 ?_
      refine jd_lcmp_lt 444 i_Mo_summed_431 i_Mo_summed_432 (by decide) ?_ ?_
      · exact jd_less (t_Mo_summed_444) trivial
      · refine jd_lload i_Mo_summed_435 rfl ?_
        refine jd_ldc2 i_Mo_summed_437 K_Mo_195 ?_
        refine jd_lcmp_le 447 i_Mo_summed_440 i_Mo_summed_441 (by decide) ?_ ?_
        · refine jd_aload_n i_Mo_summed_447 rfl ?_
          refine jd_sipush 1024 i_Mo_summed_448 (by decide) ?_
          refine jd_iload i_Mo_summed_451 rfl ?_
          refine jd_iload i_Mo_summed_453 rfl ?_
          refine jd_lload i_Mo_summed_455 rfl ?_
          refine jd_lload i_Mo_summed_457 rfl ?_
          refine jd_callVV G_Mo_144 in_Mo_give se_Mo_give rfl (fun _ e => c_Mo_give e) rfl ⟨by decide, by decide⟩ rfl (Nat.le_of_ble_eq_true rfl) i_Mo_summed_459 (fun h2 => ?_)
          refine jd_iconst 0 i_Mo_summed_462 (by decide) ?_
          exact jd_ireturn i_Mo_summed_463 rfl
        · exact jd_less (t_Mo_summed_444) trivial
noncomputable def r_Mo_summed_387 (h : ja_H) (y0 : Nat) (y3 : Int32) (y4 : Int32) (y14 : Int32) (y17 : Int64) (y19 : Int64) (y21 : Int64) (z0 : Int64) : Option (Int32 × ja_H) := (jl (z0 : Int64) (fun (x1 : Int64) => (if y3 = (0 : Int32) then (r_Mo_summed_406 h y0 y4 y14 x1 (y17 + y21)) else (r_Mo_summed_406 h y0 y4 y14 x1 (y17 - y19)))))
theorem t_Mo_summed_387 {h : ja_H} {y0 : Nat} {y3 : Int32} {y4 : Int32} {y14 : Int32} {y17 : Int64} {y19 : Int64} {y21 : Int64} {z0 : Int64} : ja_D ja_gI M_Mo_summed 387 [some (.ref y0), none, none, some (.int y3), some (.int y4), none, none, none, none, none, none, none, none, none, some (.int y14), none, none, some (.long y17), none, some (.long y19), none, some (.long y21), none, none, none, none, none] [.long z0] h (r_Mo_summed_387 h y0 y3 y4 y14 y17 y19 y21 z0) := by
  unfold r_Mo_summed_387
  refine jd_lstore (fun x1 => [some (.ref y0), none, none, some (.int y3), some (.int y4), none, none, none, none, none, none, none, none, none, some (.int y14), none, none, some (.long y17), none, some (.long y19), none, some (.long y21), none, some (.long x1), none, none, none]) i_Mo_summed_387 (by decide) rfl (fun _ => rfl) (fun x1 => ?_)
  refine jd_iload_n i_Mo_summed_389 rfl ?_
  refine jd_if_ne 401 i_Mo_summed_390 (by decide) ?_ ?_
  · refine jd_lload i_Mo_summed_401 rfl ?_
    refine jd_lload i_Mo_summed_403 rfl ?_
    refine jd_lsub i_Mo_summed_405 ?_
    exact jd_less (t_Mo_summed_406) ⟨rfl, rfl, rfl, rfl, trivial⟩
  · refine jd_lload i_Mo_summed_393 rfl ?_
    refine jd_lload i_Mo_summed_395 rfl ?_
    refine jd_ladd i_Mo_summed_397 ?_
    refine jd_goto 406 i_Mo_summed_398 (by decide) ?_
    exact jd_less (t_Mo_summed_406) ⟨rfl, rfl, rfl, rfl, trivial⟩
noncomputable def r_Mo_summed_367 (h : ja_H) : Option (Int32 × ja_H) := (some ((7 : Int32), h))
theorem t_Mo_summed_367 {h : ja_H} : ja_D ja_gI M_Mo_summed 367 [none, none, none, none, none, none, none, none, none, none, none, none, none, none, none, none, none, none, none, none, none, none, none, none, none, none, none] [] h (r_Mo_summed_367 h) := by
  unfold r_Mo_summed_367
  refine jd_bipush 7 i_Mo_summed_367 (by decide) ?_
  exact jd_ireturn i_Mo_summed_369 rfl
noncomputable def r_Mo_summed_331 (h : ja_H) (y0 : Nat) (y3 : Int32) (y4 : Int32) (y14 : Int32) (y15 : Int64) (y17 : Int64) (y19 : Int64) (y21 : Int64) : Option (Int32 × ja_H) := (if y19 < (-400000 : Int64) then (r_Mo_summed_367 h) else (if (400000 : Int64) < y19 then (r_Mo_summed_367 h) else (if y21 < (-400000 : Int64) then (r_Mo_summed_367 h) else (if y21 ≤ (400000 : Int64) then (if y3 = (0 : Int32) then (r_Mo_summed_387 h y0 y3 y4 y14 y17 y19 y21 (y15 + y19)) else (r_Mo_summed_387 h y0 y3 y4 y14 y17 y19 y21 (y15 - y21))) else (r_Mo_summed_367 h)))))
theorem t_Mo_summed_331 {h : ja_H} {y0 : Nat} {y3 : Int32} {y4 : Int32} {y14 : Int32} {y15 : Int64} {y17 : Int64} {y19 : Int64} {y21 : Int64} : ja_D ja_gI M_Mo_summed 331 [some (.ref y0), none, none, some (.int y3), some (.int y4), none, none, none, none, none, none, none, none, none, some (.int y14), some (.long y15), none, some (.long y17), none, some (.long y19), none, some (.long y21), none, none, none, none, none] [] h (r_Mo_summed_331 h y0 y3 y4 y14 y15 y17 y19 y21) := by
  unfold r_Mo_summed_331
  refine jd_lload i_Mo_summed_331 rfl ?_
  refine jd_ldc2 i_Mo_summed_333 K_Mo_189 ?_
  refine jd_lcmp_lt 367 i_Mo_summed_336 i_Mo_summed_337 (by decide) ?_ ?_
  · exact jd_less (t_Mo_summed_367) trivial
  · refine jd_lload i_Mo_summed_340 rfl ?_
    refine jd_ldc2 i_Mo_summed_342 K_Mo_191 ?_
    refine jd_lcmp_gt 367 i_Mo_summed_345 i_Mo_summed_346 (by decide) ?_ ?_
    · exact jd_less (t_Mo_summed_367) trivial
    · refine jd_lload i_Mo_summed_349 rfl ?_
      refine jd_ldc2 i_Mo_summed_351 K_Mo_189 ?_
      refine jd_lcmp_lt 367 i_Mo_summed_354 i_Mo_summed_355 (by decide) ?_ ?_
      · exact jd_less (t_Mo_summed_367) trivial
      · refine jd_lload i_Mo_summed_358 rfl ?_
        refine jd_ldc2 i_Mo_summed_360 K_Mo_191 ?_
        refine jd_lcmp_le 370 i_Mo_summed_363 i_Mo_summed_364 (by decide) ?_ ?_
        · refine jd_iload_n i_Mo_summed_370 rfl ?_
          refine jd_if_ne 382 i_Mo_summed_371 (by decide) ?_ ?_
          · refine jd_lload i_Mo_summed_382 rfl ?_
            refine jd_lload i_Mo_summed_384 rfl ?_
            refine jd_lsub i_Mo_summed_386 ?_
            exact jd_less (t_Mo_summed_387) ⟨rfl, rfl, rfl, rfl, rfl, rfl, rfl, trivial⟩
          · refine jd_lload i_Mo_summed_374 rfl ?_
            refine jd_lload i_Mo_summed_376 rfl ?_
            refine jd_ladd i_Mo_summed_378 ?_
            refine jd_goto 387 i_Mo_summed_379 (by decide) ?_
            exact jd_less (t_Mo_summed_387) ⟨rfl, rfl, rfl, rfl, rfl, rfl, rfl, trivial⟩
        · exact jd_less (t_Mo_summed_367) trivial
noncomputable def r_Mo_summed_315 (h : ja_H) (y0 : Nat) (y3 : Int32) (y4 : Int32) (y14 : Int32) (y15 : Int64) (y17 : Int64) (y19 : Int64) (z0 : Int64) : Option (Int32 × ja_H) := (jl (z0 : Int64) (fun (x1 : Int64) => (if y14 = (3 : Int32) then (if y19 = x1 then (r_Mo_summed_331 h y0 y3 y4 y14 y15 y17 y19 x1) else (r_Mo_summed_367 h)) else (r_Mo_summed_331 h y0 y3 y4 y14 y15 y17 y19 x1))))
theorem t_Mo_summed_315 {h : ja_H} {y0 : Nat} {y3 : Int32} {y4 : Int32} {y14 : Int32} {y15 : Int64} {y17 : Int64} {y19 : Int64} {z0 : Int64} : ja_D ja_gI M_Mo_summed 315 [some (.ref y0), none, none, some (.int y3), some (.int y4), none, none, none, none, none, none, none, none, none, some (.int y14), some (.long y15), none, some (.long y17), none, some (.long y19), none, none, none, none, none, none, none] [.long z0] h (r_Mo_summed_315 h y0 y3 y4 y14 y15 y17 y19 z0) := by
  unfold r_Mo_summed_315
  refine jd_lstore (fun x1 => [some (.ref y0), none, none, some (.int y3), some (.int y4), none, none, none, none, none, none, none, none, none, some (.int y14), some (.long y15), none, some (.long y17), none, some (.long y19), none, some (.long x1), none, none, none, none, none]) i_Mo_summed_315 (by decide) rfl (fun _ => rfl) (fun x1 => ?_)
  refine jd_iload i_Mo_summed_317 rfl ?_
  refine jd_iconst 3 i_Mo_summed_319 (by decide) ?_
  refine jd_icmp_ne 331 i_Mo_summed_320 (by decide) ?_ ?_
  · exact jd_less (t_Mo_summed_331) ⟨rfl, rfl, rfl, rfl, rfl, rfl, rfl, rfl, trivial⟩
  · refine jd_lload i_Mo_summed_323 rfl ?_
    refine jd_lload i_Mo_summed_325 rfl ?_
    refine jd_lcmp_ne 367 i_Mo_summed_327 i_Mo_summed_328 (by decide) ?_ ?_
    · exact jd_less (t_Mo_summed_367) trivial
    · exact jd_less (t_Mo_summed_331) ⟨rfl, rfl, rfl, rfl, rfl, rfl, rfl, rfl, trivial⟩
noncomputable def r_Mo_summed_296 (h : ja_H) (y0 : Nat) (y1 : Int32) (y3 : Int32) (y4 : Int32) (y10 : Int64) (y12 : Int32) (y14 : Int32) (y15 : Int64) (y17 : Int64) (z0 : Int64) : Option (Int32 × ja_H) := (jl (z0 : Int64) (fun (x1 : Int64) => (if y12 = (0 : Int32) then (jk h y0 9 (jc_L (r_Mo_most h y0 y1 y4) (fun v3 h2 => (r_Mo_summed_315 h2 y0 y3 y4 y14 y15 y17 x1 v3)))) else (r_Mo_summed_315 h y0 y3 y4 y14 y15 y17 x1 y10))))
theorem t_Mo_summed_296 {h : ja_H} {y0 : Nat} {y1 : Int32} {y3 : Int32} {y4 : Int32} {y10 : Int64} {y12 : Int32} {y14 : Int32} {y15 : Int64} {y17 : Int64} {z0 : Int64} : ja_D ja_gI M_Mo_summed 296 [some (.ref y0), some (.int y1), none, some (.int y3), some (.int y4), none, none, none, none, none, some (.long y10), none, some (.int y12), none, some (.int y14), some (.long y15), none, some (.long y17), none, none, none, none, none, none, none, none, none] [.long z0] h (r_Mo_summed_296 h y0 y1 y3 y4 y10 y12 y14 y15 y17 z0) := by
  unfold r_Mo_summed_296
  refine jd_lstore (fun x1 => [some (.ref y0), some (.int y1), none, some (.int y3), some (.int y4), none, none, none, none, none, some (.long y10), none, some (.int y12), none, some (.int y14), some (.long y15), none, some (.long y17), none, some (.long x1), none, none, none, none, none, none, none]) i_Mo_summed_296 (by decide) rfl (fun _ => rfl) (fun x1 => ?_)
  refine jd_iload i_Mo_summed_298 rfl ?_
  refine jd_if_eq 308 i_Mo_summed_300 (by decide) ?_ ?_
  · refine jd_aload_n i_Mo_summed_308 rfl ?_
    refine jd_iload_n i_Mo_summed_309 rfl ?_
    refine jd_iload i_Mo_summed_310 rfl ?_
    refine jd_callVL G_Mo_152 in_Mo_most se_Mo_most rfl (fun _ e => c_Mo_most e) rfl ⟨by decide, by decide⟩ rfl (Nat.le_of_ble_eq_true rfl) i_Mo_summed_312 (fun v3 h2 => ?_)
    exact jd_less (t_Mo_summed_315) ⟨rfl, rfl, rfl, rfl, rfl, rfl, rfl, trivial⟩
  · refine jd_lload i_Mo_summed_303 rfl ?_
    refine jd_goto 315 i_Mo_summed_305 (by decide) ?_
    exact jd_less (t_Mo_summed_315) ⟨rfl, rfl, rfl, rfl, rfl, rfl, rfl, trivial⟩
noncomputable def r_Mo_summed_277 (h : ja_H) (y0 : Nat) (y1 : Int32) (y3 : Int32) (y4 : Int32) (y8 : Int64) (y10 : Int64) (y12 : Int32) (y14 : Int32) (y15 : Int64) (z0 : Int64) : Option (Int32 × ja_H) := (jl (z0 : Int64) (fun (x1 : Int64) => (if y12 = (0 : Int32) then (jk h y0 9 (jc_L (r_Mo_least h y0 y1 y4) (fun v3 h2 => (r_Mo_summed_296 h2 y0 y1 y3 y4 y10 y12 y14 y15 x1 v3)))) else (r_Mo_summed_296 h y0 y1 y3 y4 y10 y12 y14 y15 x1 y8))))
theorem t_Mo_summed_277 {h : ja_H} {y0 : Nat} {y1 : Int32} {y3 : Int32} {y4 : Int32} {y8 : Int64} {y10 : Int64} {y12 : Int32} {y14 : Int32} {y15 : Int64} {z0 : Int64} : ja_D ja_gI M_Mo_summed 277 [some (.ref y0), some (.int y1), none, some (.int y3), some (.int y4), none, none, none, some (.long y8), none, some (.long y10), none, some (.int y12), none, some (.int y14), some (.long y15), none, none, none, none, none, none, none, none, none, none, none] [.long z0] h (r_Mo_summed_277 h y0 y1 y3 y4 y8 y10 y12 y14 y15 z0) := by
  unfold r_Mo_summed_277
  refine jd_lstore (fun x1 => [some (.ref y0), some (.int y1), none, some (.int y3), some (.int y4), none, none, none, some (.long y8), none, some (.long y10), none, some (.int y12), none, some (.int y14), some (.long y15), none, some (.long x1), none, none, none, none, none, none, none, none, none]) i_Mo_summed_277 (by decide) rfl (fun _ => rfl) (fun x1 => ?_)
  refine jd_iload i_Mo_summed_279 rfl ?_
  refine jd_if_eq 289 i_Mo_summed_281 (by decide) ?_ ?_
  · refine jd_aload_n i_Mo_summed_289 rfl ?_
    refine jd_iload_n i_Mo_summed_290 rfl ?_
    refine jd_iload i_Mo_summed_291 rfl ?_
    refine jd_callVL G_Mo_148 in_Mo_least se_Mo_least rfl (fun _ e => c_Mo_least e) rfl ⟨by decide, by decide⟩ rfl (Nat.le_of_ble_eq_true rfl) i_Mo_summed_293 (fun v3 h2 => ?_)
    exact jd_less (t_Mo_summed_296) ⟨rfl, rfl, rfl, rfl, rfl, rfl, rfl, rfl, rfl, trivial⟩
  · refine jd_lload i_Mo_summed_284 rfl ?_
    refine jd_goto 296 i_Mo_summed_286 (by decide) ?_
    exact jd_less (t_Mo_summed_296) ⟨rfl, rfl, rfl, rfl, rfl, rfl, rfl, rfl, rfl, trivial⟩
noncomputable def r_Mo_summed_258 (h : ja_H) (y0 : Nat) (y1 : Int32) (y3 : Int32) (y4 : Int32) (y8 : Int64) (y10 : Int64) (y12 : Int32) (y14 : Int32) (z0 : Int64) : Option (Int32 × ja_H) := (jl (z0 : Int64) (fun (x1 : Int64) => (if y12 = (0 : Int32) then (r_Mo_summed_277 h y0 y1 y3 y4 y8 y10 y12 y14 x1 y10) else (jk h y0 9 (jc_L (r_Mo_most h y0 y1 y4) (fun v3 h2 => (r_Mo_summed_277 h2 y0 y1 y3 y4 y8 y10 y12 y14 x1 v3)))))))
theorem t_Mo_summed_258 {h : ja_H} {y0 : Nat} {y1 : Int32} {y3 : Int32} {y4 : Int32} {y8 : Int64} {y10 : Int64} {y12 : Int32} {y14 : Int32} {z0 : Int64} : ja_D ja_gI M_Mo_summed 258 [some (.ref y0), some (.int y1), none, some (.int y3), some (.int y4), none, none, none, some (.long y8), none, some (.long y10), none, some (.int y12), none, some (.int y14), none, none, none, none, none, none, none, none, none, none, none, none] [.long z0] h (r_Mo_summed_258 h y0 y1 y3 y4 y8 y10 y12 y14 z0) := by
  unfold r_Mo_summed_258
  refine jd_lstore (fun x1 => [some (.ref y0), some (.int y1), none, some (.int y3), some (.int y4), none, none, none, some (.long y8), none, some (.long y10), none, some (.int y12), none, some (.int y14), some (.long x1), none, none, none, none, none, none, none, none, none, none, none]) i_Mo_summed_258 (by decide) rfl (fun _ => rfl) (fun x1 => ?_)
  refine jd_iload i_Mo_summed_260 rfl ?_
  refine jd_if_eq 275 i_Mo_summed_262 (by decide) ?_ ?_
  · refine jd_lload i_Mo_summed_275 rfl ?_
    exact jd_less (t_Mo_summed_277) ⟨rfl, rfl, rfl, rfl, rfl, rfl, rfl, rfl, rfl, trivial⟩
  · refine jd_aload_n i_Mo_summed_265 rfl ?_
    refine jd_iload_n i_Mo_summed_266 rfl ?_
    refine jd_iload i_Mo_summed_267 rfl ?_
    refine jd_callVL G_Mo_152 in_Mo_most se_Mo_most rfl (fun _ e => c_Mo_most e) rfl ⟨by decide, by decide⟩ rfl (Nat.le_of_ble_eq_true rfl) i_Mo_summed_269 (fun v3 h2 => ?_)
    refine jd_goto 277 i_Mo_summed_272 (by decide) ?_
    exact jd_less (t_Mo_summed_277) ⟨rfl, rfl, rfl, rfl, rfl, rfl, rfl, rfl, rfl, trivial⟩
noncomputable def r_Mo_summed_239 (h : ja_H) (y0 : Nat) (y1 : Int32) (y3 : Int32) (y4 : Int32) (y8 : Int64) (y10 : Int64) (y12 : Int32) (z0 : Int32) : Option (Int32 × ja_H) := (jl (z0 : Int32) (fun (x1 : Int32) => (if y12 = (0 : Int32) then (r_Mo_summed_258 h y0 y1 y3 y4 y8 y10 y12 x1 y8) else (jk h y0 9 (jc_L (r_Mo_least h y0 y1 y4) (fun v3 h2 => (r_Mo_summed_258 h2 y0 y1 y3 y4 y8 y10 y12 x1 v3)))))))
theorem t_Mo_summed_239 {h : ja_H} {y0 : Nat} {y1 : Int32} {y3 : Int32} {y4 : Int32} {y8 : Int64} {y10 : Int64} {y12 : Int32} {z0 : Int32} : ja_D ja_gI M_Mo_summed 239 [some (.ref y0), some (.int y1), none, some (.int y3), some (.int y4), none, none, none, some (.long y8), none, some (.long y10), none, some (.int y12), none, none, none, none, none, none, none, none, none, none, none, none, none, none] [.int z0] h (r_Mo_summed_239 h y0 y1 y3 y4 y8 y10 y12 z0) := by
  unfold r_Mo_summed_239
  refine jd_istore (fun x1 => [some (.ref y0), some (.int y1), none, some (.int y3), some (.int y4), none, none, none, some (.long y8), none, some (.long y10), none, some (.int y12), none, some (.int x1), none, none, none, none, none, none, none, none, none, none, none, none]) i_Mo_summed_239 (by decide) rfl (fun _ => rfl) (fun x1 => ?_)
  refine jd_iload i_Mo_summed_241 rfl ?_
  refine jd_if_eq 256 i_Mo_summed_243 (by decide) ?_ ?_
  · refine jd_lload i_Mo_summed_256 rfl ?_
    exact jd_less (t_Mo_summed_258) ⟨rfl, rfl, rfl, rfl, rfl, rfl, rfl, rfl, trivial⟩
  · refine jd_aload_n i_Mo_summed_246 rfl ?_
    refine jd_iload_n i_Mo_summed_247 rfl ?_
    refine jd_iload i_Mo_summed_248 rfl ?_
    refine jd_callVL G_Mo_148 in_Mo_least se_Mo_least rfl (fun _ e => c_Mo_least e) rfl ⟨by decide, by decide⟩ rfl (Nat.le_of_ble_eq_true rfl) i_Mo_summed_250 (fun v3 h2 => ?_)
    refine jd_goto 258 i_Mo_summed_253 (by decide) ?_
    exact jd_less (t_Mo_summed_258) ⟨rfl, rfl, rfl, rfl, rfl, rfl, rfl, rfl, trivial⟩
noncomputable def r_Mo_summed_222 (h : ja_H) (y0 : Nat) (y1 : Int32) (y3 : Int32) (y4 : Int32) (y7 : Int32) (y8 : Int64) (y10 : Int64) (y12 : Int32) : Option (Int32 × ja_H) := (if y12 = (0 : Int32) then (r_Mo_summed_239 h y0 y1 y3 y4 y8 y10 y12 y7) else (jk h y0 9 (jc_I (r_Mo_is h y0 y1 y4) (fun v2 h1 => (r_Mo_summed_239 h1 y0 y1 y3 y4 y8 y10 y12 v2)))))
theorem t_Mo_summed_222 {h : ja_H} {y0 : Nat} {y1 : Int32} {y3 : Int32} {y4 : Int32} {y7 : Int32} {y8 : Int64} {y10 : Int64} {y12 : Int32} : ja_D ja_gI M_Mo_summed 222 [some (.ref y0), some (.int y1), none, some (.int y3), some (.int y4), none, none, some (.int y7), some (.long y8), none, some (.long y10), none, some (.int y12), none, none, none, none, none, none, none, none, none, none, none, none, none, none] [] h (r_Mo_summed_222 h y0 y1 y3 y4 y7 y8 y10 y12) := by
  unfold r_Mo_summed_222
  refine jd_iload i_Mo_summed_222 rfl ?_
  refine jd_if_eq 237 i_Mo_summed_224 (by decide) ?_ ?_
  · refine jd_iload i_Mo_summed_237 rfl ?_
    exact jd_less (t_Mo_summed_239) ⟨rfl, rfl, rfl, rfl, rfl, rfl, rfl, trivial⟩
  · refine jd_aload_n i_Mo_summed_227 rfl ?_
    refine jd_iload_n i_Mo_summed_228 rfl ?_
    refine jd_iload i_Mo_summed_229 rfl ?_
    refine jd_callVI G_Mo_140 in_Mo_is se_Mo_is rfl (fun _ e => c_Mo_is e) rfl ⟨by decide, by decide⟩ rfl (Nat.le_of_ble_eq_true rfl) i_Mo_summed_231 (fun v2 h1 => ?_)
    refine jd_goto 239 i_Mo_summed_234 (by decide) ?_
    exact jd_less (t_Mo_summed_239) ⟨rfl, rfl, rfl, rfl, rfl, rfl, rfl, trivial⟩
noncomputable def r_Mo_summed_219 (h : ja_H) : Option (Int32 × ja_H) := (some ((7 : Int32), h))
theorem t_Mo_summed_219 {h : ja_H} : ja_D ja_gI M_Mo_summed 219 [none, none, none, none, none, none, none, none, none, none, none, none, none, none, none, none, none, none, none, none, none, none, none, none, none, none, none] [] h (r_Mo_summed_219 h) := by
  unfold r_Mo_summed_219
  refine jd_bipush 7 i_Mo_summed_219 (by decide) ?_
  exact jd_ireturn i_Mo_summed_221 rfl
noncomputable def r_Mo_summed_209 (h : ja_H) (y0 : Nat) (y1 : Int32) (y3 : Int32) (y4 : Int32) (y7 : Int32) (y8 : Int64) (y10 : Int64) (y12 : Int32) (y13 : Int32) : Option (Int32 × ja_H) := (if y3 = (1 : Int32) then (if y13 = (0 : Int32) then (r_Mo_summed_222 h y0 y1 y3 y4 y7 y8 y10 y12) else (r_Mo_summed_219 h)) else (r_Mo_summed_222 h y0 y1 y3 y4 y7 y8 y10 y12))
theorem t_Mo_summed_209 {h : ja_H} {y0 : Nat} {y1 : Int32} {y3 : Int32} {y4 : Int32} {y7 : Int32} {y8 : Int64} {y10 : Int64} {y12 : Int32} {y13 : Int32} : ja_D ja_gI M_Mo_summed 209 [some (.ref y0), some (.int y1), none, some (.int y3), some (.int y4), none, none, some (.int y7), some (.long y8), none, some (.long y10), none, some (.int y12), some (.int y13), none, none, none, none, none, none, none, none, none, none, none, none, none] [] h (r_Mo_summed_209 h y0 y1 y3 y4 y7 y8 y10 y12 y13) := by
  unfold r_Mo_summed_209
  refine jd_iload_n i_Mo_summed_209 rfl ?_
  refine jd_iconst 1 i_Mo_summed_210 (by decide) ?_
  refine jd_icmp_ne 222 i_Mo_summed_211 (by decide) ?_ ?_
  · exact jd_less (t_Mo_summed_222) ⟨rfl, rfl, rfl, rfl, rfl, rfl, rfl, rfl, trivial⟩
  · refine jd_iload i_Mo_summed_214 rfl ?_
    refine jd_if_eq 222 i_Mo_summed_216 (by decide) ?_ ?_
    · exact jd_less (t_Mo_summed_222) ⟨rfl, rfl, rfl, rfl, rfl, rfl, rfl, rfl, trivial⟩
    · exact jd_less (t_Mo_summed_219) trivial
noncomputable def r_Mo_summed_189 (h : ja_H) (y0 : Nat) (y1 : Int32) (y3 : Int32) (y4 : Int32) (y5 : Int32) (y7 : Int32) (y8 : Int64) (y10 : Int64) (y12 : Int32) (y13 : Int32) : Option (Int32 × ja_H) := (if y5 = (0 : Int32) then (r_Mo_summed_219 h) else (if (1 : Int32) < y3 then (r_Mo_summed_219 h) else (if y12 = (0 : Int32) then (r_Mo_summed_209 h y0 y1 y3 y4 y7 y8 y10 y12 y13) else (if y13 = (0 : Int32) then (r_Mo_summed_209 h y0 y1 y3 y4 y7 y8 y10 y12 y13) else (r_Mo_summed_219 h)))))
theorem t_Mo_summed_189 {h : ja_H} {y0 : Nat} {y1 : Int32} {y3 : Int32} {y4 : Int32} {y5 : Int32} {y7 : Int32} {y8 : Int64} {y10 : Int64} {y12 : Int32} {y13 : Int32} : ja_D ja_gI M_Mo_summed 189 [some (.ref y0), some (.int y1), none, some (.int y3), some (.int y4), some (.int y5), none, some (.int y7), some (.long y8), none, some (.long y10), none, some (.int y12), some (.int y13), none, none, none, none, none, none, none, none, none, none, none, none, none] [] h (r_Mo_summed_189 h y0 y1 y3 y4 y5 y7 y8 y10 y12 y13) := by
  unfold r_Mo_summed_189
  refine jd_iload i_Mo_summed_189 rfl ?_
  refine jd_if_eq 219 i_Mo_summed_191 (by decide) ?_ ?_
  · exact jd_less (t_Mo_summed_219) trivial
  · refine jd_iload_n i_Mo_summed_194 rfl ?_
    refine jd_iconst 1 i_Mo_summed_195 (by decide) ?_
    refine jd_icmp_gt 219 i_Mo_summed_196 (by decide) ?_ ?_
    · exact jd_less (t_Mo_summed_219) trivial
    · refine jd_iload i_Mo_summed_199 rfl ?_
      refine jd_if_eq 209 i_Mo_summed_201 (by decide) ?_ ?_
      · exact jd_less (t_Mo_summed_209) ⟨rfl, rfl, rfl, rfl, rfl, rfl, rfl, rfl, rfl, trivial⟩
      · refine jd_iload i_Mo_summed_204 rfl ?_
        refine jd_if_ne 219 i_Mo_summed_206 (by decide) ?_ ?_
        · exact jd_less (t_Mo_summed_219) trivial
        · exact jd_less (t_Mo_summed_209) ⟨rfl, rfl, rfl, rfl, rfl, rfl, rfl, rfl, rfl, trivial⟩
noncomputable def r_Mo_summed_177 (h : ja_H) (y0 : Nat) (y1 : Int32) (y3 : Int32) (y4 : Int32) (y5 : Int32) (y7 : Int32) (y8 : Int64) (y10 : Int64) (y12 : Int32) (z0 : Int32) : Option (Int32 × ja_H) := (jl (z0 : Int32) (fun (x1 : Int32) => (if y12 = (0 : Int32) then (if x1 = (0 : Int32) then (jk h y0 9 (jc_V (r_Mo_numbers h y0 y1 y3 y5 y8 y10) (fun h2 => (some ((0 : Int32), h2))))) else (r_Mo_summed_189 h y0 y1 y3 y4 y5 y7 y8 y10 y12 x1)) else (r_Mo_summed_189 h y0 y1 y3 y4 y5 y7 y8 y10 y12 x1))))
theorem t_Mo_summed_177 {h : ja_H} {y0 : Nat} {y1 : Int32} {y3 : Int32} {y4 : Int32} {y5 : Int32} {y7 : Int32} {y8 : Int64} {y10 : Int64} {y12 : Int32} {z0 : Int32} : ja_D ja_gI M_Mo_summed 177 [some (.ref y0), some (.int y1), none, some (.int y3), some (.int y4), some (.int y5), none, some (.int y7), some (.long y8), none, some (.long y10), none, some (.int y12), none, none, none, none, none, none, none, none, none, none, none, none, none, none] [.int z0] h (r_Mo_summed_177 h y0 y1 y3 y4 y5 y7 y8 y10 y12 z0) := by
  unfold r_Mo_summed_177
  refine jd_istore (fun x1 => [some (.ref y0), some (.int y1), none, some (.int y3), some (.int y4), some (.int y5), none, some (.int y7), some (.long y8), none, some (.long y10), none, some (.int y12), some (.int x1), none, none, none, none, none, none, none, none, none, none, none, none, none]) i_Mo_summed_177 (by decide) rfl (fun _ => rfl) (fun x1 => ?_)
  refine jd_iload i_Mo_summed_179 rfl ?_
  refine jd_if_ne 189 i_Mo_summed_181 (by decide) ?_ ?_
  · exact jd_less (t_Mo_summed_189) ⟨rfl, rfl, rfl, rfl, rfl, rfl, rfl, rfl, rfl, rfl, trivial⟩
  · refine jd_iload i_Mo_summed_184 rfl ?_
    refine jd_if_eq 464 i_Mo_summed_186 (by decide) ?_ ?_
    · refine jd_aload_n i_Mo_summed_464 rfl ?_
      refine jd_iload_n i_Mo_summed_465 rfl ?_
      refine jd_iload_n i_Mo_summed_466 rfl ?_
      refine jd_iload i_Mo_summed_467 rfl ?_
      refine jd_lload i_Mo_summed_469 rfl ?_
      refine jd_lload i_Mo_summed_471 rfl ?_
      refine jd_callVV G_Mo_197 in_Mo_numbers se_Mo_numbers rfl (fun _ e => c_Mo_numbers e) rfl ⟨by decide, by decide⟩ rfl (Nat.le_of_ble_eq_true rfl) i_Mo_summed_473 (fun h2 => ?_)
      refine jd_iconst 0 i_Mo_summed_476 (by decide) ?_
      exact jd_ireturn i_Mo_summed_477 rfl
    · exact jd_less (t_Mo_summed_189) ⟨rfl, rfl, rfl, rfl, rfl, rfl, rfl, rfl, rfl, rfl, trivial⟩
noncomputable def r_Mo_summed_164 (h : ja_H) (y0 : Nat) (y1 : Int32) (y3 : Int32) (y4 : Int32) (y5 : Int32) (y7 : Int32) (y8 : Int64) (y10 : Int64) (z0 : Int32) : Option (Int32 × ja_H) := (jl (z0 : Int32) (fun (x1 : Int32) => (if y7 < (2 : Int32) then (r_Mo_summed_177 h y0 y1 y3 y4 y5 y7 y8 y10 x1 (0 : Int32)) else (r_Mo_summed_177 h y0 y1 y3 y4 y5 y7 y8 y10 x1 (1 : Int32)))))
theorem t_Mo_summed_164 {h : ja_H} {y0 : Nat} {y1 : Int32} {y3 : Int32} {y4 : Int32} {y5 : Int32} {y7 : Int32} {y8 : Int64} {y10 : Int64} {z0 : Int32} : ja_D ja_gI M_Mo_summed 164 [some (.ref y0), some (.int y1), none, some (.int y3), some (.int y4), some (.int y5), none, some (.int y7), some (.long y8), none, some (.long y10), none, none, none, none, none, none, none, none, none, none, none, none, none, none, none, none] [.int z0] h (r_Mo_summed_164 h y0 y1 y3 y4 y5 y7 y8 y10 z0) := by
  unfold r_Mo_summed_164
  refine jd_istore (fun x1 => [some (.ref y0), some (.int y1), none, some (.int y3), some (.int y4), some (.int y5), none, some (.int y7), some (.long y8), none, some (.long y10), none, some (.int x1), none, none, none, none, none, none, none, none, none, none, none, none, none, none]) i_Mo_summed_164 (by decide) rfl (fun _ => rfl) (fun x1 => ?_)
  refine jd_iload i_Mo_summed_166 rfl ?_
  refine jd_iconst 2 i_Mo_summed_168 (by decide) ?_
  refine jd_icmp_lt 176 i_Mo_summed_169 (by decide) ?_ ?_
  · refine jd_iconst 0 i_Mo_summed_176 (by decide) ?_
    exact jd_less (t_Mo_summed_177) ⟨rfl, rfl, rfl, rfl, rfl, rfl, rfl, rfl, rfl, trivial⟩
  · refine jd_iconst 1 i_Mo_summed_172 (by decide) ?_
    refine jd_goto 177 i_Mo_summed_173 (by decide) ?_
    exact jd_less (t_Mo_summed_177) ⟨rfl, rfl, rfl, rfl, rfl, rfl, rfl, rfl, rfl, trivial⟩
noncomputable def r_Mo_summed_163 (h : ja_H) (y0 : Nat) (y1 : Int32) (y3 : Int32) (y4 : Int32) (y5 : Int32) (y7 : Int32) (y8 : Int64) (y10 : Int64) : Option (Int32 × ja_H) := (r_Mo_summed_164 h y0 y1 y3 y4 y5 y7 y8 y10 (0 : Int32))
theorem t_Mo_summed_163 {h : ja_H} {y0 : Nat} {y1 : Int32} {y3 : Int32} {y4 : Int32} {y5 : Int32} {y7 : Int32} {y8 : Int64} {y10 : Int64} : ja_D ja_gI M_Mo_summed 163 [some (.ref y0), some (.int y1), none, some (.int y3), some (.int y4), some (.int y5), none, some (.int y7), some (.long y8), none, some (.long y10), none, none, none, none, none, none, none, none, none, none, none, none, none, none, none, none] [] h (r_Mo_summed_163 h y0 y1 y3 y4 y5 y7 y8 y10) := by
  unfold r_Mo_summed_163
  refine jd_iconst 0 i_Mo_summed_163 (by decide) ?_
  exact jd_less (t_Mo_summed_164) ⟨rfl, rfl, rfl, rfl, rfl, rfl, rfl, rfl, trivial⟩
noncomputable def r_Mo_summed_141 (h : ja_H) (y0 : Nat) (y1 : Int32) (y3 : Int32) (y4 : Int32) (y5 : Int32) (y7 : Int32) (y8 : Int64) (y10 : Int64) : Option (Int32 × ja_H) := (jk h y0 9 (jc_I (r_Mo_usesD h y0 y1) (fun v2 h1 => (if v2 = (0 : Int32) then (r_Mo_summed_163 h1 y0 y1 y3 y4 y5 y7 y8 y10) else (jk h1 y0 9 (jc_I (r_Mo_pointer h1 y0 y1 y4) (fun v4 h3 => (if v4 = (0 : Int32) then (r_Mo_summed_163 h3 y0 y1 y3 y4 y5 y7 y8 y10) else (r_Mo_summed_164 h3 y0 y1 y3 y4 y5 y7 y8 y10 (1 : Int32))))))))))
theorem t_Mo_summed_141 {h : ja_H} {y0 : Nat} {y1 : Int32} {y3 : Int32} {y4 : Int32} {y5 : Int32} {y7 : Int32} {y8 : Int64} {y10 : Int64} : ja_D ja_gI M_Mo_summed 141 [some (.ref y0), some (.int y1), none, some (.int y3), some (.int y4), some (.int y5), none, some (.int y7), some (.long y8), none, some (.long y10), none, none, none, none, none, none, none, none, none, none, none, none, none, none, none, none] [] h (r_Mo_summed_141 h y0 y1 y3 y4 y5 y7 y8 y10) := by
  unfold r_Mo_summed_141
  refine jd_aload_n i_Mo_summed_141 rfl ?_
  refine jd_iload_n i_Mo_summed_142 rfl ?_
  refine jd_callVI G_Mo_171 in_Mo_usesD se_Mo_usesD rfl (fun _ e => c_Mo_usesD e) rfl ⟨by decide, by decide⟩ rfl (Nat.le_of_ble_eq_true rfl) i_Mo_summed_143 (fun v2 h1 => ?_)
  refine jd_if_eq 163 i_Mo_summed_146 (by decide) ?_ ?_
  · exact jd_less (t_Mo_summed_163) ⟨rfl, rfl, rfl, rfl, rfl, rfl, rfl, rfl, trivial⟩
  · refine jd_aload_n i_Mo_summed_149 rfl ?_
    refine jd_iload_n i_Mo_summed_150 rfl ?_
    refine jd_iload i_Mo_summed_151 rfl ?_
    refine jd_callVI G_Mo_159 in_Mo_pointer se_Mo_pointer rfl (fun _ e => c_Mo_pointer e) rfl ⟨by decide, by decide⟩ rfl (Nat.le_of_ble_eq_true rfl) i_Mo_summed_153 (fun v4 h3 => ?_)
    refine jd_if_eq 163 i_Mo_summed_156 (by decide) ?_ ?_
    · exact jd_less (t_Mo_summed_163) ⟨rfl, rfl, rfl, rfl, rfl, rfl, rfl, rfl, trivial⟩
    · refine jd_iconst 1 i_Mo_summed_159 (by decide) ?_
      refine jd_goto 164 i_Mo_summed_160 (by decide) ?_
      exact jd_less (t_Mo_summed_164) ⟨rfl, rfl, rfl, rfl, rfl, rfl, rfl, rfl, trivial⟩
noncomputable def r_Mo_summed_111 (h : ja_H) (y0 : Nat) (y1 : Int32) (y3 : Int32) (y4 : Int32) (y5 : Int32) (y7 : Int32) (y8 : Int64) (z0 : Int64) : Option (Int32 × ja_H) := (jl (z0 : Int64) (fun (x1 : Int64) => (if y5 = (0 : Int32) then (r_Mo_summed_141 h y0 y1 y3 y4 y5 y7 y8 x1) else (if y3 = (11 : Int32) then (jk h y0 9 (jc_V (r_Mo_give h y0 (1024 : Int32) y4 y7 y8 x1) (fun h2 => (some ((0 : Int32), h2))))) else (r_Mo_summed_141 h y0 y1 y3 y4 y5 y7 y8 x1)))))
theorem t_Mo_summed_111 {h : ja_H} {y0 : Nat} {y1 : Int32} {y3 : Int32} {y4 : Int32} {y5 : Int32} {y7 : Int32} {y8 : Int64} {z0 : Int64} : ja_D ja_gI M_Mo_summed 111 [some (.ref y0), some (.int y1), none, some (.int y3), some (.int y4), some (.int y5), none, some (.int y7), some (.long y8), none, none, none, none, none, none, none, none, none, none, none, none, none, none, none, none, none, none] [.long z0] h (r_Mo_summed_111 h y0 y1 y3 y4 y5 y7 y8 z0) := by
  unfold r_Mo_summed_111
  refine jd_lstore (fun x1 => [some (.ref y0), some (.int y1), none, some (.int y3), some (.int y4), some (.int y5), none, some (.int y7), some (.long y8), none, some (.long x1), none, none, none, none, none, none, none, none, none, none, none, none, none, none, none, none]) i_Mo_summed_111 (by decide) rfl (fun _ => rfl) (fun x1 => ?_)
  refine jd_iload i_Mo_summed_113 rfl ?_
  refine jd_if_eq 141 i_Mo_summed_115 (by decide) ?_ ?_
  · exact jd_less (t_Mo_summed_141) ⟨rfl, rfl, rfl, rfl, rfl, rfl, rfl, rfl, trivial⟩
  · refine jd_iload_n i_Mo_summed_118 rfl ?_
    refine jd_bipush 11 i_Mo_summed_119 (by decide) ?_
    refine jd_icmp_ne 141 i_Mo_summed_121 (by decide) ?_ ?_
    · exact jd_less (t_Mo_summed_141) ⟨rfl, rfl, rfl, rfl, rfl, rfl, rfl, rfl, trivial⟩
    · refine jd_aload_n i_Mo_summed_124 rfl ?_
      refine jd_sipush 1024 i_Mo_summed_125 (by decide) ?_
      refine jd_iload i_Mo_summed_128 rfl ?_
      refine jd_iload i_Mo_summed_130 rfl ?_
      refine jd_lload i_Mo_summed_132 rfl ?_
      refine jd_lload i_Mo_summed_134 rfl ?_
      refine jd_callVV G_Mo_144 in_Mo_give se_Mo_give rfl (fun _ e => c_Mo_give e) rfl ⟨by decide, by decide⟩ rfl (Nat.le_of_ble_eq_true rfl) i_Mo_summed_136 (fun h2 => ?_)
      refine jd_iconst 0 i_Mo_summed_139 (by decide) ?_
      exact jd_ireturn i_Mo_summed_140 rfl
noncomputable def r_Mo_summed_85 (h : ja_H) (y0 : Nat) (y1 : Int32) (y3 : Int32) (y4 : Int32) (y5 : Int32) (y6 : Int32) (y7 : Int32) (z0 : Int64) : Option (Int32 × ja_H) := (jl (z0 : Int64) (fun (x1 : Int64) => (if y6 = (0 : Int32) then (jk h y0 9 (jc_I (r_Mo_imm h y0 y1) (fun v3 h2 => (r_Mo_summed_111 h2 y0 y1 y3 y4 y5 y7 x1 (Int32.toInt64 v3))))) else (jk h y0 9 (jc_I (r_Mo_s h y0 y1) (fun v5 h4 => (jk h4 y0 9 (jc_L (r_Mo_most h4 y0 y1 v5) (fun v7 h6 => (r_Mo_summed_111 h6 y0 y1 y3 y4 y5 y7 x1 v7))))))))))
theorem t_Mo_summed_85 {h : ja_H} {y0 : Nat} {y1 : Int32} {y3 : Int32} {y4 : Int32} {y5 : Int32} {y6 : Int32} {y7 : Int32} {z0 : Int64} : ja_D ja_gI M_Mo_summed 85 [some (.ref y0), some (.int y1), none, some (.int y3), some (.int y4), some (.int y5), some (.int y6), some (.int y7), none, none, none, none, none, none, none, none, none, none, none, none, none, none, none, none, none, none, none] [.long z0] h (r_Mo_summed_85 h y0 y1 y3 y4 y5 y6 y7 z0) := by
  unfold r_Mo_summed_85
  refine jd_lstore (fun x1 => [some (.ref y0), some (.int y1), none, some (.int y3), some (.int y4), some (.int y5), some (.int y6), some (.int y7), some (.long x1), none, none, none, none, none, none, none, none, none, none, none, none, none, none, none, none, none, none]) i_Mo_summed_85 (by decide) rfl (fun _ => rfl) (fun x1 => ?_)
  refine jd_iload i_Mo_summed_87 rfl ?_
  refine jd_if_eq 105 i_Mo_summed_89 (by decide) ?_ ?_
  · refine jd_aload_n i_Mo_summed_105 rfl ?_
    refine jd_iload_n i_Mo_summed_106 rfl ?_
    refine jd_callVI G_Mo_92 in_Mo_imm se_Mo_imm rfl (fun _ e => c_Mo_imm e) rfl ⟨by decide, by decide⟩ rfl (Nat.le_of_ble_eq_true rfl) i_Mo_summed_107 (fun v3 h2 => ?_)
    refine jd_i2l i_Mo_summed_110 ?_
    exact jd_less (t_Mo_summed_111) ⟨rfl, rfl, rfl, rfl, rfl, rfl, rfl, trivial⟩
  · refine jd_aload_n i_Mo_summed_92 rfl ?_
    refine jd_iload_n i_Mo_summed_93 rfl ?_
    refine jd_aload_n i_Mo_summed_94 rfl ?_
    refine jd_iload_n i_Mo_summed_95 rfl ?_
    refine jd_callVI G_Mo_110 in_Mo_s se_Mo_s rfl (fun _ e => c_Mo_s e) rfl ⟨by decide, by decide⟩ rfl (Nat.le_of_ble_eq_true rfl) i_Mo_summed_96 (fun v5 h4 => ?_)
    refine jd_callVL G_Mo_152 in_Mo_most se_Mo_most rfl (fun _ e => c_Mo_most e) rfl ⟨by decide, by decide⟩ rfl (Nat.le_of_ble_eq_true rfl) i_Mo_summed_99 (fun v7 h6 => ?_)
    refine jd_goto 111 i_Mo_summed_102 (by decide) ?_
    exact jd_less (t_Mo_summed_111) ⟨rfl, rfl, rfl, rfl, rfl, rfl, rfl, trivial⟩
noncomputable def r_Mo_summed_59 (h : ja_H) (y0 : Nat) (y1 : Int32) (y3 : Int32) (y4 : Int32) (y5 : Int32) (y6 : Int32) (z0 : Int32) : Option (Int32 × ja_H) := (jl (z0 : Int32) (fun (x1 : Int32) => (if y6 = (0 : Int32) then (jk h y0 9 (jc_I (r_Mo_imm h y0 y1) (fun v3 h2 => (r_Mo_summed_85 h2 y0 y1 y3 y4 y5 y6 x1 (Int32.toInt64 v3))))) else (jk h y0 9 (jc_I (r_Mo_s h y0 y1) (fun v5 h4 => (jk h4 y0 9 (jc_L (r_Mo_least h4 y0 y1 v5) (fun v7 h6 => (r_Mo_summed_85 h6 y0 y1 y3 y4 y5 y6 x1 v7))))))))))
theorem t_Mo_summed_59 {h : ja_H} {y0 : Nat} {y1 : Int32} {y3 : Int32} {y4 : Int32} {y5 : Int32} {y6 : Int32} {z0 : Int32} : ja_D ja_gI M_Mo_summed 59 [some (.ref y0), some (.int y1), none, some (.int y3), some (.int y4), some (.int y5), some (.int y6), none, none, none, none, none, none, none, none, none, none, none, none, none, none, none, none, none, none, none, none] [.int z0] h (r_Mo_summed_59 h y0 y1 y3 y4 y5 y6 z0) := by
  unfold r_Mo_summed_59
  refine jd_istore (fun x1 => [some (.ref y0), some (.int y1), none, some (.int y3), some (.int y4), some (.int y5), some (.int y6), some (.int x1), none, none, none, none, none, none, none, none, none, none, none, none, none, none, none, none, none, none, none]) i_Mo_summed_59 (by decide) rfl (fun _ => rfl) (fun x1 => ?_)
  refine jd_iload i_Mo_summed_61 rfl ?_
  refine jd_if_eq 79 i_Mo_summed_63 (by decide) ?_ ?_
  · refine jd_aload_n i_Mo_summed_79 rfl ?_
    refine jd_iload_n i_Mo_summed_80 rfl ?_
    refine jd_callVI G_Mo_92 in_Mo_imm se_Mo_imm rfl (fun _ e => c_Mo_imm e) rfl ⟨by decide, by decide⟩ rfl (Nat.le_of_ble_eq_true rfl) i_Mo_summed_81 (fun v3 h2 => ?_)
    refine jd_i2l i_Mo_summed_84 ?_
    exact jd_less (t_Mo_summed_85) ⟨rfl, rfl, rfl, rfl, rfl, rfl, rfl, trivial⟩
  · refine jd_aload_n i_Mo_summed_66 rfl ?_
    refine jd_iload_n i_Mo_summed_67 rfl ?_
    refine jd_aload_n i_Mo_summed_68 rfl ?_
    refine jd_iload_n i_Mo_summed_69 rfl ?_
    refine jd_callVI G_Mo_110 in_Mo_s se_Mo_s rfl (fun _ e => c_Mo_s e) rfl ⟨by decide, by decide⟩ rfl (Nat.le_of_ble_eq_true rfl) i_Mo_summed_70 (fun v5 h4 => ?_)
    refine jd_callVL G_Mo_148 in_Mo_least se_Mo_least rfl (fun _ e => c_Mo_least e) rfl ⟨by decide, by decide⟩ rfl (Nat.le_of_ble_eq_true rfl) i_Mo_summed_73 (fun v7 h6 => ?_)
    refine jd_goto 85 i_Mo_summed_76 (by decide) ?_
    exact jd_less (t_Mo_summed_85) ⟨rfl, rfl, rfl, rfl, rfl, rfl, rfl, trivial⟩
noncomputable def r_Mo_summed_31 (h : ja_H) (y0 : Nat) (y1 : Int32) (y3 : Int32) (y4 : Int32) (z0 : Int32) : Option (Int32 × ja_H) := (jl (z0 : Int32) (fun (x1 : Int32) => (jk h y0 9 (jc_I (r_Mo_usesS h y0 y1) (fun v3 h2 => (jl (v3 : Int32) (fun (x4 : Int32) => (if x4 = (0 : Int32) then (r_Mo_summed_59 h2 y0 y1 y3 y4 x1 x4 (1 : Int32)) else (jk h2 y0 9 (jc_I (r_Mo_s h2 y0 y1) (fun v6 h5 => (jk h5 y0 9 (jc_I (r_Mo_is h5 y0 y1 v6) (fun v8 h7 => (r_Mo_summed_59 h7 y0 y1 y3 y4 x1 x4 v8)))))))))))))))
theorem t_Mo_summed_31 {h : ja_H} {y0 : Nat} {y1 : Int32} {y3 : Int32} {y4 : Int32} {z0 : Int32} : ja_D ja_gI M_Mo_summed 31 [some (.ref y0), some (.int y1), none, some (.int y3), some (.int y4), none, none, none, none, none, none, none, none, none, none, none, none, none, none, none, none, none, none, none, none, none, none] [.int z0] h (r_Mo_summed_31 h y0 y1 y3 y4 z0) := by
  unfold r_Mo_summed_31
  refine jd_istore (fun x1 => [some (.ref y0), some (.int y1), none, some (.int y3), some (.int y4), some (.int x1), none, none, none, none, none, none, none, none, none, none, none, none, none, none, none, none, none, none, none, none, none]) i_Mo_summed_31 (by decide) rfl (fun _ => rfl) (fun x1 => ?_)
  refine jd_aload_n i_Mo_summed_33 rfl ?_
  refine jd_iload_n i_Mo_summed_34 rfl ?_
  refine jd_callVI G_Mo_116 in_Mo_usesS se_Mo_usesS rfl (fun _ e => c_Mo_usesS e) rfl ⟨by decide, by decide⟩ rfl (Nat.le_of_ble_eq_true rfl) i_Mo_summed_35 (fun v3 h2 => ?_)
  refine jd_istore (fun x4 => [some (.ref y0), some (.int y1), none, some (.int y3), some (.int y4), some (.int x1), some (.int x4), none, none, none, none, none, none, none, none, none, none, none, none, none, none, none, none, none, none, none, none]) i_Mo_summed_38 (by decide) rfl (fun _ => rfl) (fun x4 => ?_)
  refine jd_iload i_Mo_summed_40 rfl ?_
  refine jd_if_eq 58 i_Mo_summed_42 (by decide) ?_ ?_
  · refine jd_iconst 1 i_Mo_summed_58 (by decide) ?_
    exact jd_less (t_Mo_summed_59) ⟨rfl, rfl, rfl, rfl, rfl, rfl, trivial⟩
  · refine jd_aload_n i_Mo_summed_45 rfl ?_
    refine jd_iload_n i_Mo_summed_46 rfl ?_
    refine jd_aload_n i_Mo_summed_47 rfl ?_
    refine jd_iload_n i_Mo_summed_48 rfl ?_
    refine jd_callVI G_Mo_110 in_Mo_s se_Mo_s rfl (fun _ e => c_Mo_s e) rfl ⟨by decide, by decide⟩ rfl (Nat.le_of_ble_eq_true rfl) i_Mo_summed_49 (fun v6 h5 => ?_)
    refine jd_callVI G_Mo_140 in_Mo_is se_Mo_is rfl (fun _ e => c_Mo_is e) rfl ⟨by decide, by decide⟩ rfl (Nat.le_of_ble_eq_true rfl) i_Mo_summed_52 (fun v8 h7 => ?_)
    refine jd_goto 59 i_Mo_summed_55 (by decide) ?_
    exact jd_less (t_Mo_summed_59) ⟨rfl, rfl, rfl, rfl, rfl, rfl, trivial⟩
noncomputable def r_Mo_summed (h : ja_H) (a0 : Nat) (a1 : Int32) : Option (Int32 × ja_H) := (jk h a0 9 (jc_I (r_Mo_op h a0 a1) (fun v102 h101 => (jl (v102 : Int32) (fun (x103 : Int32) => (jl ((x103 >>> ((4 : Int32) &&& 31)) : Int32) (fun (x104 : Int32) => (jk h101 a0 9 (jc_I (r_Mo_d h101 a0 a1) (fun v106 h105 => (jl (v106 : Int32) (fun (x107 : Int32) => (if (x103 &&& (7 : Int32)) = (7 : Int32) then (r_Mo_summed_31 h105 a0 a1 x104 x107 (1 : Int32)) else (r_Mo_summed_31 h105 a0 a1 x104 x107 (0 : Int32)))))))))))))))
theorem e_Mo_summed {h : ja_H} {a0 : Nat} {a1 : Int32} : ja_D ja_gI M_Mo_summed 0 [some (.ref a0), some (.int a1), none, none, none, none, none, none, none, none, none, none, none, none, none, none, none, none, none, none, none, none, none, none, none, none, none] [] h (r_Mo_summed h a0 a1) := by
  unfold r_Mo_summed
  refine jd_aload_n i_Mo_summed_0 rfl ?_
  refine jd_iload_n i_Mo_summed_1 rfl ?_
  refine jd_callVI G_Mo_78 in_Mo_op se_Mo_op rfl (fun _ e => c_Mo_op e) rfl ⟨by decide, by decide⟩ rfl (Nat.le_of_ble_eq_true rfl) i_Mo_summed_2 (fun v102 h101 => ?_)
  refine jd_istore_n (fun x103 => [some (.ref a0), some (.int a1), some (.int x103), none, none, none, none, none, none, none, none, none, none, none, none, none, none, none, none, none, none, none, none, none, none, none, none]) i_Mo_summed_5 (by decide) rfl (fun _ => rfl) (fun x103 => ?_)
  refine jd_iload_n i_Mo_summed_6 rfl ?_
  refine jd_iconst 4 i_Mo_summed_7 (by decide) ?_
  refine jd_ishr i_Mo_summed_8 ?_
  refine jd_istore_n (fun x104 => [some (.ref a0), some (.int a1), some (.int x103), some (.int x104), none, none, none, none, none, none, none, none, none, none, none, none, none, none, none, none, none, none, none, none, none, none, none]) i_Mo_summed_9 (by decide) rfl (fun _ => rfl) (fun x104 => ?_)
  refine jd_aload_n i_Mo_summed_10 rfl ?_
  refine jd_iload_n i_Mo_summed_11 rfl ?_
  refine jd_callVI G_Mo_107 in_Mo_d se_Mo_d rfl (fun _ e => c_Mo_d e) rfl ⟨by decide, by decide⟩ rfl (Nat.le_of_ble_eq_true rfl) i_Mo_summed_12 (fun v106 h105 => ?_)
  refine jd_istore (fun x107 => [some (.ref a0), some (.int a1), some (.int x103), some (.int x104), some (.int x107), none, none, none, none, none, none, none, none, none, none, none, none, none, none, none, none, none, none, none, none, none, none]) i_Mo_summed_15 (by decide) rfl (fun _ => rfl) (fun x107 => ?_)
  refine jd_iload_n i_Mo_summed_17 rfl ?_
  refine jd_bipush 7 i_Mo_summed_18 (by decide) ?_
  refine jd_iand i_Mo_summed_20 ?_
  refine jd_bipush 7 i_Mo_summed_21 (by decide) ?_
  refine jd_icmp_ne 30 i_Mo_summed_23 (by decide) ?_ ?_
  · refine jd_iconst 0 i_Mo_summed_30 (by decide) ?_
    exact jd_less (t_Mo_summed_31) ⟨rfl, rfl, rfl, rfl, trivial⟩
  · refine jd_iconst 1 i_Mo_summed_26 (by decide) ?_
    refine jd_goto 31 i_Mo_summed_27 (by decide) ?_
    exact jd_less (t_Mo_summed_31) ⟨rfl, rfl, rfl, rfl, trivial⟩
theorem c_Mo_summed {h : ja_H} {a0 : Nat} {a1 : Int32} {o : Int32 × ja_H} (e : r_Mo_summed h a0 a1 = some o) : ja_M (3, 117) y_Mo_summed b_Mo_summed 27 (some .int) [.ref a0, .int a1] h [.int o.1] o.2 := jc_of (g := ja_gI) false _ e e_Mo_summed rfl (by decide +kernel) (fun q => nomatch q) (Nat.le_of_ble_eq_true rfl) (fun _ q => nomatch q) (Nat.le_of_ble_eq_true rfl)
noncomputable def r_Mo_left_339 (h : ja_H) (z0 : Int32) : Option (Int32 × ja_H) := (jb z0 (some (z0, h)))
theorem t_Mo_left_339 {h : ja_H} {z0 : Int32} : ja_D ja_gI M_Mo_left 339 [none, none, none, none, none, none, none, none, none, none, none, none] [.int z0] h (r_Mo_left_339 h z0) := by
  unfold r_Mo_left_339
  exact jd_zreturn i_Mo_left_339 rfl
noncomputable def r_Mo_left_315 (h : ja_H) (y0 : Nat) (y1 : Int32) (y2 : Int32) (y6 : Int64) (y8 : Int64) : Option (Int32 × ja_H) := (jk h y0 9 (jc_V (r_Mo_give h y0 y1 y2 (1 : Int32) y6 y8) (fun h1 => (if y8 < y6 then (r_Mo_left_339 h1 (0 : Int32)) else (r_Mo_left_339 h1 (1 : Int32))))))
theorem t_Mo_left_315 {h : ja_H} {y0 : Nat} {y1 : Int32} {y2 : Int32} {y6 : Int64} {y8 : Int64} : ja_D ja_gI M_Mo_left 315 [some (.ref y0), some (.int y1), some (.int y2), none, none, none, some (.long y6), none, some (.long y8), none, none, none] [] h (r_Mo_left_315 h y0 y1 y2 y6 y8) := by
  unfold r_Mo_left_315
  refine jd_aload_n i_Mo_left_315 rfl ?_
  refine jd_iload_n i_Mo_left_316 rfl ?_
  refine jd_iload_n i_Mo_left_317 rfl ?_
  refine jd_iconst 1 i_Mo_left_318 (by decide) ?_
  refine jd_lload i_Mo_left_319 rfl ?_
  refine jd_lload i_Mo_left_321 rfl ?_
  refine jd_callVV G_Mo_144 in_Mo_give se_Mo_give rfl (fun _ e => c_Mo_give e) rfl ⟨by decide, by decide⟩ rfl (Nat.le_of_ble_eq_true rfl) i_Mo_left_323 (fun h1 => ?_)
  refine jd_lload i_Mo_left_326 rfl ?_
  refine jd_lload i_Mo_left_328 rfl ?_
  refine jd_lcmp_gt 338 i_Mo_left_330 i_Mo_left_331 (by decide) ?_ ?_
  · refine jd_iconst 0 i_Mo_left_338 (by decide) ?_
    exact jd_less (t_Mo_left_339) trivial
  · refine jd_iconst 1 i_Mo_left_334 (by decide) ?_
    refine jd_goto 339 i_Mo_left_335 (by decide) ?_
    exact jd_less (t_Mo_left_339) trivial
noncomputable def r_Mo_left_310 (h : ja_H) (y0 : Nat) (y1 : Int32) (y2 : Int32) (y6 : Int64) (z0 : Int64) (z1 : Int64) : Option (Int32 × ja_H) := (jc_L (r_Mt_min_J h z1 z0) (fun v2 h1 => (jl (v2 : Int64) (fun (x3 : Int64) => (r_Mo_left_315 h1 y0 y1 y2 y6 x3)))))
theorem t_Mo_left_310 {h : ja_H} {y0 : Nat} {y1 : Int32} {y2 : Int32} {y6 : Int64} {z0 : Int64} {z1 : Int64} : ja_D ja_gI M_Mo_left 310 [some (.ref y0), some (.int y1), some (.int y2), none, none, none, some (.long y6), none, none, none, none, none] [.long z0, .long z1] h (r_Mo_left_310 h y0 y1 y2 y6 z0 z1) := by
  unfold r_Mo_left_310
  refine jd_callSL G_Mo_162 sc_Mt_min_J (fun _ e => c_Mt_min_J e) rfl ⟨by decide, by decide⟩ rfl (Nat.le_of_ble_eq_true rfl) i_Mo_left_310 (fun v2 h1 => ?_)
  refine jd_lstore (fun x3 => [some (.ref y0), some (.int y1), some (.int y2), none, none, none, some (.long y6), none, some (.long x3), none, none, none]) i_Mo_left_313 (by decide) rfl (fun _ => rfl) (fun x3 => ?_)
  exact jd_less (t_Mo_left_315) ⟨rfl, rfl, rfl, rfl, rfl, trivial⟩
noncomputable def r_Mo_left_294 (h : ja_H) (y0 : Nat) (y1 : Int32) (y2 : Int32) (y4 : Int64) (y6 : Int64) (y8 : Int64) (y11 : Int32) : Option (Int32 × ja_H) := (if y11 = (0 : Int32) then (r_Mo_left_310 h y0 y1 y2 y6 (y4 - (1 : Int64)) y8) else (r_Mo_left_310 h y0 y1 y2 y6 y4 y8))
theorem t_Mo_left_294 {h : ja_H} {y0 : Nat} {y1 : Int32} {y2 : Int32} {y4 : Int64} {y6 : Int64} {y8 : Int64} {y11 : Int32} : ja_D ja_gI M_Mo_left 294 [some (.ref y0), some (.int y1), some (.int y2), none, some (.long y4), none, some (.long y6), none, some (.long y8), none, none, some (.int y11)] [] h (r_Mo_left_294 h y0 y1 y2 y4 y6 y8 y11) := by
  unfold r_Mo_left_294
  refine jd_lload i_Mo_left_294 rfl ?_
  refine jd_iload i_Mo_left_296 rfl ?_
  refine jd_if_eq 306 i_Mo_left_298 (by decide) ?_ ?_
  · refine jd_lload i_Mo_left_306 rfl ?_
    refine jd_lconst 1 i_Mo_left_308 (by decide) ?_
    refine jd_lsub i_Mo_left_309 ?_
    exact jd_less (t_Mo_left_310) ⟨rfl, rfl, rfl, rfl, trivial⟩
  · refine jd_lload i_Mo_left_301 rfl ?_
    refine jd_goto 310 i_Mo_left_303 (by decide) ?_
    exact jd_less (t_Mo_left_310) ⟨rfl, rfl, rfl, rfl, trivial⟩
noncomputable def r_Mo_left_278 (h : ja_H) (y0 : Nat) (y1 : Int32) (y2 : Int32) (y4 : Int64) (y6 : Int64) (y8 : Int64) (y11 : Int32) : Option (Int32 × ja_H) := (if y11 = (0 : Int32) then (if y4 = (-9223372036854775808 : Int64) then (jb (0 : Int32) (some ((0 : Int32), h))) else (r_Mo_left_294 h y0 y1 y2 y4 y6 y8 y11)) else (r_Mo_left_294 h y0 y1 y2 y4 y6 y8 y11))
theorem t_Mo_left_278 {h : ja_H} {y0 : Nat} {y1 : Int32} {y2 : Int32} {y4 : Int64} {y6 : Int64} {y8 : Int64} {y11 : Int32} : ja_D ja_gI M_Mo_left 278 [some (.ref y0), some (.int y1), some (.int y2), none, some (.long y4), none, some (.long y6), none, some (.long y8), none, none, some (.int y11)] [] h (r_Mo_left_278 h y0 y1 y2 y4 y6 y8 y11) := by
  unfold r_Mo_left_278
  refine jd_iload i_Mo_left_278 rfl ?_
  refine jd_if_ne 294 i_Mo_left_280 (by decide) ?_ ?_
  · exact jd_less (t_Mo_left_294) ⟨rfl, rfl, rfl, rfl, rfl, rfl, rfl, trivial⟩
  · refine jd_lload i_Mo_left_283 rfl ?_
    refine jd_ldc2 i_Mo_left_285 K_Mo_207 ?_
    refine jd_lcmp_ne 294 i_Mo_left_288 i_Mo_left_289 (by decide) ?_ ?_
    · exact jd_less (t_Mo_left_294) ⟨rfl, rfl, rfl, rfl, rfl, rfl, rfl, trivial⟩
    · refine jd_iconst 0 i_Mo_left_292 (by decide) ?_
      exact jd_zreturn i_Mo_left_293 rfl
noncomputable def r_Mo_left_247 (h : ja_H) (y0 : Nat) (y1 : Int32) (y2 : Int32) (y3 : Int32) (y4 : Int64) (y6 : Int64) (y8 : Int64) (y10 : Int32) (z0 : Int32) : Option (Int32 × ja_H) := (jl (z0 : Int32) (fun (x1 : Int32) => (if (12 : Int32) ≤ y3 then (r_Mo_left_278 h y0 y1 y2 y4 y6 y8 x1) else (if y10 = (0 : Int32) then (if (0 : Int64) ≤ y4 then (jc_L (r_Mt_max_J h y6 (0 : Int64)) (fun v3 h2 => (jl (v3 : Int64) (fun (x4 : Int64) => (r_Mo_left_278 h2 y0 y1 y2 y4 x4 y8 x1))))) else (r_Mo_left_315 h y0 y1 y2 y6 y8)) else (r_Mo_left_278 h y0 y1 y2 y4 y6 y8 x1)))))
theorem t_Mo_left_247 {h : ja_H} {y0 : Nat} {y1 : Int32} {y2 : Int32} {y3 : Int32} {y4 : Int64} {y6 : Int64} {y8 : Int64} {y10 : Int32} {z0 : Int32} : ja_D ja_gI M_Mo_left 247 [some (.ref y0), some (.int y1), some (.int y2), some (.int y3), some (.long y4), none, some (.long y6), none, some (.long y8), none, some (.int y10), none] [.int z0] h (r_Mo_left_247 h y0 y1 y2 y3 y4 y6 y8 y10 z0) := by
  unfold r_Mo_left_247
  refine jd_istore (fun x1 => [some (.ref y0), some (.int y1), some (.int y2), some (.int y3), some (.long y4), none, some (.long y6), none, some (.long y8), none, some (.int y10), some (.int x1)]) i_Mo_left_247 (by decide) rfl (fun _ => rfl) (fun x1 => ?_)
  refine jd_iload_n i_Mo_left_249 rfl ?_
  refine jd_bipush 12 i_Mo_left_250 (by decide) ?_
  refine jd_icmp_ge 278 i_Mo_left_252 (by decide) ?_ ?_
  · exact jd_less (t_Mo_left_278) ⟨rfl, rfl, rfl, rfl, rfl, rfl, rfl, trivial⟩
  · refine jd_iload i_Mo_left_255 rfl ?_
    refine jd_if_ne 278 i_Mo_left_257 (by decide) ?_ ?_
    · exact jd_less (t_Mo_left_278) ⟨rfl, rfl, rfl, rfl, rfl, rfl, rfl, trivial⟩
    · refine jd_lload i_Mo_left_260 rfl ?_
      refine jd_lconst 0 i_Mo_left_262 (by decide) ?_
      refine jd_lcmp_ge 270 i_Mo_left_263 i_Mo_left_264 (by decide) ?_ ?_
      · refine jd_lload i_Mo_left_270 rfl ?_
        refine jd_lconst 0 i_Mo_left_272 (by decide) ?_
        refine jd_callSL G_Mo_168 sc_Mt_max_J (fun _ e => c_Mt_max_J e) rfl ⟨by decide, by decide⟩ rfl (Nat.le_of_ble_eq_true rfl) i_Mo_left_273 (fun v3 h2 => ?_)
        refine jd_lstore (fun x4 => [some (.ref y0), some (.int y1), some (.int y2), some (.int y3), some (.long y4), none, some (.long x4), none, some (.long y8), none, some (.int y10), some (.int x1)]) i_Mo_left_276 (by decide) rfl (fun _ => rfl) (fun x4 => ?_)
        exact jd_less (t_Mo_left_278) ⟨rfl, rfl, rfl, rfl, rfl, rfl, rfl, trivial⟩
      · refine jd_goto 315 i_Mo_left_267 (by decide) ?_
        exact jd_less (t_Mo_left_315) ⟨rfl, rfl, rfl, rfl, rfl, trivial⟩
noncomputable def r_Mo_left_242 (h : ja_H) (y0 : Nat) (y1 : Int32) (y2 : Int32) (y3 : Int32) (y4 : Int64) (y6 : Int64) (y8 : Int64) (y10 : Int32) : Option (Int32 × ja_H) := (r_Mo_left_247 h y0 y1 y2 y3 y4 y6 y8 y10 (1 : Int32))
theorem t_Mo_left_242 {h : ja_H} {y0 : Nat} {y1 : Int32} {y2 : Int32} {y3 : Int32} {y4 : Int64} {y6 : Int64} {y8 : Int64} {y10 : Int32} : ja_D ja_gI M_Mo_left 242 [some (.ref y0), some (.int y1), some (.int y2), some (.int y3), some (.long y4), none, some (.long y6), none, some (.long y8), none, some (.int y10), none] [] h (r_Mo_left_242 h y0 y1 y2 y3 y4 y6 y8 y10) := by
  unfold r_Mo_left_242
  refine jd_iconst 1 i_Mo_left_242 (by decide) ?_
  refine jd_goto 247 i_Mo_left_243 (by decide) ?_
  exact jd_less (t_Mo_left_247) ⟨rfl, rfl, rfl, rfl, rfl, rfl, rfl, rfl, trivial⟩
noncomputable def r_Mo_left_230 (h : ja_H) (y0 : Nat) (y1 : Int32) (y2 : Int32) (y3 : Int32) (y4 : Int64) (y6 : Int64) (y8 : Int64) (y10 : Int32) : Option (Int32 × ja_H) := (if y3 = (11 : Int32) then (r_Mo_left_242 h y0 y1 y2 y3 y4 y6 y8 y10) else (if y3 = (13 : Int32) then (r_Mo_left_242 h y0 y1 y2 y3 y4 y6 y8 y10) else (r_Mo_left_247 h y0 y1 y2 y3 y4 y6 y8 y10 (0 : Int32))))
theorem t_Mo_left_230 {h : ja_H} {y0 : Nat} {y1 : Int32} {y2 : Int32} {y3 : Int32} {y4 : Int64} {y6 : Int64} {y8 : Int64} {y10 : Int32} : ja_D ja_gI M_Mo_left 230 [some (.ref y0), some (.int y1), some (.int y2), some (.int y3), some (.long y4), none, some (.long y6), none, some (.long y8), none, some (.int y10), none] [] h (r_Mo_left_230 h y0 y1 y2 y3 y4 y6 y8 y10) := by
  unfold r_Mo_left_230
  refine jd_iload_n i_Mo_left_230 rfl ?_
  refine jd_bipush 11 i_Mo_left_231 (by decide) ?_
  refine jd_icmp_eq 242 i_Mo_left_233 (by decide) ?_ ?_
  · exact jd_less (t_Mo_left_242) ⟨rfl, rfl, rfl, rfl, rfl, rfl, rfl, rfl, trivial⟩
  · refine jd_iload_n i_Mo_left_236 rfl ?_
    refine jd_bipush 13 i_Mo_left_237 (by decide) ?_
    refine jd_icmp_ne 246 i_Mo_left_239 (by decide) ?_ ?_
    · refine jd_iconst 0 i_Mo_left_246 (by decide) ?_
      exact jd_less (t_Mo_left_247) ⟨rfl, rfl, rfl, rfl, rfl, rfl, rfl, rfl, trivial⟩
    · exact jd_less (t_Mo_left_242) ⟨rfl, rfl, rfl, rfl, rfl, rfl, rfl, rfl, trivial⟩
noncomputable def r_Mo_left_222 (h : ja_H) (y0 : Nat) (y1 : Int32) (y2 : Int32) (y8 : Int64) (z0 : Int64) (z1 : Int64) : Option (Int32 × ja_H) := (jc_L (r_Mt_max_J h z1 z0) (fun v2 h1 => (jl (v2 : Int64) (fun (x3 : Int64) => (r_Mo_left_315 h1 y0 y1 y2 x3 y8)))))
theorem t_Mo_left_222 {h : ja_H} {y0 : Nat} {y1 : Int32} {y2 : Int32} {y8 : Int64} {z0 : Int64} {z1 : Int64} : ja_D ja_gI M_Mo_left 222 [some (.ref y0), some (.int y1), some (.int y2), none, none, none, none, none, some (.long y8), none, none, none] [.long z0, .long z1] h (r_Mo_left_222 h y0 y1 y2 y8 z0 z1) := by
  unfold r_Mo_left_222
  refine jd_callSL G_Mo_168 sc_Mt_max_J (fun _ e => c_Mt_max_J e) rfl ⟨by decide, by decide⟩ rfl (Nat.le_of_ble_eq_true rfl) i_Mo_left_222 (fun v2 h1 => ?_)
  refine jd_lstore (fun x3 => [some (.ref y0), some (.int y1), some (.int y2), none, none, none, some (.long x3), none, some (.long y8), none, none, none]) i_Mo_left_225 (by decide) rfl (fun _ => rfl) (fun x3 => ?_)
  refine jd_goto 315 i_Mo_left_227 (by decide) ?_
  exact jd_less (t_Mo_left_315) ⟨rfl, rfl, rfl, rfl, rfl, trivial⟩
noncomputable def r_Mo_left_206 (h : ja_H) (y0 : Nat) (y1 : Int32) (y2 : Int32) (y4 : Int64) (y6 : Int64) (y8 : Int64) (y11 : Int32) : Option (Int32 × ja_H) := (if y11 = (0 : Int32) then (r_Mo_left_222 h y0 y1 y2 y8 (y4 + (1 : Int64)) y6) else (r_Mo_left_222 h y0 y1 y2 y8 y4 y6))
theorem t_Mo_left_206 {h : ja_H} {y0 : Nat} {y1 : Int32} {y2 : Int32} {y4 : Int64} {y6 : Int64} {y8 : Int64} {y11 : Int32} : ja_D ja_gI M_Mo_left 206 [some (.ref y0), some (.int y1), some (.int y2), none, some (.long y4), none, some (.long y6), none, some (.long y8), none, none, some (.int y11)] [] h (r_Mo_left_206 h y0 y1 y2 y4 y6 y8 y11) := by
  unfold r_Mo_left_206
  refine jd_lload i_Mo_left_206 rfl ?_
  refine jd_iload i_Mo_left_208 rfl ?_
  refine jd_if_eq 218 i_Mo_left_210 (by decide) ?_ ?_
  · refine jd_lload i_Mo_left_218 rfl ?_
    refine jd_lconst 1 i_Mo_left_220 (by decide) ?_
    refine jd_ladd i_Mo_left_221 ?_
    exact jd_less (t_Mo_left_222) ⟨rfl, rfl, rfl, rfl, trivial⟩
  · refine jd_lload i_Mo_left_213 rfl ?_
    refine jd_goto 222 i_Mo_left_215 (by decide) ?_
    exact jd_less (t_Mo_left_222) ⟨rfl, rfl, rfl, rfl, trivial⟩
noncomputable def r_Mo_left_190 (h : ja_H) (y0 : Nat) (y1 : Int32) (y2 : Int32) (y4 : Int64) (y6 : Int64) (y8 : Int64) (y11 : Int32) : Option (Int32 × ja_H) := (if y11 = (0 : Int32) then (if y4 = (9223372036854775807 : Int64) then (jb (0 : Int32) (some ((0 : Int32), h))) else (r_Mo_left_206 h y0 y1 y2 y4 y6 y8 y11)) else (r_Mo_left_206 h y0 y1 y2 y4 y6 y8 y11))
theorem t_Mo_left_190 {h : ja_H} {y0 : Nat} {y1 : Int32} {y2 : Int32} {y4 : Int64} {y6 : Int64} {y8 : Int64} {y11 : Int32} : ja_D ja_gI M_Mo_left 190 [some (.ref y0), some (.int y1), some (.int y2), none, some (.long y4), none, some (.long y6), none, some (.long y8), none, none, some (.int y11)] [] h (r_Mo_left_190 h y0 y1 y2 y4 y6 y8 y11) := by
  unfold r_Mo_left_190
  refine jd_iload i_Mo_left_190 rfl ?_
  refine jd_if_ne 206 i_Mo_left_192 (by decide) ?_ ?_
  · exact jd_less (t_Mo_left_206) ⟨rfl, rfl, rfl, rfl, rfl, rfl, rfl, trivial⟩
  · refine jd_lload i_Mo_left_195 rfl ?_
    refine jd_ldc2 i_Mo_left_197 K_Mo_209 ?_
    refine jd_lcmp_ne 206 i_Mo_left_200 i_Mo_left_201 (by decide) ?_ ?_
    · exact jd_less (t_Mo_left_206) ⟨rfl, rfl, rfl, rfl, rfl, rfl, rfl, trivial⟩
    · refine jd_iconst 0 i_Mo_left_204 (by decide) ?_
      exact jd_zreturn i_Mo_left_205 rfl
noncomputable def r_Mo_left_174 (h : ja_H) (y0 : Nat) (y1 : Int32) (y2 : Int32) (y3 : Int32) (y4 : Int64) (y6 : Int64) (y8 : Int64) (y10 : Int32) (z0 : Int32) : Option (Int32 × ja_H) := (jl (z0 : Int32) (fun (x1 : Int32) => (if (6 : Int32) ≤ y3 then (r_Mo_left_190 h y0 y1 y2 y4 y6 y8 x1) else (if y10 = (0 : Int32) then (r_Mo_left_315 h y0 y1 y2 y6 y8) else (r_Mo_left_190 h y0 y1 y2 y4 y6 y8 x1)))))
theorem t_Mo_left_174 {h : ja_H} {y0 : Nat} {y1 : Int32} {y2 : Int32} {y3 : Int32} {y4 : Int64} {y6 : Int64} {y8 : Int64} {y10 : Int32} {z0 : Int32} : ja_D ja_gI M_Mo_left 174 [some (.ref y0), some (.int y1), some (.int y2), some (.int y3), some (.long y4), none, some (.long y6), none, some (.long y8), none, some (.int y10), none] [.int z0] h (r_Mo_left_174 h y0 y1 y2 y3 y4 y6 y8 y10 z0) := by
  unfold r_Mo_left_174
  refine jd_istore (fun x1 => [some (.ref y0), some (.int y1), some (.int y2), some (.int y3), some (.long y4), none, some (.long y6), none, some (.long y8), none, some (.int y10), some (.int x1)]) i_Mo_left_174 (by decide) rfl (fun _ => rfl) (fun x1 => ?_)
  refine jd_iload_n i_Mo_left_176 rfl ?_
  refine jd_bipush 6 i_Mo_left_177 (by decide) ?_
  refine jd_icmp_ge 190 i_Mo_left_179 (by decide) ?_ ?_
  · exact jd_less (t_Mo_left_190) ⟨rfl, rfl, rfl, rfl, rfl, rfl, rfl, trivial⟩
  · refine jd_iload i_Mo_left_182 rfl ?_
    refine jd_if_ne 190 i_Mo_left_184 (by decide) ?_ ?_
    · exact jd_less (t_Mo_left_190) ⟨rfl, rfl, rfl, rfl, rfl, rfl, rfl, trivial⟩
    · refine jd_goto 315 i_Mo_left_187 (by decide) ?_
      exact jd_less (t_Mo_left_315) ⟨rfl, rfl, rfl, rfl, rfl, trivial⟩
noncomputable def r_Mo_left_169 (h : ja_H) (y0 : Nat) (y1 : Int32) (y2 : Int32) (y3 : Int32) (y4 : Int64) (y6 : Int64) (y8 : Int64) (y10 : Int32) : Option (Int32 × ja_H) := (r_Mo_left_174 h y0 y1 y2 y3 y4 y6 y8 y10 (1 : Int32))
theorem t_Mo_left_169 {h : ja_H} {y0 : Nat} {y1 : Int32} {y2 : Int32} {y3 : Int32} {y4 : Int64} {y6 : Int64} {y8 : Int64} {y10 : Int32} : ja_D ja_gI M_Mo_left 169 [some (.ref y0), some (.int y1), some (.int y2), some (.int y3), some (.long y4), none, some (.long y6), none, some (.long y8), none, some (.int y10), none] [] h (r_Mo_left_169 h y0 y1 y2 y3 y4 y6 y8 y10) := by
  unfold r_Mo_left_169
  refine jd_iconst 1 i_Mo_left_169 (by decide) ?_
  refine jd_goto 174 i_Mo_left_170 (by decide) ?_
  exact jd_less (t_Mo_left_174) ⟨rfl, rfl, rfl, rfl, rfl, rfl, rfl, rfl, trivial⟩
noncomputable def r_Mo_left_158 (h : ja_H) (y0 : Nat) (y1 : Int32) (y2 : Int32) (y3 : Int32) (y4 : Int64) (y6 : Int64) (y8 : Int64) (y10 : Int32) : Option (Int32 × ja_H) := (if y3 = (3 : Int32) then (r_Mo_left_169 h y0 y1 y2 y3 y4 y6 y8 y10) else (if y3 = (7 : Int32) then (r_Mo_left_169 h y0 y1 y2 y3 y4 y6 y8 y10) else (r_Mo_left_174 h y0 y1 y2 y3 y4 y6 y8 y10 (0 : Int32))))
theorem t_Mo_left_158 {h : ja_H} {y0 : Nat} {y1 : Int32} {y2 : Int32} {y3 : Int32} {y4 : Int64} {y6 : Int64} {y8 : Int64} {y10 : Int32} : ja_D ja_gI M_Mo_left 158 [some (.ref y0), some (.int y1), some (.int y2), some (.int y3), some (.long y4), none, some (.long y6), none, some (.long y8), none, some (.int y10), none] [] h (r_Mo_left_158 h y0 y1 y2 y3 y4 y6 y8 y10) := by
  unfold r_Mo_left_158
  refine jd_iload_n i_Mo_left_158 rfl ?_
  refine jd_iconst 3 i_Mo_left_159 (by decide) ?_
  refine jd_icmp_eq 169 i_Mo_left_160 (by decide) ?_ ?_
  · exact jd_less (t_Mo_left_169) ⟨rfl, rfl, rfl, rfl, rfl, rfl, rfl, rfl, trivial⟩
  · refine jd_iload_n i_Mo_left_163 rfl ?_
    refine jd_bipush 7 i_Mo_left_164 (by decide) ?_
    refine jd_icmp_ne 173 i_Mo_left_166 (by decide) ?_ ?_
    · refine jd_iconst 0 i_Mo_left_173 (by decide) ?_
      exact jd_less (t_Mo_left_174) ⟨rfl, rfl, rfl, rfl, rfl, rfl, rfl, rfl, trivial⟩
    · exact jd_less (t_Mo_left_169) ⟨rfl, rfl, rfl, rfl, rfl, rfl, rfl, rfl, trivial⟩
noncomputable def r_Mo_left_141 (h : ja_H) (y0 : Nat) (y1 : Int32) (y2 : Int32) (y4 : Int64) (y6 : Int64) (y8 : Int64) : Option (Int32 × ja_H) := (if y8 = y4 then (jl ((y8 - (1 : Int64)) : Int64) (fun (x1 : Int64) => (r_Mo_left_315 h y0 y1 y2 y6 x1))) else (r_Mo_left_315 h y0 y1 y2 y6 y8))
theorem t_Mo_left_141 {h : ja_H} {y0 : Nat} {y1 : Int32} {y2 : Int32} {y4 : Int64} {y6 : Int64} {y8 : Int64} : ja_D ja_gI M_Mo_left 141 [some (.ref y0), some (.int y1), some (.int y2), none, some (.long y4), none, some (.long y6), none, some (.long y8), none, none, none] [] h (r_Mo_left_141 h y0 y1 y2 y4 y6 y8) := by
  unfold r_Mo_left_141
  refine jd_lload i_Mo_left_141 rfl ?_
  refine jd_lload i_Mo_left_143 rfl ?_
  refine jd_lcmp_ne 315 i_Mo_left_145 i_Mo_left_146 (by decide) ?_ ?_
  · exact jd_less (t_Mo_left_315) ⟨rfl, rfl, rfl, rfl, rfl, trivial⟩
  · refine jd_lload i_Mo_left_149 rfl ?_
    refine jd_lconst 1 i_Mo_left_151 (by decide) ?_
    refine jd_lsub i_Mo_left_152 ?_
    refine jd_lstore (fun x1 => [some (.ref y0), some (.int y1), some (.int y2), none, some (.long y4), none, some (.long y6), none, some (.long x1), none, none, none]) i_Mo_left_153 (by decide) rfl (fun _ => rfl) (fun x1 => ?_)
    refine jd_goto 315 i_Mo_left_155 (by decide) ?_
    exact jd_less (t_Mo_left_315) ⟨rfl, rfl, rfl, rfl, rfl, trivial⟩
noncomputable def r_Mo_left_127 (h : ja_H) (y0 : Nat) (y1 : Int32) (y2 : Int32) (y4 : Int64) (y6 : Int64) (y8 : Int64) : Option (Int32 × ja_H) := (if y6 = y4 then (jl ((y6 + (1 : Int64)) : Int64) (fun (x1 : Int64) => (r_Mo_left_141 h y0 y1 y2 y4 x1 y8))) else (r_Mo_left_141 h y0 y1 y2 y4 y6 y8))
theorem t_Mo_left_127 {h : ja_H} {y0 : Nat} {y1 : Int32} {y2 : Int32} {y4 : Int64} {y6 : Int64} {y8 : Int64} : ja_D ja_gI M_Mo_left 127 [some (.ref y0), some (.int y1), some (.int y2), none, some (.long y4), none, some (.long y6), none, some (.long y8), none, none, none] [] h (r_Mo_left_127 h y0 y1 y2 y4 y6 y8) := by
  unfold r_Mo_left_127
  refine jd_lload i_Mo_left_127 rfl ?_
  refine jd_lload i_Mo_left_129 rfl ?_
  refine jd_lcmp_ne 141 i_Mo_left_131 i_Mo_left_132 (by decide) ?_ ?_
  · exact jd_less (t_Mo_left_141) ⟨rfl, rfl, rfl, rfl, rfl, rfl, trivial⟩
  · refine jd_lload i_Mo_left_135 rfl ?_
    refine jd_lconst 1 i_Mo_left_137 (by decide) ?_
    refine jd_ladd i_Mo_left_138 ?_
    refine jd_lstore (fun x1 => [some (.ref y0), some (.int y1), some (.int y2), none, some (.long y4), none, some (.long x1), none, some (.long y8), none, none, none]) i_Mo_left_139 (by decide) rfl (fun _ => rfl) (fun x1 => ?_)
    exact jd_less (t_Mo_left_141) ⟨rfl, rfl, rfl, rfl, rfl, rfl, trivial⟩
noncomputable def r_Mo_left_96 (h : ja_H) : Option (Int32 × ja_H) := (jb (0 : Int32) (some ((0 : Int32), h)))
theorem t_Mo_left_96 {h : ja_H} : ja_D ja_gI M_Mo_left 96 [none, none, none, none, none, none, none, none, none, none, none, none] [] h (r_Mo_left_96 h) := by
  unfold r_Mo_left_96
  refine jd_iconst 0 i_Mo_left_96 (by decide) ?_
  exact jd_zreturn i_Mo_left_97 rfl
noncomputable def r_Mo_left_35 (h : ja_H) (y0 : Nat) (y1 : Int32) (y2 : Int32) (y3 : Int32) (y4 : Int64) (y6 : Int64) (y8 : Int64) (z0 : Int32) : Option (Int32 × ja_H) := (jl (z0 : Int32) (fun (x1 : Int32) => (jsw y3 [1, 2, 3, 4, 5, 6, 7] [(if y4 < y6 then (r_Mo_left_96 h) else (if y4 ≤ y8 then (jl (y4 : Int64) (fun (x2 : Int64) => (jl (y4 : Int64) (fun (x3 : Int64) => (r_Mo_left_315 h y0 y1 y2 x2 x3))))) else (r_Mo_left_96 h))), (r_Mo_left_158 h y0 y1 y2 y3 y4 y6 y8 x1), (r_Mo_left_158 h y0 y1 y2 y3 y4 y6 y8 x1), (r_Mo_left_230 h y0 y1 y2 y3 y4 y6 y8 x1), (if y6 = y4 then (if y8 = y4 then (jb (0 : Int32) (some ((0 : Int32), h))) else (r_Mo_left_127 h y0 y1 y2 y4 y6 y8)) else (r_Mo_left_127 h y0 y1 y2 y4 y6 y8)), (r_Mo_left_158 h y0 y1 y2 y3 y4 y6 y8 x1), (r_Mo_left_158 h y0 y1 y2 y3 y4 y6 y8 x1)] (r_Mo_left_230 h y0 y1 y2 y3 y4 y6 y8 x1))))
theorem t_Mo_left_35 {h : ja_H} {y0 : Nat} {y1 : Int32} {y2 : Int32} {y3 : Int32} {y4 : Int64} {y6 : Int64} {y8 : Int64} {z0 : Int32} : ja_D ja_gI M_Mo_left 35 [some (.ref y0), some (.int y1), some (.int y2), some (.int y3), some (.long y4), none, some (.long y6), none, some (.long y8), none, none, none] [.int z0] h (r_Mo_left_35 h y0 y1 y2 y3 y4 y6 y8 z0) := by
  unfold r_Mo_left_35
  refine jd_istore (fun x1 => [some (.ref y0), some (.int y1), some (.int y2), some (.int y3), some (.long y4), none, some (.long y6), none, some (.long y8), none, some (.int x1), none]) i_Mo_left_35 (by decide) rfl (fun _ => rfl) (fun x1 => ?_)
  refine jd_iload_n i_Mo_left_37 rfl ?_
  refine jd_ts 230 [1, 2, 3, 4, 5, 6, 7] [80, 158, 158, 230, 109, 158, 158] i_Mo_left_38 rfl (by decide) (by decide) (by decide) ?_ ⟨?_, ?_, ?_, ?_, ?_, ?_, ?_, trivial⟩
  · exact jd_less (t_Mo_left_230) ⟨rfl, rfl, rfl, rfl, rfl, rfl, rfl, rfl, trivial⟩
  · refine jd_lload i_Mo_left_80 rfl ?_
    refine jd_lload i_Mo_left_82 rfl ?_
    refine jd_lcmp_lt 96 i_Mo_left_84 i_Mo_left_85 (by decide) ?_ ?_
    · exact jd_less (t_Mo_left_96) trivial
    · refine jd_lload i_Mo_left_88 rfl ?_
      refine jd_lload i_Mo_left_90 rfl ?_
      refine jd_lcmp_le 98 i_Mo_left_92 i_Mo_left_93 (by decide) ?_ ?_
      · refine jd_lload i_Mo_left_98 rfl ?_
        refine jd_lstore (fun x2 => [some (.ref y0), some (.int y1), some (.int y2), some (.int y3), some (.long y4), none, some (.long x2), none, some (.long y8), none, some (.int x1), none]) i_Mo_left_100 (by decide) rfl (fun _ => rfl) (fun x2 => ?_)
        refine jd_lload i_Mo_left_102 rfl ?_
        refine jd_lstore (fun x3 => [some (.ref y0), some (.int y1), some (.int y2), some (.int y3), some (.long y4), none, some (.long x2), none, some (.long x3), none, some (.int x1), none]) i_Mo_left_104 (by decide) rfl (fun _ => rfl) (fun x3 => ?_)
        refine jd_goto 315 i_Mo_left_106 (by decide) ?_
        exact jd_less (t_Mo_left_315) ⟨rfl, rfl, rfl, rfl, rfl, trivial⟩
      · exact jd_less (t_Mo_left_96) trivial
  · exact jd_less (t_Mo_left_158) ⟨rfl, rfl, rfl, rfl, rfl, rfl, rfl, rfl, trivial⟩
  · exact jd_less (t_Mo_left_158) ⟨rfl, rfl, rfl, rfl, rfl, rfl, rfl, rfl, trivial⟩
  · exact jd_less (t_Mo_left_230) ⟨rfl, rfl, rfl, rfl, rfl, rfl, rfl, rfl, trivial⟩
  · refine jd_lload i_Mo_left_109 rfl ?_
    refine jd_lload i_Mo_left_111 rfl ?_
    refine jd_lcmp_ne 127 i_Mo_left_113 i_Mo_left_114 (by decide) ?_ ?_
    · exact jd_less (t_Mo_left_127) ⟨rfl, rfl, rfl, rfl, rfl, rfl, trivial⟩
    · refine jd_lload i_Mo_left_117 rfl ?_
      refine jd_lload i_Mo_left_119 rfl ?_
      refine jd_lcmp_ne 127 i_Mo_left_121 i_Mo_left_122 (by decide) ?_ ?_
      · exact jd_less (t_Mo_left_127) ⟨rfl, rfl, rfl, rfl, rfl, rfl, trivial⟩
      · refine jd_iconst 0 i_Mo_left_125 (by decide) ?_
        exact jd_zreturn i_Mo_left_126 rfl
  · exact jd_less (t_Mo_left_158) ⟨rfl, rfl, rfl, rfl, rfl, rfl, rfl, rfl, trivial⟩
  · exact jd_less (t_Mo_left_158) ⟨rfl, rfl, rfl, rfl, rfl, rfl, rfl, rfl, trivial⟩
noncomputable def r_Mo_left_34 (h : ja_H) (y0 : Nat) (y1 : Int32) (y2 : Int32) (y3 : Int32) (y4 : Int64) (y6 : Int64) (y8 : Int64) : Option (Int32 × ja_H) := (r_Mo_left_35 h y0 y1 y2 y3 y4 y6 y8 (0 : Int32))
theorem t_Mo_left_34 {h : ja_H} {y0 : Nat} {y1 : Int32} {y2 : Int32} {y3 : Int32} {y4 : Int64} {y6 : Int64} {y8 : Int64} : ja_D ja_gI M_Mo_left 34 [some (.ref y0), some (.int y1), some (.int y2), some (.int y3), some (.long y4), none, some (.long y6), none, some (.long y8), none, none, none] [] h (r_Mo_left_34 h y0 y1 y2 y3 y4 y6 y8) := by
  unfold r_Mo_left_34
  refine jd_iconst 0 i_Mo_left_34 (by decide) ?_
  exact jd_less (t_Mo_left_35) ⟨rfl, rfl, rfl, rfl, rfl, rfl, rfl, trivial⟩
noncomputable def r_Mo_left (h : ja_H) (a0 : Nat) (a1 : Int32) (a2 : Int32) (a3 : Int32) (a4 : Int64) : Option (Int32 × ja_H) := (jk h a0 9 (jc_L (r_Mo_least h a0 a1 a2) (fun v102 h101 => (jl (v102 : Int64) (fun (x103 : Int64) => (jk h101 a0 9 (jc_L (r_Mo_most h101 a0 a1 a2) (fun v105 h104 => (jl (v105 : Int64) (fun (x106 : Int64) => (if x103 < (0 : Int64) then (r_Mo_left_34 h104 a0 a1 a2 a3 a4 x103 x106) else (if a4 < (0 : Int64) then (r_Mo_left_34 h104 a0 a1 a2 a3 a4 x103 x106) else (r_Mo_left_35 h104 a0 a1 a2 a3 a4 x103 x106 (1 : Int32))))))))))))))
theorem e_Mo_left {h : ja_H} {a0 : Nat} {a1 : Int32} {a2 : Int32} {a3 : Int32} {a4 : Int64} : ja_D ja_gI M_Mo_left 0 [some (.ref a0), some (.int a1), some (.int a2), some (.int a3), some (.long a4), none, none, none, none, none, none, none] [] h (r_Mo_left h a0 a1 a2 a3 a4) := by
  unfold r_Mo_left
  refine jd_aload_n i_Mo_left_0 rfl ?_
  refine jd_iload_n i_Mo_left_1 rfl ?_
  refine jd_iload_n i_Mo_left_2 rfl ?_
  refine jd_callVL G_Mo_148 in_Mo_least se_Mo_least rfl (fun _ e => c_Mo_least e) rfl ⟨by decide, by decide⟩ rfl (Nat.le_of_ble_eq_true rfl) i_Mo_left_3 (fun v102 h101 => ?_)
  refine jd_lstore (fun x103 => [some (.ref a0), some (.int a1), some (.int a2), some (.int a3), some (.long a4), none, some (.long x103), none, none, none, none, none]) i_Mo_left_6 (by decide) rfl (fun _ => rfl) (fun x103 => ?_)
  refine jd_aload_n i_Mo_left_8 rfl ?_
  refine jd_iload_n i_Mo_left_9 rfl ?_
  refine jd_iload_n i_Mo_left_10 rfl ?_
  refine jd_callVL G_Mo_152 in_Mo_most se_Mo_most rfl (fun _ e => c_Mo_most e) rfl ⟨by decide, by decide⟩ rfl (Nat.le_of_ble_eq_true rfl) i_Mo_left_11 (fun v105 h104 => ?_)
  refine jd_lstore (fun x106 => [some (.ref a0), some (.int a1), some (.int a2), some (.int a3), some (.long a4), none, some (.long x103), none, some (.long x106), none, none, none]) i_Mo_left_14 (by decide) rfl (fun _ => rfl) (fun x106 => ?_)
  refine jd_lload i_Mo_left_16 rfl ?_
  refine jd_lconst 0 i_Mo_left_18 (by decide) ?_
  refine jd_lcmp_lt 34 i_Mo_left_19 i_Mo_left_20 (by decide) ?_ ?_
  · exact jd_less (t_Mo_left_34) ⟨rfl, rfl, rfl, rfl, rfl, rfl, rfl, trivial⟩
  · refine jd_lload i_Mo_left_23 rfl ?_
    refine jd_lconst 0 i_Mo_left_25 (by decide) ?_
    refine jd_lcmp_lt 34 i_Mo_left_26 i_Mo_left_27 (by decide) ?_ ?_
    · exact jd_less (t_Mo_left_34) ⟨rfl, rfl, rfl, rfl, rfl, rfl, rfl, trivial⟩
    · refine jd_iconst 1 i_Mo_left_30 (by decide) ?_
      refine jd_goto 35 i_Mo_left_31 (by decide) ?_
      exact jd_less (t_Mo_left_35) ⟨rfl, rfl, rfl, rfl, rfl, rfl, rfl, trivial⟩
theorem c_Mo_left {h : ja_H} {a0 : Nat} {a1 : Int32} {a2 : Int32} {a3 : Int32} {a4 : Int64} {o : Int32 × ja_H} (e : r_Mo_left h a0 a1 a2 a3 a4 = some o) : ja_M (1, 27) y_Mo_left b_Mo_left 12 (some .boolean) [.ref a0, .int a1, .int a2, .int a3, .long a4] h [.int o.1] o.2 := jc_of (g := ja_gI) false _ e e_Mo_left rfl (by decide +kernel) (fun q => nomatch q) (Nat.le_of_ble_eq_true rfl) (fun _ q => nomatch q) (Nat.le_of_ble_eq_true rfl)
