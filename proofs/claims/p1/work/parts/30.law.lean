theorem k_La_word : Cond.codeWith y_La_word b_La_word 6 (some .int) [(0, 11, 14, 13)] ∈ ja_all := (ja_m2 43 rfl rfl)
theorem sc_La_word : Cond.static y_La_word ∈ ja_all := (ja_m2 42 rfl rfl)
theorem k_La_cut : Cond.codeWith y_La_cut b_La_cut 3 (some .int) [(0, 5, 8, 13)] ∈ ja_all := (ja_m2 125 rfl rfl)
theorem sc_La_cut : Cond.static y_La_cut ∈ ja_all := (ja_m2 124 rfl rfl)
theorem k_La_context : Cond.codeWith y_La_context b_La_context 3 (some .int) [(0, 5, 8, 22)] ∈ ja_all := (ja_m2 133 rfl rfl)
theorem sc_La_context : Cond.static y_La_context ∈ ja_all := (ja_m2 132 rfl rfl)
theorem k_La_put : Cond.codeWith y_La_put b_La_put 5 (some .int) [(0, 6, 9, 13)] ∈ ja_all := (ja_m2 162 rfl rfl)
theorem sc_La_put : Cond.static y_La_put ∈ ja_all := (ja_m2 161 rfl rfl)
theorem k_La_verify : Cond.codeWith y_La_verify b_La_verify 3 (some .int) [(0, 8, 11, 32)] ∈ ja_all := (ja_m2 179 rfl rfl)
theorem sc_La_verify : Cond.static y_La_verify ∈ ja_all := (ja_m2 178 rfl rfl)
theorem k_La_state : Cond.codeWith y_La_state b_La_state 6 (some .int) [(0, 11, 14, 22), (0, 11, 18, 32), (0, 11, 22, 13)] ∈ ja_all := (ja_m4 97 rfl rfl)
theorem sc_La_state : Cond.static y_La_state ∈ ja_all := (ja_m4 96 rfl rfl)
theorem k_La_run : Cond.codeWith y_La_run b_La_run 3 (some .int) [(0, 7, 10, 32)] ∈ ja_all := (ja_m4 112 rfl rfl)
theorem sc_La_run : Cond.static y_La_run ∈ ja_all := (ja_m4 111 rfl rfl)
theorem k_La_count : Cond.codeWith y_La_count b_La_count 4 (some .int) [(0, 9, 12, 22)] ∈ ja_all := (ja_m4 186 rfl rfl)
theorem sc_La_count : Cond.static y_La_count ∈ ja_all := (ja_m4 185 rfl rfl)
theorem G_La_52 : ja_Gw "WordJudgeLaw" 52 y_La_word b_La_word 6 (some .int) [(0, 11, 14, 13)] 4 := ⟨k_La_word, (ja_m1 0 rfl rfl), ⟨by decide, by decide, by decide +kernel⟩, (ja_m2 41 rfl rfl)⟩
theorem G_La_61 : ja_Gw "WordJudgeLaw" 61 y_La_cut b_La_cut 3 (some .int) [(0, 5, 8, 13)] 2 := ⟨k_La_cut, (ja_m1 0 rfl rfl), ⟨by decide, by decide, by decide +kernel⟩, (ja_m2 123 rfl rfl)⟩
theorem G_La_65 : ja_Gw "WordJudgeLaw" 65 y_La_context b_La_context 3 (some .int) [(0, 5, 8, 22)] 2 := ⟨k_La_context, (ja_m1 0 rfl rfl), ⟨by decide, by decide, by decide +kernel⟩, (ja_m2 131 rfl rfl)⟩
theorem G_La_68 : ja_Gw "WordJudgeLaw" 68 y_La_put b_La_put 5 (some .int) [(0, 6, 9, 13)] 3 := ⟨k_La_put, (ja_m1 0 rfl rfl), ⟨by decide, by decide, by decide +kernel⟩, (ja_m2 160 rfl rfl)⟩
theorem G_La_72 : ja_Gw "WordJudgeLaw" 72 y_La_verify b_La_verify 3 (some .int) [(0, 8, 11, 32)] 2 := ⟨k_La_verify, (ja_m1 0 rfl rfl), ⟨by decide, by decide, by decide +kernel⟩, (ja_m2 177 rfl rfl)⟩
theorem G_La_80 : ja_Gw "WordJudgeLaw" 80 y_La_state b_La_state 6 (some .int) [(0, 11, 14, 22), (0, 11, 18, 32), (0, 11, 22, 13)] 5 := ⟨k_La_state, (ja_m1 0 rfl rfl), ⟨by decide, by decide, by decide +kernel⟩, (ja_m4 95 rfl rfl)⟩
theorem G_La_84 : ja_Gw "WordJudgeLaw" 84 y_La_run b_La_run 3 (some .int) [(0, 7, 10, 32)] 2 := ⟨k_La_run, (ja_m1 0 rfl rfl), ⟨by decide, by decide, by decide +kernel⟩, (ja_m4 110 rfl rfl)⟩
theorem G_La_87 : ja_Gw "WordJudgeLaw" 87 y_La_count b_La_count 4 (some .int) [(0, 9, 12, 22)] 3 := ⟨k_La_count, (ja_m1 0 rfl rfl), ⟨by decide, by decide, by decide +kernel⟩, (ja_m4 184 rfl rfl)⟩
theorem oa_59 : ∀ w ∈ Bundle.ownAtoms "WordJudge" 59 ja_x1 ja_nms, w ∈ ja_all ∨ w ∈ ja_isr := by decide +kernel
theorem S_La_word_22 : ja_Site M_La_word 6 y_WJ_word b_WJ_word (6, 100) 22 14 := ⟨ja_x1, 55, 57, 59, "no such word", ⟨by decide +kernel, by decide +kernel, by decide +kernel, by decide +kernel, by decide +kernel⟩, ⟨(ja_m2 49 rfl rfl), (ja_m2 50 rfl rfl), (ja_m1 14 rfl rfl)⟩, ⟨rfl, by decide⟩, oa_59, ⟨by decide +kernel, by decide +kernel⟩, ⟨by decide, by decide⟩, _, rfl, ⟨rfl, by decide, ja_x1, (ja_m2 44 rfl rfl), (ja_m1 14 rfl rfl), Or.inl ⟨rfl, rfl⟩⟩⟩
theorem S_La_cut_15 : ja_Site M_La_cut 2 y_WJ_cut b_WJ_cut (6, 100) 15 8 := ⟨ja_x1, 55, 66, 59, "there are not so many words", ⟨by decide +kernel, by decide +kernel, by decide +kernel, by decide +kernel, by decide +kernel⟩, ⟨(ja_m2 49 rfl rfl), (ja_m2 50 rfl rfl), (ja_m1 14 rfl rfl)⟩, ⟨rfl, by decide⟩, oa_59, ⟨by decide +kernel, by decide +kernel⟩, ⟨by decide, by decide⟩, _, rfl, ⟨rfl, by decide, ja_x1, (ja_m2 44 rfl rfl), (ja_m1 14 rfl rfl), Or.inl ⟨rfl, rfl⟩⟩⟩
theorem oa_72 : ∀ w ∈ Bundle.ownAtoms "WordJudge" 72 ja_x2 ja_nms, w ∈ ja_all ∨ w ∈ ja_isr := by decide +kernel
theorem S_La_context_11 : ja_Site M_La_context 2 y_WJ_context b_WJ_context (6, 100) 11 8 := ⟨ja_x2, 68, 70, 72, "the context has 0 to 256 octets", ⟨by decide +kernel, by decide +kernel, by decide +kernel, by decide +kernel, by decide +kernel⟩, ⟨(ja_m2 139 rfl rfl), (ja_m2 140 rfl rfl), (ja_m1 16 rfl rfl)⟩, ⟨rfl, by decide⟩, oa_72, ⟨by decide +kernel, by decide +kernel⟩, ⟨by decide, by decide⟩, _, rfl, ⟨rfl, by decide, ja_x2, (ja_m2 134 rfl rfl), (ja_m1 16 rfl rfl), Or.inl ⟨rfl, rfl⟩⟩⟩
theorem S_La_put_15 : ja_Site M_La_put 3 y_WJ_put b_WJ_put (6, 100) 15 9 := ⟨ja_x1, 55, 78, 59, "no such octet of the context", ⟨by decide +kernel, by decide +kernel, by decide +kernel, by decide +kernel, by decide +kernel⟩, ⟨(ja_m2 49 rfl rfl), (ja_m2 50 rfl rfl), (ja_m1 14 rfl rfl)⟩, ⟨rfl, by decide⟩, oa_59, ⟨by decide +kernel, by decide +kernel⟩, ⟨by decide, by decide⟩, _, rfl, ⟨rfl, by decide, ja_x1, (ja_m2 44 rfl rfl), (ja_m1 14 rfl rfl), Or.inl ⟨rfl, rfl⟩⟩⟩
theorem oa_87 : ∀ w ∈ Bundle.ownAtoms "WordJudge" 87 ja_x3 ja_nms, w ∈ ja_all ∨ w ∈ ja_isr := by decide +kernel
theorem S_La_verify_10 : ja_Site M_La_verify 3 y_WJ_verify b_WJ_verify (7, 175) 10 11 := ⟨ja_x3, 83, 85, 87, "there are no words", ⟨by decide +kernel, by decide +kernel, by decide +kernel, by decide +kernel, by decide +kernel⟩, ⟨(ja_m2 185 rfl rfl), (ja_m2 186 rfl rfl), (ja_m1 17 rfl rfl)⟩, ⟨rfl, by decide⟩, oa_87, ⟨by decide +kernel, by decide +kernel⟩, ⟨by decide, by decide⟩, _, rfl, ⟨rfl, by decide, ja_x3, (ja_m2 180 rfl rfl), (ja_m1 17 rfl rfl), Or.inl ⟨rfl, rfl⟩⟩⟩
theorem S_La_state_19 : ja_Site M_La_state 7 y_WJ_state b_WJ_state (6, 100) 19 14 := ⟨ja_x2, 68, 97, 72, "no such register, or nothing that is told of it", ⟨by decide +kernel, by decide +kernel, by decide +kernel, by decide +kernel, by decide +kernel⟩, ⟨(ja_m2 139 rfl rfl), (ja_m2 140 rfl rfl), (ja_m1 16 rfl rfl)⟩, ⟨rfl, by decide⟩, oa_72, ⟨by decide +kernel, by decide +kernel⟩, ⟨by decide, by decide⟩, _, rfl, ⟨rfl, by decide, ja_x2, (ja_m2 134 rfl rfl), (ja_m1 16 rfl rfl), Or.inl ⟨rfl, rfl⟩⟩⟩
theorem S_La_state_36 : ja_Site M_La_state 7 y_WJ_state b_WJ_state (6, 100) 36 18 := ⟨ja_x3, 83, 99, 87, "the code is not verified", ⟨by decide +kernel, by decide +kernel, by decide +kernel, by decide +kernel, by decide +kernel⟩, ⟨(ja_m2 185 rfl rfl), (ja_m2 186 rfl rfl), (ja_m1 17 rfl rfl)⟩, ⟨rfl, by decide⟩, oa_87, ⟨by decide +kernel, by decide +kernel⟩, ⟨by decide, by decide⟩, _, rfl, ⟨rfl, by decide, ja_x2, (ja_m2 134 rfl rfl), (ja_m1 16 rfl rfl), Or.inr ⟨by decide, ⟨rfl, by decide, ja_x3, (ja_m2 180 rfl rfl), (ja_m1 17 rfl rfl), Or.inl ⟨rfl, rfl⟩⟩⟩⟩⟩
theorem S_La_state_57 : ja_Site M_La_state 7 y_WJ_state b_WJ_state (6, 100) 57 22 := ⟨ja_x1, 55, 105, 59, "nothing comes to such a word", ⟨by decide +kernel, by decide +kernel, by decide +kernel, by decide +kernel, by decide +kernel⟩, ⟨(ja_m2 49 rfl rfl), (ja_m2 50 rfl rfl), (ja_m1 14 rfl rfl)⟩, ⟨rfl, by decide⟩, oa_59, ⟨by decide +kernel, by decide +kernel⟩, ⟨by decide, by decide⟩, _, rfl, ⟨rfl, by decide, ja_x2, (ja_m2 134 rfl rfl), (ja_m1 16 rfl rfl), Or.inr ⟨by decide, ⟨rfl, by decide, ja_x3, (ja_m2 180 rfl rfl), (ja_m1 17 rfl rfl), Or.inr ⟨by decide, ⟨rfl, by decide, ja_x1, (ja_m2 44 rfl rfl), (ja_m1 14 rfl rfl), Or.inl ⟨rfl, rfl⟩⟩⟩⟩⟩⟩⟩
theorem S_La_run_7 : ja_Site M_La_run 3 y_WJ_run b_WJ_run (6, 144) 7 10 := ⟨ja_x3, 83, 99, 87, "the code is not verified", ⟨by decide +kernel, by decide +kernel, by decide +kernel, by decide +kernel, by decide +kernel⟩, ⟨(ja_m2 185 rfl rfl), (ja_m2 186 rfl rfl), (ja_m1 17 rfl rfl)⟩, ⟨rfl, by decide⟩, oa_87, ⟨by decide +kernel, by decide +kernel⟩, ⟨by decide, by decide⟩, _, rfl, ⟨rfl, by decide, ja_x3, (ja_m2 180 rfl rfl), (ja_m1 17 rfl rfl), Or.inl ⟨rfl, rfl⟩⟩⟩
theorem S_La_count_87 : ja_Site M_La_count 4 y_WJ_count b_WJ_count (6, 100) 87 12 := ⟨ja_x2, 68, 124, 72, "nothing is counted under this number", ⟨by decide +kernel, by decide +kernel, by decide +kernel, by decide +kernel, by decide +kernel⟩, ⟨(ja_m2 139 rfl rfl), (ja_m2 140 rfl rfl), (ja_m1 16 rfl rfl)⟩, ⟨rfl, by decide⟩, oa_72, ⟨by decide +kernel, by decide +kernel⟩, ⟨by decide, by decide⟩, _, rfl, ⟨rfl, by decide, ja_x2, (ja_m2 134 rfl rfl), (ja_m1 16 rfl rfl), Or.inl ⟨rfl, rfl⟩⟩⟩
theorem N_La_8 : ja_GN "WordJudgeLaw" 8 0 := ⟨R_WJ, T_WJ, 7, rfl, u_WJ, d_WJ, (ja_m1 23 rfl rfl), (ja_m1 24 rfl rfl), (ja_m1 1 rfl rfl), by decide +kernel⟩
theorem G_La_46 : ja_G "WordJudgeLaw" 46 y_WJ_init b_WJ_init 1 (none) 0 none := ⟨k_WJ_init, (ja_m1 1 rfl rfl), ⟨by decide, by decide, by decide +kernel⟩, (ja_m1 25 rfl rfl)⟩
theorem N_La_47 : ja_GN "WordJudgeLaw" 47 9 := ⟨R_Mo, T_Mo, 23, rfl, u_Mo, d_Mo, (ja_m4 192 rfl rfl), (ja_m4 193 rfl rfl), (ja_m1 10 rfl rfl), by decide +kernel⟩
theorem G_La_49 : ja_G "WordJudgeLaw" 49 y_Mo_init b_Mo_init 1 (none) 0 none := ⟨k_Mo_init, (ja_m1 10 rfl rfl), ⟨by decide, by decide, by decide +kernel⟩, (ja_m4 194 rfl rfl)⟩
theorem K_La_50 : Cond.constantLong "WordJudgeLaw" 50 4294967295 ∈ ja_all := (ja_m6 18 rfl rfl)
theorem G_La_57 : ja_G "WordJudgeLaw" 57 y_Mo_word b_Mo_word 4 (some .int) 2 none := ⟨k_Mo_word, (ja_m1 10 rfl rfl), ⟨by decide, by decide, by decide +kernel⟩, (ja_m5 34 rfl rfl)⟩
theorem G_La_58 : ja_G "WordJudgeLaw" 58 y_Mo_thrown b_Mo_thrown 1 (some .int) 0 none := ⟨k_Mo_thrown, (ja_m1 10 rfl rfl), ⟨by decide, by decide, by decide +kernel⟩, (ja_m5 30 rfl rfl)⟩
theorem G_La_64 : ja_G "WordJudgeLaw" 64 y_Mo_cut b_Mo_cut 2 (none) 1 none := ⟨k_Mo_cut, (ja_m1 10 rfl rfl), ⟨by decide, by decide, by decide +kernel⟩, (ja_m5 42 rfl rfl)⟩
theorem G_La_67 : ja_G "WordJudgeLaw" 67 y_Mo_context b_Mo_context 3 (none) 1 none := ⟨k_Mo_context, (ja_m1 10 rfl rfl), ⟨by decide, by decide, by decide +kernel⟩, (ja_m5 46 rfl rfl)⟩
theorem G_La_71 : ja_G "WordJudgeLaw" 71 y_Mo_put b_Mo_put 5 (none) 2 none := ⟨k_Mo_put, (ja_m1 10 rfl rfl), ⟨by decide, by decide, by decide +kernel⟩, (ja_m5 50 rfl rfl)⟩
theorem G_La_75 : ja_G "WordJudgeLaw" 75 y_Mo_verify b_Mo_verify 2 (some .int) 0 none := ⟨k_Mo_verify, (ja_m1 10 rfl rfl), ⟨by decide, by decide, by decide +kernel⟩, (ja_m5 54 rfl rfl)⟩
theorem G_La_76 : ja_G "WordJudgeLaw" 76 y_WJ_fault b_WJ_fault 1 (some .int) 0 none := ⟨k_WJ_fault, (ja_m1 1 rfl rfl), ⟨by decide, by decide, by decide +kernel⟩, (ja_m2 37 rfl rfl)⟩
theorem G_La_79 : ja_G "WordJudgeLaw" 79 y_Mo_fault b_Mo_fault 1 (some .int) 0 none := ⟨k_Mo_fault, (ja_m1 10 rfl rfl), ⟨by decide, by decide, by decide +kernel⟩, (ja_m5 234 rfl rfl)⟩
theorem G_La_83 : ja_G "WordJudgeLaw" 83 y_Mo_state b_Mo_state 4 (some .long) 3 none := ⟨k_Mo_state, (ja_m1 10 rfl rfl), ⟨by decide, by decide, by decide +kernel⟩, (ja_m5 238 rfl rfl)⟩
theorem G_La_86 : ja_G "WordJudgeLaw" 86 y_Mo_run b_Mo_run 9 (some .long) 0 none := ⟨k_Mo_run, (ja_m1 10 rfl rfl), ⟨by decide, by decide, by decide +kernel⟩, (ja_m6 2 rfl rfl)⟩
theorem G_La_90 : ja_G "WordJudgeLaw" 90 y_Mo_count b_Mo_count 4 (some .int) 1 none := ⟨k_Mo_count, (ja_m1 10 rfl rfl), ⟨by decide, by decide, by decide +kernel⟩, (ja_m6 14 rfl rfl)⟩
def M_La_law (b L : Nat) (xs : Nat → Int32) : ja_Mt := ("WordJudgeLaw", code, 8, (9, 218), false, some .boolean, some (b, L, xs), none)
theorem i_La_law_0 {b L : Nat} {xs : Nat → Int32} : ja_At (M_La_law b L xs) 0 (.new 8) 3 3 := ⟨(by decide +kernel : decode code 0 = .ok (.new 8, 3)), rfl⟩
theorem i_La_law_3 {b L : Nat} {xs : Nat → Int32} : ja_At (M_La_law b L xs) 3 (.dup) 1 4 := ⟨(by decide +kernel : decode code 3 = .ok (.dup, 1)), rfl⟩
theorem i_La_law_4 {b L : Nat} {xs : Nat → Int32} : ja_At (M_La_law b L xs) 4 (.invokespecial 46) 3 7 := ⟨(by decide +kernel : decode code 4 = .ok (.invokespecial 46, 3)), rfl⟩
theorem i_La_law_7 {b L : Nat} {xs : Nat → Int32} : ja_At (M_La_law b L xs) 7 (.astore_n 1) 1 8 := ⟨(by decide +kernel : decode code 7 = .ok (.astore_n 1, 1)), rfl⟩
theorem i_La_law_8 {b L : Nat} {xs : Nat → Int32} : ja_At (M_La_law b L xs) 8 (.new 47) 3 11 := ⟨(by decide +kernel : decode code 8 = .ok (.new 47, 3)), rfl⟩
theorem i_La_law_11 {b L : Nat} {xs : Nat → Int32} : ja_At (M_La_law b L xs) 11 (.dup) 1 12 := ⟨(by decide +kernel : decode code 11 = .ok (.dup, 1)), rfl⟩
theorem i_La_law_12 {b L : Nat} {xs : Nat → Int32} : ja_At (M_La_law b L xs) 12 (.invokespecial 49) 3 15 := ⟨(by decide +kernel : decode code 12 = .ok (.invokespecial 49, 3)), rfl⟩
theorem i_La_law_15 {b L : Nat} {xs : Nat → Int32} : ja_At (M_La_law b L xs) 15 (.astore_n 2) 1 16 := ⟨(by decide +kernel : decode code 15 = .ok (.astore_n 2, 1)), rfl⟩
theorem i_La_law_16 {b L : Nat} {xs : Nat → Int32} : ja_At (M_La_law b L xs) 16 (.iconst 1) 1 17 := ⟨(by decide +kernel : decode code 16 = .ok (.iconst 1, 1)), rfl⟩
theorem i_La_law_17 {b L : Nat} {xs : Nat → Int32} : ja_At (M_La_law b L xs) 17 (.newarray .long) 2 19 := ⟨(by decide +kernel : decode code 17 = .ok (.newarray .long, 2)), rfl⟩
theorem i_La_law_19 {b L : Nat} {xs : Nat → Int32} : ja_At (M_La_law b L xs) 19 (.astore_n 3) 1 20 := ⟨(by decide +kernel : decode code 19 = .ok (.astore_n 3, 1)), rfl⟩
theorem i_La_law_20 {b L : Nat} {xs : Nat → Int32} : ja_At (M_La_law b L xs) 20 (.iconst 0) 1 21 := ⟨(by decide +kernel : decode code 20 = .ok (.iconst 0, 1)), rfl⟩
theorem i_La_law_21 {b L : Nat} {xs : Nat → Int32} : ja_At (M_La_law b L xs) 21 (.istore 4) 2 23 := ⟨(by decide +kernel : decode code 21 = .ok (.istore 4, 2)), rfl⟩
theorem i_La_law_23 {b L : Nat} {xs : Nat → Int32} : ja_At (M_La_law b L xs) 23 (.iload 4) 2 25 := ⟨(by decide +kernel : decode code 23 = .ok (.iload 4, 2)), rfl⟩
theorem i_La_law_25 {b L : Nat} {xs : Nat → Int32} : ja_At (M_La_law b L xs) 25 (.aload_n 0) 1 26 := ⟨(by decide +kernel : decode code 25 = .ok (.aload_n 0, 1)), rfl⟩
theorem i_La_law_26 {b L : Nat} {xs : Nat → Int32} : ja_At (M_La_law b L xs) 26 (.arraylength) 1 27 := ⟨(by decide +kernel : decode code 26 = .ok (.arraylength, 1)), rfl⟩
theorem i_La_law_27 {b L : Nat} {xs : Nat → Int32} : ja_At (M_La_law b L xs) 27 (.iconst 4) 1 28 := ⟨(by decide +kernel : decode code 27 = .ok (.iconst 4, 1)), rfl⟩
theorem i_La_law_28 {b L : Nat} {xs : Nat → Int32} : ja_At (M_La_law b L xs) 28 (.isub) 1 29 := ⟨(by decide +kernel : decode code 28 = .ok (.isub, 1)), rfl⟩
theorem i_La_law_29 {b L : Nat} {xs : Nat → Int32} : ja_At (M_La_law b L xs) 29 (.if_icmp .gt 552) 3 32 := ⟨(by decide +kernel : decode code 29 = .ok (.if_icmp .gt 552, 3)), rfl⟩
theorem i_La_law_32 {b L : Nat} {xs : Nat → Int32} : ja_At (M_La_law b L xs) 32 (.aload_n 0) 1 33 := ⟨(by decide +kernel : decode code 32 = .ok (.aload_n 0, 1)), rfl⟩
theorem i_La_law_33 {b L : Nat} {xs : Nat → Int32} : ja_At (M_La_law b L xs) 33 (.iload 4) 2 35 := ⟨(by decide +kernel : decode code 33 = .ok (.iload 4, 2)), rfl⟩
theorem i_La_law_35 {b L : Nat} {xs : Nat → Int32} : ja_At (M_La_law b L xs) 35 (.iaload) 1 36 := ⟨(by decide +kernel : decode code 35 = .ok (.iaload, 1)), rfl⟩
theorem i_La_law_36 {b L : Nat} {xs : Nat → Int32} : ja_At (M_La_law b L xs) 36 (.bipush 15) 2 38 := ⟨(by decide +kernel : decode code 36 = .ok (.bipush 15, 2)), rfl⟩
theorem i_La_law_38 {b L : Nat} {xs : Nat → Int32} : ja_At (M_La_law b L xs) 38 (.iand) 1 39 := ⟨(by decide +kernel : decode code 38 = .ok (.iand, 1)), rfl⟩
theorem i_La_law_39 {b L : Nat} {xs : Nat → Int32} : ja_At (M_La_law b L xs) 39 (.tableswitch 536 0 8 #[49, 149, 185, 221, 301, 345, 358, 437, 480]) 49 88 := ⟨(by decide +kernel : decode code 39 = .ok (.tableswitch 536 0 8 #[49, 149, 185, 221, 301, 345, 358, 437, 480], 49)), rfl⟩
theorem i_La_law_88 {b L : Nat} {xs : Nat → Int32} : ja_At (M_La_law b L xs) 88 (.aload_n 1) 1 89 := ⟨(by decide +kernel : decode code 88 = .ok (.aload_n 1, 1)), rfl⟩
theorem i_La_law_89 {b L : Nat} {xs : Nat → Int32} : ja_At (M_La_law b L xs) 89 (.aload_n 0) 1 90 := ⟨(by decide +kernel : decode code 89 = .ok (.aload_n 0, 1)), rfl⟩
theorem i_La_law_90 {b L : Nat} {xs : Nat → Int32} : ja_At (M_La_law b L xs) 90 (.iload 4) 2 92 := ⟨(by decide +kernel : decode code 90 = .ok (.iload 4, 2)), rfl⟩
theorem i_La_law_92 {b L : Nat} {xs : Nat → Int32} : ja_At (M_La_law b L xs) 92 (.iconst 1) 1 93 := ⟨(by decide +kernel : decode code 92 = .ok (.iconst 1, 1)), rfl⟩
theorem i_La_law_93 {b L : Nat} {xs : Nat → Int32} : ja_At (M_La_law b L xs) 93 (.iadd) 1 94 := ⟨(by decide +kernel : decode code 93 = .ok (.iadd, 1)), rfl⟩
theorem i_La_law_94 {b L : Nat} {xs : Nat → Int32} : ja_At (M_La_law b L xs) 94 (.iaload) 1 95 := ⟨(by decide +kernel : decode code 94 = .ok (.iaload, 1)), rfl⟩
theorem i_La_law_95 {b L : Nat} {xs : Nat → Int32} : ja_At (M_La_law b L xs) 95 (.aload_n 0) 1 96 := ⟨(by decide +kernel : decode code 95 = .ok (.aload_n 0, 1)), rfl⟩
theorem i_La_law_96 {b L : Nat} {xs : Nat → Int32} : ja_At (M_La_law b L xs) 96 (.iload 4) 2 98 := ⟨(by decide +kernel : decode code 96 = .ok (.iload 4, 2)), rfl⟩
theorem i_La_law_98 {b L : Nat} {xs : Nat → Int32} : ja_At (M_La_law b L xs) 98 (.iconst 2) 1 99 := ⟨(by decide +kernel : decode code 98 = .ok (.iconst 2, 1)), rfl⟩
theorem i_La_law_99 {b L : Nat} {xs : Nat → Int32} : ja_At (M_La_law b L xs) 99 (.iadd) 1 100 := ⟨(by decide +kernel : decode code 99 = .ok (.iadd, 1)), rfl⟩
theorem i_La_law_100 {b L : Nat} {xs : Nat → Int32} : ja_At (M_La_law b L xs) 100 (.iaload) 1 101 := ⟨(by decide +kernel : decode code 100 = .ok (.iaload, 1)), rfl⟩
theorem i_La_law_101 {b L : Nat} {xs : Nat → Int32} : ja_At (M_La_law b L xs) 101 (.i2l) 1 102 := ⟨(by decide +kernel : decode code 101 = .ok (.i2l, 1)), rfl⟩
theorem i_La_law_102 {b L : Nat} {xs : Nat → Int32} : ja_At (M_La_law b L xs) 102 (.bipush 32) 2 104 := ⟨(by decide +kernel : decode code 102 = .ok (.bipush 32, 2)), rfl⟩
theorem i_La_law_104 {b L : Nat} {xs : Nat → Int32} : ja_At (M_La_law b L xs) 104 (.lshl) 1 105 := ⟨(by decide +kernel : decode code 104 = .ok (.lshl, 1)), rfl⟩
theorem i_La_law_105 {b L : Nat} {xs : Nat → Int32} : ja_At (M_La_law b L xs) 105 (.aload_n 0) 1 106 := ⟨(by decide +kernel : decode code 105 = .ok (.aload_n 0, 1)), rfl⟩
theorem i_La_law_106 {b L : Nat} {xs : Nat → Int32} : ja_At (M_La_law b L xs) 106 (.iload 4) 2 108 := ⟨(by decide +kernel : decode code 106 = .ok (.iload 4, 2)), rfl⟩
theorem i_La_law_108 {b L : Nat} {xs : Nat → Int32} : ja_At (M_La_law b L xs) 108 (.iconst 3) 1 109 := ⟨(by decide +kernel : decode code 108 = .ok (.iconst 3, 1)), rfl⟩
theorem i_La_law_109 {b L : Nat} {xs : Nat → Int32} : ja_At (M_La_law b L xs) 109 (.iadd) 1 110 := ⟨(by decide +kernel : decode code 109 = .ok (.iadd, 1)), rfl⟩
theorem i_La_law_110 {b L : Nat} {xs : Nat → Int32} : ja_At (M_La_law b L xs) 110 (.iaload) 1 111 := ⟨(by decide +kernel : decode code 110 = .ok (.iaload, 1)), rfl⟩
theorem i_La_law_111 {b L : Nat} {xs : Nat → Int32} : ja_At (M_La_law b L xs) 111 (.i2l) 1 112 := ⟨(by decide +kernel : decode code 111 = .ok (.i2l, 1)), rfl⟩
theorem i_La_law_112 {b L : Nat} {xs : Nat → Int32} : ja_At (M_La_law b L xs) 112 (.ldc2_w 50) 3 115 := ⟨(by decide +kernel : decode code 112 = .ok (.ldc2_w 50, 3)), rfl⟩
theorem i_La_law_115 {b L : Nat} {xs : Nat → Int32} : ja_At (M_La_law b L xs) 115 (.land) 1 116 := ⟨(by decide +kernel : decode code 115 = .ok (.land, 1)), rfl⟩
theorem i_La_law_116 {b L : Nat} {xs : Nat → Int32} : ja_At (M_La_law b L xs) 116 (.lor) 1 117 := ⟨(by decide +kernel : decode code 116 = .ok (.lor, 1)), rfl⟩
theorem i_La_law_117 {b L : Nat} {xs : Nat → Int32} : ja_At (M_La_law b L xs) 117 (.aload_n 3) 1 118 := ⟨(by decide +kernel : decode code 117 = .ok (.aload_n 3, 1)), rfl⟩
theorem i_La_law_118 {b L : Nat} {xs : Nat → Int32} : ja_At (M_La_law b L xs) 118 (.invokestatic 52) 3 121 := ⟨(by decide +kernel : decode code 118 = .ok (.invokestatic 52, 3)), rfl⟩
theorem i_La_law_121 {b L : Nat} {xs : Nat → Int32} : ja_At (M_La_law b L xs) 121 (.istore 5) 2 123 := ⟨(by decide +kernel : decode code 121 = .ok (.istore 5, 2)), rfl⟩
theorem i_La_law_123 {b L : Nat} {xs : Nat → Int32} : ja_At (M_La_law b L xs) 123 (.aload_n 2) 1 124 := ⟨(by decide +kernel : decode code 123 = .ok (.aload_n 2, 1)), rfl⟩
theorem i_La_law_124 {b L : Nat} {xs : Nat → Int32} : ja_At (M_La_law b L xs) 124 (.aload_n 0) 1 125 := ⟨(by decide +kernel : decode code 124 = .ok (.aload_n 0, 1)), rfl⟩
theorem i_La_law_125 {b L : Nat} {xs : Nat → Int32} : ja_At (M_La_law b L xs) 125 (.iload 4) 2 127 := ⟨(by decide +kernel : decode code 125 = .ok (.iload 4, 2)), rfl⟩
theorem i_La_law_127 {b L : Nat} {xs : Nat → Int32} : ja_At (M_La_law b L xs) 127 (.iconst 1) 1 128 := ⟨(by decide +kernel : decode code 127 = .ok (.iconst 1, 1)), rfl⟩
theorem i_La_law_128 {b L : Nat} {xs : Nat → Int32} : ja_At (M_La_law b L xs) 128 (.iadd) 1 129 := ⟨(by decide +kernel : decode code 128 = .ok (.iadd, 1)), rfl⟩
theorem i_La_law_129 {b L : Nat} {xs : Nat → Int32} : ja_At (M_La_law b L xs) 129 (.iaload) 1 130 := ⟨(by decide +kernel : decode code 129 = .ok (.iaload, 1)), rfl⟩
theorem i_La_law_130 {b L : Nat} {xs : Nat → Int32} : ja_At (M_La_law b L xs) 130 (.aload_n 0) 1 131 := ⟨(by decide +kernel : decode code 130 = .ok (.aload_n 0, 1)), rfl⟩
theorem i_La_law_131 {b L : Nat} {xs : Nat → Int32} : ja_At (M_La_law b L xs) 131 (.iload 4) 2 133 := ⟨(by decide +kernel : decode code 131 = .ok (.iload 4, 2)), rfl⟩
theorem i_La_law_133 {b L : Nat} {xs : Nat → Int32} : ja_At (M_La_law b L xs) 133 (.iconst 2) 1 134 := ⟨(by decide +kernel : decode code 133 = .ok (.iconst 2, 1)), rfl⟩
theorem i_La_law_134 {b L : Nat} {xs : Nat → Int32} : ja_At (M_La_law b L xs) 134 (.iadd) 1 135 := ⟨(by decide +kernel : decode code 134 = .ok (.iadd, 1)), rfl⟩
theorem i_La_law_135 {b L : Nat} {xs : Nat → Int32} : ja_At (M_La_law b L xs) 135 (.iaload) 1 136 := ⟨(by decide +kernel : decode code 135 = .ok (.iaload, 1)), rfl⟩
theorem i_La_law_136 {b L : Nat} {xs : Nat → Int32} : ja_At (M_La_law b L xs) 136 (.i2l) 1 137 := ⟨(by decide +kernel : decode code 136 = .ok (.i2l, 1)), rfl⟩
theorem i_La_law_137 {b L : Nat} {xs : Nat → Int32} : ja_At (M_La_law b L xs) 137 (.bipush 32) 2 139 := ⟨(by decide +kernel : decode code 137 = .ok (.bipush 32, 2)), rfl⟩
theorem i_La_law_139 {b L : Nat} {xs : Nat → Int32} : ja_At (M_La_law b L xs) 139 (.lshl) 1 140 := ⟨(by decide +kernel : decode code 139 = .ok (.lshl, 1)), rfl⟩
theorem i_La_law_140 {b L : Nat} {xs : Nat → Int32} : ja_At (M_La_law b L xs) 140 (.aload_n 0) 1 141 := ⟨(by decide +kernel : decode code 140 = .ok (.aload_n 0, 1)), rfl⟩
theorem i_La_law_141 {b L : Nat} {xs : Nat → Int32} : ja_At (M_La_law b L xs) 141 (.iload 4) 2 143 := ⟨(by decide +kernel : decode code 141 = .ok (.iload 4, 2)), rfl⟩
theorem i_La_law_143 {b L : Nat} {xs : Nat → Int32} : ja_At (M_La_law b L xs) 143 (.iconst 3) 1 144 := ⟨(by decide +kernel : decode code 143 = .ok (.iconst 3, 1)), rfl⟩
theorem i_La_law_144 {b L : Nat} {xs : Nat → Int32} : ja_At (M_La_law b L xs) 144 (.iadd) 1 145 := ⟨(by decide +kernel : decode code 144 = .ok (.iadd, 1)), rfl⟩
theorem i_La_law_145 {b L : Nat} {xs : Nat → Int32} : ja_At (M_La_law b L xs) 145 (.iaload) 1 146 := ⟨(by decide +kernel : decode code 145 = .ok (.iaload, 1)), rfl⟩
theorem i_La_law_146 {b L : Nat} {xs : Nat → Int32} : ja_At (M_La_law b L xs) 146 (.i2l) 1 147 := ⟨(by decide +kernel : decode code 146 = .ok (.i2l, 1)), rfl⟩
theorem i_La_law_147 {b L : Nat} {xs : Nat → Int32} : ja_At (M_La_law b L xs) 147 (.ldc2_w 50) 3 150 := ⟨(by decide +kernel : decode code 147 = .ok (.ldc2_w 50, 3)), rfl⟩
theorem i_La_law_150 {b L : Nat} {xs : Nat → Int32} : ja_At (M_La_law b L xs) 150 (.land) 1 151 := ⟨(by decide +kernel : decode code 150 = .ok (.land, 1)), rfl⟩
theorem i_La_law_151 {b L : Nat} {xs : Nat → Int32} : ja_At (M_La_law b L xs) 151 (.lor) 1 152 := ⟨(by decide +kernel : decode code 151 = .ok (.lor, 1)), rfl⟩
theorem i_La_law_152 {b L : Nat} {xs : Nat → Int32} : ja_At (M_La_law b L xs) 152 (.invokevirtual 57) 3 155 := ⟨(by decide +kernel : decode code 152 = .ok (.invokevirtual 57, 3)), rfl⟩
theorem i_La_law_155 {b L : Nat} {xs : Nat → Int32} : ja_At (M_La_law b L xs) 155 (.istore 6) 2 157 := ⟨(by decide +kernel : decode code 155 = .ok (.istore 6, 2)), rfl⟩
theorem i_La_law_157 {b L : Nat} {xs : Nat → Int32} : ja_At (M_La_law b L xs) 157 (.aload_n 2) 1 158 := ⟨(by decide +kernel : decode code 157 = .ok (.aload_n 2, 1)), rfl⟩
theorem i_La_law_158 {b L : Nat} {xs : Nat → Int32} : ja_At (M_La_law b L xs) 158 (.invokevirtual 58) 3 161 := ⟨(by decide +kernel : decode code 158 = .ok (.invokevirtual 58, 3)), rfl⟩
theorem i_La_law_161 {b L : Nat} {xs : Nat → Int32} : ja_At (M_La_law b L xs) 161 (.iload 5) 2 163 := ⟨(by decide +kernel : decode code 161 = .ok (.iload 5, 2)), rfl⟩
theorem i_La_law_163 {b L : Nat} {xs : Nat → Int32} : ja_At (M_La_law b L xs) 163 (.if_icmp .eq 5) 3 166 := ⟨(by decide +kernel : decode code 163 = .ok (.if_icmp .eq 5, 3)), rfl⟩
theorem i_La_law_166 {b L : Nat} {xs : Nat → Int32} : ja_At (M_La_law b L xs) 166 (.iconst 0) 1 167 := ⟨(by decide +kernel : decode code 166 = .ok (.iconst 0, 1)), rfl⟩
theorem i_La_law_167 {b L : Nat} {xs : Nat → Int32} : ja_At (M_La_law b L xs) 167 (.ireturn) 1 168 := ⟨(by decide +kernel : decode code 167 = .ok (.ireturn, 1)), rfl⟩
theorem i_La_law_168 {b L : Nat} {xs : Nat → Int32} : ja_At (M_La_law b L xs) 168 (.iload 5) 2 170 := ⟨(by decide +kernel : decode code 168 = .ok (.iload 5, 2)), rfl⟩
theorem i_La_law_170 {b L : Nat} {xs : Nat → Int32} : ja_At (M_La_law b L xs) 170 (.ifCond .ne 15) 3 173 := ⟨(by decide +kernel : decode code 170 = .ok (.ifCond .ne 15, 3)), rfl⟩
theorem i_La_law_173 {b L : Nat} {xs : Nat → Int32} : ja_At (M_La_law b L xs) 173 (.aload_n 3) 1 174 := ⟨(by decide +kernel : decode code 173 = .ok (.aload_n 3, 1)), rfl⟩
theorem i_La_law_174 {b L : Nat} {xs : Nat → Int32} : ja_At (M_La_law b L xs) 174 (.iconst 0) 1 175 := ⟨(by decide +kernel : decode code 174 = .ok (.iconst 0, 1)), rfl⟩
theorem i_La_law_175 {b L : Nat} {xs : Nat → Int32} : ja_At (M_La_law b L xs) 175 (.laload) 1 176 := ⟨(by decide +kernel : decode code 175 = .ok (.laload, 1)), rfl⟩
theorem i_La_law_176 {b L : Nat} {xs : Nat → Int32} : ja_At (M_La_law b L xs) 176 (.iload 6) 2 178 := ⟨(by decide +kernel : decode code 176 = .ok (.iload 6, 2)), rfl⟩
theorem i_La_law_178 {b L : Nat} {xs : Nat → Int32} : ja_At (M_La_law b L xs) 178 (.i2l) 1 179 := ⟨(by decide +kernel : decode code 178 = .ok (.i2l, 1)), rfl⟩
theorem i_La_law_179 {b L : Nat} {xs : Nat → Int32} : ja_At (M_La_law b L xs) 179 (.lcmp) 1 180 := ⟨(by decide +kernel : decode code 179 = .ok (.lcmp, 1)), rfl⟩
theorem i_La_law_180 {b L : Nat} {xs : Nat → Int32} : ja_At (M_La_law b L xs) 180 (.ifCond .eq 5) 3 183 := ⟨(by decide +kernel : decode code 180 = .ok (.ifCond .eq 5, 3)), rfl⟩
theorem i_La_law_183 {b L : Nat} {xs : Nat → Int32} : ja_At (M_La_law b L xs) 183 (.iconst 0) 1 184 := ⟨(by decide +kernel : decode code 183 = .ok (.iconst 0, 1)), rfl⟩
theorem i_La_law_184 {b L : Nat} {xs : Nat → Int32} : ja_At (M_La_law b L xs) 184 (.ireturn) 1 185 := ⟨(by decide +kernel : decode code 184 = .ok (.ireturn, 1)), rfl⟩
theorem i_La_law_185 {b L : Nat} {xs : Nat → Int32} : ja_At (M_La_law b L xs) 185 (.goto 390) 3 188 := ⟨(by decide +kernel : decode code 185 = .ok (.goto 390, 3)), rfl⟩
theorem i_La_law_188 {b L : Nat} {xs : Nat → Int32} : ja_At (M_La_law b L xs) 188 (.aload_n 1) 1 189 := ⟨(by decide +kernel : decode code 188 = .ok (.aload_n 1, 1)), rfl⟩
theorem i_La_law_189 {b L : Nat} {xs : Nat → Int32} : ja_At (M_La_law b L xs) 189 (.aload_n 0) 1 190 := ⟨(by decide +kernel : decode code 189 = .ok (.aload_n 0, 1)), rfl⟩
theorem i_La_law_190 {b L : Nat} {xs : Nat → Int32} : ja_At (M_La_law b L xs) 190 (.iload 4) 2 192 := ⟨(by decide +kernel : decode code 190 = .ok (.iload 4, 2)), rfl⟩
theorem i_La_law_192 {b L : Nat} {xs : Nat → Int32} : ja_At (M_La_law b L xs) 192 (.iconst 1) 1 193 := ⟨(by decide +kernel : decode code 192 = .ok (.iconst 1, 1)), rfl⟩
theorem i_La_law_193 {b L : Nat} {xs : Nat → Int32} : ja_At (M_La_law b L xs) 193 (.iadd) 1 194 := ⟨(by decide +kernel : decode code 193 = .ok (.iadd, 1)), rfl⟩
theorem i_La_law_194 {b L : Nat} {xs : Nat → Int32} : ja_At (M_La_law b L xs) 194 (.iaload) 1 195 := ⟨(by decide +kernel : decode code 194 = .ok (.iaload, 1)), rfl⟩
theorem i_La_law_195 {b L : Nat} {xs : Nat → Int32} : ja_At (M_La_law b L xs) 195 (.invokestatic 61) 3 198 := ⟨(by decide +kernel : decode code 195 = .ok (.invokestatic 61, 3)), rfl⟩
theorem i_La_law_198 {b L : Nat} {xs : Nat → Int32} : ja_At (M_La_law b L xs) 198 (.istore 5) 2 200 := ⟨(by decide +kernel : decode code 198 = .ok (.istore 5, 2)), rfl⟩
theorem i_La_law_200 {b L : Nat} {xs : Nat → Int32} : ja_At (M_La_law b L xs) 200 (.aload_n 2) 1 201 := ⟨(by decide +kernel : decode code 200 = .ok (.aload_n 2, 1)), rfl⟩
theorem i_La_law_201 {b L : Nat} {xs : Nat → Int32} : ja_At (M_La_law b L xs) 201 (.aload_n 0) 1 202 := ⟨(by decide +kernel : decode code 201 = .ok (.aload_n 0, 1)), rfl⟩
theorem i_La_law_202 {b L : Nat} {xs : Nat → Int32} : ja_At (M_La_law b L xs) 202 (.iload 4) 2 204 := ⟨(by decide +kernel : decode code 202 = .ok (.iload 4, 2)), rfl⟩
theorem i_La_law_204 {b L : Nat} {xs : Nat → Int32} : ja_At (M_La_law b L xs) 204 (.iconst 1) 1 205 := ⟨(by decide +kernel : decode code 204 = .ok (.iconst 1, 1)), rfl⟩
theorem i_La_law_205 {b L : Nat} {xs : Nat → Int32} : ja_At (M_La_law b L xs) 205 (.iadd) 1 206 := ⟨(by decide +kernel : decode code 205 = .ok (.iadd, 1)), rfl⟩
theorem i_La_law_206 {b L : Nat} {xs : Nat → Int32} : ja_At (M_La_law b L xs) 206 (.iaload) 1 207 := ⟨(by decide +kernel : decode code 206 = .ok (.iaload, 1)), rfl⟩
theorem i_La_law_207 {b L : Nat} {xs : Nat → Int32} : ja_At (M_La_law b L xs) 207 (.invokevirtual 64) 3 210 := ⟨(by decide +kernel : decode code 207 = .ok (.invokevirtual 64, 3)), rfl⟩
theorem i_La_law_210 {b L : Nat} {xs : Nat → Int32} : ja_At (M_La_law b L xs) 210 (.aload_n 2) 1 211 := ⟨(by decide +kernel : decode code 210 = .ok (.aload_n 2, 1)), rfl⟩
theorem i_La_law_211 {b L : Nat} {xs : Nat → Int32} : ja_At (M_La_law b L xs) 211 (.invokevirtual 58) 3 214 := ⟨(by decide +kernel : decode code 211 = .ok (.invokevirtual 58, 3)), rfl⟩
theorem i_La_law_214 {b L : Nat} {xs : Nat → Int32} : ja_At (M_La_law b L xs) 214 (.iload 5) 2 216 := ⟨(by decide +kernel : decode code 214 = .ok (.iload 5, 2)), rfl⟩
theorem i_La_law_216 {b L : Nat} {xs : Nat → Int32} : ja_At (M_La_law b L xs) 216 (.if_icmp .eq 5) 3 219 := ⟨(by decide +kernel : decode code 216 = .ok (.if_icmp .eq 5, 3)), rfl⟩
theorem i_La_law_219 {b L : Nat} {xs : Nat → Int32} : ja_At (M_La_law b L xs) 219 (.iconst 0) 1 220 := ⟨(by decide +kernel : decode code 219 = .ok (.iconst 0, 1)), rfl⟩
theorem i_La_law_220 {b L : Nat} {xs : Nat → Int32} : ja_At (M_La_law b L xs) 220 (.ireturn) 1 221 := ⟨(by decide +kernel : decode code 220 = .ok (.ireturn, 1)), rfl⟩
theorem i_La_law_221 {b L : Nat} {xs : Nat → Int32} : ja_At (M_La_law b L xs) 221 (.goto 354) 3 224 := ⟨(by decide +kernel : decode code 221 = .ok (.goto 354, 3)), rfl⟩
theorem i_La_law_224 {b L : Nat} {xs : Nat → Int32} : ja_At (M_La_law b L xs) 224 (.aload_n 1) 1 225 := ⟨(by decide +kernel : decode code 224 = .ok (.aload_n 1, 1)), rfl⟩
theorem i_La_law_225 {b L : Nat} {xs : Nat → Int32} : ja_At (M_La_law b L xs) 225 (.aload_n 0) 1 226 := ⟨(by decide +kernel : decode code 225 = .ok (.aload_n 0, 1)), rfl⟩
theorem i_La_law_226 {b L : Nat} {xs : Nat → Int32} : ja_At (M_La_law b L xs) 226 (.iload 4) 2 228 := ⟨(by decide +kernel : decode code 226 = .ok (.iload 4, 2)), rfl⟩
theorem i_La_law_228 {b L : Nat} {xs : Nat → Int32} : ja_At (M_La_law b L xs) 228 (.iconst 1) 1 229 := ⟨(by decide +kernel : decode code 228 = .ok (.iconst 1, 1)), rfl⟩
theorem i_La_law_229 {b L : Nat} {xs : Nat → Int32} : ja_At (M_La_law b L xs) 229 (.iadd) 1 230 := ⟨(by decide +kernel : decode code 229 = .ok (.iadd, 1)), rfl⟩
theorem i_La_law_230 {b L : Nat} {xs : Nat → Int32} : ja_At (M_La_law b L xs) 230 (.iaload) 1 231 := ⟨(by decide +kernel : decode code 230 = .ok (.iaload, 1)), rfl⟩
theorem i_La_law_231 {b L : Nat} {xs : Nat → Int32} : ja_At (M_La_law b L xs) 231 (.invokestatic 65) 3 234 := ⟨(by decide +kernel : decode code 231 = .ok (.invokestatic 65, 3)), rfl⟩
theorem i_La_law_234 {b L : Nat} {xs : Nat → Int32} : ja_At (M_La_law b L xs) 234 (.istore 5) 2 236 := ⟨(by decide +kernel : decode code 234 = .ok (.istore 5, 2)), rfl⟩
theorem i_La_law_236 {b L : Nat} {xs : Nat → Int32} : ja_At (M_La_law b L xs) 236 (.aload_n 2) 1 237 := ⟨(by decide +kernel : decode code 236 = .ok (.aload_n 2, 1)), rfl⟩
theorem i_La_law_237 {b L : Nat} {xs : Nat → Int32} : ja_At (M_La_law b L xs) 237 (.aload_n 0) 1 238 := ⟨(by decide +kernel : decode code 237 = .ok (.aload_n 0, 1)), rfl⟩
theorem i_La_law_238 {b L : Nat} {xs : Nat → Int32} : ja_At (M_La_law b L xs) 238 (.iload 4) 2 240 := ⟨(by decide +kernel : decode code 238 = .ok (.iload 4, 2)), rfl⟩
theorem i_La_law_240 {b L : Nat} {xs : Nat → Int32} : ja_At (M_La_law b L xs) 240 (.iconst 1) 1 241 := ⟨(by decide +kernel : decode code 240 = .ok (.iconst 1, 1)), rfl⟩
theorem i_La_law_241 {b L : Nat} {xs : Nat → Int32} : ja_At (M_La_law b L xs) 241 (.iadd) 1 242 := ⟨(by decide +kernel : decode code 241 = .ok (.iadd, 1)), rfl⟩
theorem i_La_law_242 {b L : Nat} {xs : Nat → Int32} : ja_At (M_La_law b L xs) 242 (.iaload) 1 243 := ⟨(by decide +kernel : decode code 242 = .ok (.iaload, 1)), rfl⟩
theorem i_La_law_243 {b L : Nat} {xs : Nat → Int32} : ja_At (M_La_law b L xs) 243 (.invokevirtual 67) 3 246 := ⟨(by decide +kernel : decode code 243 = .ok (.invokevirtual 67, 3)), rfl⟩
theorem i_La_law_246 {b L : Nat} {xs : Nat → Int32} : ja_At (M_La_law b L xs) 246 (.aload_n 2) 1 247 := ⟨(by decide +kernel : decode code 246 = .ok (.aload_n 2, 1)), rfl⟩
theorem i_La_law_247 {b L : Nat} {xs : Nat → Int32} : ja_At (M_La_law b L xs) 247 (.invokevirtual 58) 3 250 := ⟨(by decide +kernel : decode code 247 = .ok (.invokevirtual 58, 3)), rfl⟩
theorem i_La_law_250 {b L : Nat} {xs : Nat → Int32} : ja_At (M_La_law b L xs) 250 (.iload 5) 2 252 := ⟨(by decide +kernel : decode code 250 = .ok (.iload 5, 2)), rfl⟩
theorem i_La_law_252 {b L : Nat} {xs : Nat → Int32} : ja_At (M_La_law b L xs) 252 (.if_icmp .eq 5) 3 255 := ⟨(by decide +kernel : decode code 252 = .ok (.if_icmp .eq 5, 3)), rfl⟩
theorem i_La_law_255 {b L : Nat} {xs : Nat → Int32} : ja_At (M_La_law b L xs) 255 (.iconst 0) 1 256 := ⟨(by decide +kernel : decode code 255 = .ok (.iconst 0, 1)), rfl⟩
theorem i_La_law_256 {b L : Nat} {xs : Nat → Int32} : ja_At (M_La_law b L xs) 256 (.ireturn) 1 257 := ⟨(by decide +kernel : decode code 256 = .ok (.ireturn, 1)), rfl⟩
theorem i_La_law_257 {b L : Nat} {xs : Nat → Int32} : ja_At (M_La_law b L xs) 257 (.goto 318) 3 260 := ⟨(by decide +kernel : decode code 257 = .ok (.goto 318, 3)), rfl⟩
theorem i_La_law_260 {b L : Nat} {xs : Nat → Int32} : ja_At (M_La_law b L xs) 260 (.aload_n 1) 1 261 := ⟨(by decide +kernel : decode code 260 = .ok (.aload_n 1, 1)), rfl⟩
theorem i_La_law_261 {b L : Nat} {xs : Nat → Int32} : ja_At (M_La_law b L xs) 261 (.aload_n 0) 1 262 := ⟨(by decide +kernel : decode code 261 = .ok (.aload_n 0, 1)), rfl⟩
theorem i_La_law_262 {b L : Nat} {xs : Nat → Int32} : ja_At (M_La_law b L xs) 262 (.iload 4) 2 264 := ⟨(by decide +kernel : decode code 262 = .ok (.iload 4, 2)), rfl⟩
theorem i_La_law_264 {b L : Nat} {xs : Nat → Int32} : ja_At (M_La_law b L xs) 264 (.iconst 1) 1 265 := ⟨(by decide +kernel : decode code 264 = .ok (.iconst 1, 1)), rfl⟩
theorem i_La_law_265 {b L : Nat} {xs : Nat → Int32} : ja_At (M_La_law b L xs) 265 (.iadd) 1 266 := ⟨(by decide +kernel : decode code 265 = .ok (.iadd, 1)), rfl⟩
theorem i_La_law_266 {b L : Nat} {xs : Nat → Int32} : ja_At (M_La_law b L xs) 266 (.iaload) 1 267 := ⟨(by decide +kernel : decode code 266 = .ok (.iaload, 1)), rfl⟩
theorem i_La_law_267 {b L : Nat} {xs : Nat → Int32} : ja_At (M_La_law b L xs) 267 (.aload_n 0) 1 268 := ⟨(by decide +kernel : decode code 267 = .ok (.aload_n 0, 1)), rfl⟩
theorem i_La_law_268 {b L : Nat} {xs : Nat → Int32} : ja_At (M_La_law b L xs) 268 (.iload 4) 2 270 := ⟨(by decide +kernel : decode code 268 = .ok (.iload 4, 2)), rfl⟩
theorem i_La_law_270 {b L : Nat} {xs : Nat → Int32} : ja_At (M_La_law b L xs) 270 (.iconst 2) 1 271 := ⟨(by decide +kernel : decode code 270 = .ok (.iconst 2, 1)), rfl⟩
theorem i_La_law_271 {b L : Nat} {xs : Nat → Int32} : ja_At (M_La_law b L xs) 271 (.iadd) 1 272 := ⟨(by decide +kernel : decode code 271 = .ok (.iadd, 1)), rfl⟩
theorem i_La_law_272 {b L : Nat} {xs : Nat → Int32} : ja_At (M_La_law b L xs) 272 (.iaload) 1 273 := ⟨(by decide +kernel : decode code 272 = .ok (.iaload, 1)), rfl⟩
theorem i_La_law_273 {b L : Nat} {xs : Nat → Int32} : ja_At (M_La_law b L xs) 273 (.i2l) 1 274 := ⟨(by decide +kernel : decode code 273 = .ok (.i2l, 1)), rfl⟩
theorem i_La_law_274 {b L : Nat} {xs : Nat → Int32} : ja_At (M_La_law b L xs) 274 (.bipush 32) 2 276 := ⟨(by decide +kernel : decode code 274 = .ok (.bipush 32, 2)), rfl⟩
theorem i_La_law_276 {b L : Nat} {xs : Nat → Int32} : ja_At (M_La_law b L xs) 276 (.lshl) 1 277 := ⟨(by decide +kernel : decode code 276 = .ok (.lshl, 1)), rfl⟩
theorem i_La_law_277 {b L : Nat} {xs : Nat → Int32} : ja_At (M_La_law b L xs) 277 (.aload_n 0) 1 278 := ⟨(by decide +kernel : decode code 277 = .ok (.aload_n 0, 1)), rfl⟩
theorem i_La_law_278 {b L : Nat} {xs : Nat → Int32} : ja_At (M_La_law b L xs) 278 (.iload 4) 2 280 := ⟨(by decide +kernel : decode code 278 = .ok (.iload 4, 2)), rfl⟩
theorem i_La_law_280 {b L : Nat} {xs : Nat → Int32} : ja_At (M_La_law b L xs) 280 (.iconst 3) 1 281 := ⟨(by decide +kernel : decode code 280 = .ok (.iconst 3, 1)), rfl⟩
theorem i_La_law_281 {b L : Nat} {xs : Nat → Int32} : ja_At (M_La_law b L xs) 281 (.iadd) 1 282 := ⟨(by decide +kernel : decode code 281 = .ok (.iadd, 1)), rfl⟩
theorem i_La_law_282 {b L : Nat} {xs : Nat → Int32} : ja_At (M_La_law b L xs) 282 (.iaload) 1 283 := ⟨(by decide +kernel : decode code 282 = .ok (.iaload, 1)), rfl⟩
theorem i_La_law_283 {b L : Nat} {xs : Nat → Int32} : ja_At (M_La_law b L xs) 283 (.i2l) 1 284 := ⟨(by decide +kernel : decode code 283 = .ok (.i2l, 1)), rfl⟩
theorem i_La_law_284 {b L : Nat} {xs : Nat → Int32} : ja_At (M_La_law b L xs) 284 (.ldc2_w 50) 3 287 := ⟨(by decide +kernel : decode code 284 = .ok (.ldc2_w 50, 3)), rfl⟩
theorem i_La_law_287 {b L : Nat} {xs : Nat → Int32} : ja_At (M_La_law b L xs) 287 (.land) 1 288 := ⟨(by decide +kernel : decode code 287 = .ok (.land, 1)), rfl⟩
theorem i_La_law_288 {b L : Nat} {xs : Nat → Int32} : ja_At (M_La_law b L xs) 288 (.lor) 1 289 := ⟨(by decide +kernel : decode code 288 = .ok (.lor, 1)), rfl⟩
theorem i_La_law_289 {b L : Nat} {xs : Nat → Int32} : ja_At (M_La_law b L xs) 289 (.invokestatic 68) 3 292 := ⟨(by decide +kernel : decode code 289 = .ok (.invokestatic 68, 3)), rfl⟩
theorem i_La_law_292 {b L : Nat} {xs : Nat → Int32} : ja_At (M_La_law b L xs) 292 (.istore 5) 2 294 := ⟨(by decide +kernel : decode code 292 = .ok (.istore 5, 2)), rfl⟩
theorem i_La_law_294 {b L : Nat} {xs : Nat → Int32} : ja_At (M_La_law b L xs) 294 (.aload_n 2) 1 295 := ⟨(by decide +kernel : decode code 294 = .ok (.aload_n 2, 1)), rfl⟩
theorem i_La_law_295 {b L : Nat} {xs : Nat → Int32} : ja_At (M_La_law b L xs) 295 (.aload_n 0) 1 296 := ⟨(by decide +kernel : decode code 295 = .ok (.aload_n 0, 1)), rfl⟩
theorem i_La_law_296 {b L : Nat} {xs : Nat → Int32} : ja_At (M_La_law b L xs) 296 (.iload 4) 2 298 := ⟨(by decide +kernel : decode code 296 = .ok (.iload 4, 2)), rfl⟩
theorem i_La_law_298 {b L : Nat} {xs : Nat → Int32} : ja_At (M_La_law b L xs) 298 (.iconst 1) 1 299 := ⟨(by decide +kernel : decode code 298 = .ok (.iconst 1, 1)), rfl⟩
theorem i_La_law_299 {b L : Nat} {xs : Nat → Int32} : ja_At (M_La_law b L xs) 299 (.iadd) 1 300 := ⟨(by decide +kernel : decode code 299 = .ok (.iadd, 1)), rfl⟩
theorem i_La_law_300 {b L : Nat} {xs : Nat → Int32} : ja_At (M_La_law b L xs) 300 (.iaload) 1 301 := ⟨(by decide +kernel : decode code 300 = .ok (.iaload, 1)), rfl⟩
theorem i_La_law_301 {b L : Nat} {xs : Nat → Int32} : ja_At (M_La_law b L xs) 301 (.aload_n 0) 1 302 := ⟨(by decide +kernel : decode code 301 = .ok (.aload_n 0, 1)), rfl⟩
theorem i_La_law_302 {b L : Nat} {xs : Nat → Int32} : ja_At (M_La_law b L xs) 302 (.iload 4) 2 304 := ⟨(by decide +kernel : decode code 302 = .ok (.iload 4, 2)), rfl⟩
theorem i_La_law_304 {b L : Nat} {xs : Nat → Int32} : ja_At (M_La_law b L xs) 304 (.iconst 2) 1 305 := ⟨(by decide +kernel : decode code 304 = .ok (.iconst 2, 1)), rfl⟩
theorem i_La_law_305 {b L : Nat} {xs : Nat → Int32} : ja_At (M_La_law b L xs) 305 (.iadd) 1 306 := ⟨(by decide +kernel : decode code 305 = .ok (.iadd, 1)), rfl⟩
theorem i_La_law_306 {b L : Nat} {xs : Nat → Int32} : ja_At (M_La_law b L xs) 306 (.iaload) 1 307 := ⟨(by decide +kernel : decode code 306 = .ok (.iaload, 1)), rfl⟩
theorem i_La_law_307 {b L : Nat} {xs : Nat → Int32} : ja_At (M_La_law b L xs) 307 (.i2l) 1 308 := ⟨(by decide +kernel : decode code 307 = .ok (.i2l, 1)), rfl⟩
theorem i_La_law_308 {b L : Nat} {xs : Nat → Int32} : ja_At (M_La_law b L xs) 308 (.bipush 32) 2 310 := ⟨(by decide +kernel : decode code 308 = .ok (.bipush 32, 2)), rfl⟩
theorem i_La_law_310 {b L : Nat} {xs : Nat → Int32} : ja_At (M_La_law b L xs) 310 (.lshl) 1 311 := ⟨(by decide +kernel : decode code 310 = .ok (.lshl, 1)), rfl⟩
theorem i_La_law_311 {b L : Nat} {xs : Nat → Int32} : ja_At (M_La_law b L xs) 311 (.aload_n 0) 1 312 := ⟨(by decide +kernel : decode code 311 = .ok (.aload_n 0, 1)), rfl⟩
theorem i_La_law_312 {b L : Nat} {xs : Nat → Int32} : ja_At (M_La_law b L xs) 312 (.iload 4) 2 314 := ⟨(by decide +kernel : decode code 312 = .ok (.iload 4, 2)), rfl⟩
theorem i_La_law_314 {b L : Nat} {xs : Nat → Int32} : ja_At (M_La_law b L xs) 314 (.iconst 3) 1 315 := ⟨(by decide +kernel : decode code 314 = .ok (.iconst 3, 1)), rfl⟩
theorem i_La_law_315 {b L : Nat} {xs : Nat → Int32} : ja_At (M_La_law b L xs) 315 (.iadd) 1 316 := ⟨(by decide +kernel : decode code 315 = .ok (.iadd, 1)), rfl⟩
theorem i_La_law_316 {b L : Nat} {xs : Nat → Int32} : ja_At (M_La_law b L xs) 316 (.iaload) 1 317 := ⟨(by decide +kernel : decode code 316 = .ok (.iaload, 1)), rfl⟩
theorem i_La_law_317 {b L : Nat} {xs : Nat → Int32} : ja_At (M_La_law b L xs) 317 (.i2l) 1 318 := ⟨(by decide +kernel : decode code 317 = .ok (.i2l, 1)), rfl⟩
theorem i_La_law_318 {b L : Nat} {xs : Nat → Int32} : ja_At (M_La_law b L xs) 318 (.ldc2_w 50) 3 321 := ⟨(by decide +kernel : decode code 318 = .ok (.ldc2_w 50, 3)), rfl⟩
theorem i_La_law_321 {b L : Nat} {xs : Nat → Int32} : ja_At (M_La_law b L xs) 321 (.land) 1 322 := ⟨(by decide +kernel : decode code 321 = .ok (.land, 1)), rfl⟩
theorem i_La_law_322 {b L : Nat} {xs : Nat → Int32} : ja_At (M_La_law b L xs) 322 (.lor) 1 323 := ⟨(by decide +kernel : decode code 322 = .ok (.lor, 1)), rfl⟩
theorem i_La_law_323 {b L : Nat} {xs : Nat → Int32} : ja_At (M_La_law b L xs) 323 (.invokevirtual 71) 3 326 := ⟨(by decide +kernel : decode code 323 = .ok (.invokevirtual 71, 3)), rfl⟩
theorem i_La_law_326 {b L : Nat} {xs : Nat → Int32} : ja_At (M_La_law b L xs) 326 (.aload_n 2) 1 327 := ⟨(by decide +kernel : decode code 326 = .ok (.aload_n 2, 1)), rfl⟩
theorem i_La_law_327 {b L : Nat} {xs : Nat → Int32} : ja_At (M_La_law b L xs) 327 (.invokevirtual 58) 3 330 := ⟨(by decide +kernel : decode code 327 = .ok (.invokevirtual 58, 3)), rfl⟩
theorem i_La_law_330 {b L : Nat} {xs : Nat → Int32} : ja_At (M_La_law b L xs) 330 (.iload 5) 2 332 := ⟨(by decide +kernel : decode code 330 = .ok (.iload 5, 2)), rfl⟩
theorem i_La_law_332 {b L : Nat} {xs : Nat → Int32} : ja_At (M_La_law b L xs) 332 (.if_icmp .eq 5) 3 335 := ⟨(by decide +kernel : decode code 332 = .ok (.if_icmp .eq 5, 3)), rfl⟩
theorem i_La_law_335 {b L : Nat} {xs : Nat → Int32} : ja_At (M_La_law b L xs) 335 (.iconst 0) 1 336 := ⟨(by decide +kernel : decode code 335 = .ok (.iconst 0, 1)), rfl⟩
theorem i_La_law_336 {b L : Nat} {xs : Nat → Int32} : ja_At (M_La_law b L xs) 336 (.ireturn) 1 337 := ⟨(by decide +kernel : decode code 336 = .ok (.ireturn, 1)), rfl⟩
theorem i_La_law_337 {b L : Nat} {xs : Nat → Int32} : ja_At (M_La_law b L xs) 337 (.goto 238) 3 340 := ⟨(by decide +kernel : decode code 337 = .ok (.goto 238, 3)), rfl⟩
theorem i_La_law_340 {b L : Nat} {xs : Nat → Int32} : ja_At (M_La_law b L xs) 340 (.aload_n 1) 1 341 := ⟨(by decide +kernel : decode code 340 = .ok (.aload_n 1, 1)), rfl⟩
theorem i_La_law_341 {b L : Nat} {xs : Nat → Int32} : ja_At (M_La_law b L xs) 341 (.aload_n 3) 1 342 := ⟨(by decide +kernel : decode code 341 = .ok (.aload_n 3, 1)), rfl⟩
theorem i_La_law_342 {b L : Nat} {xs : Nat → Int32} : ja_At (M_La_law b L xs) 342 (.invokestatic 72) 3 345 := ⟨(by decide +kernel : decode code 342 = .ok (.invokestatic 72, 3)), rfl⟩
theorem i_La_law_345 {b L : Nat} {xs : Nat → Int32} : ja_At (M_La_law b L xs) 345 (.istore 5) 2 347 := ⟨(by decide +kernel : decode code 345 = .ok (.istore 5, 2)), rfl⟩
theorem i_La_law_347 {b L : Nat} {xs : Nat → Int32} : ja_At (M_La_law b L xs) 347 (.aload_n 2) 1 348 := ⟨(by decide +kernel : decode code 347 = .ok (.aload_n 2, 1)), rfl⟩
theorem i_La_law_348 {b L : Nat} {xs : Nat → Int32} : ja_At (M_La_law b L xs) 348 (.invokevirtual 75) 3 351 := ⟨(by decide +kernel : decode code 348 = .ok (.invokevirtual 75, 3)), rfl⟩
theorem i_La_law_351 {b L : Nat} {xs : Nat → Int32} : ja_At (M_La_law b L xs) 351 (.istore 6) 2 353 := ⟨(by decide +kernel : decode code 351 = .ok (.istore 6, 2)), rfl⟩
theorem i_La_law_353 {b L : Nat} {xs : Nat → Int32} : ja_At (M_La_law b L xs) 353 (.aload_n 2) 1 354 := ⟨(by decide +kernel : decode code 353 = .ok (.aload_n 2, 1)), rfl⟩
theorem i_La_law_354 {b L : Nat} {xs : Nat → Int32} : ja_At (M_La_law b L xs) 354 (.invokevirtual 58) 3 357 := ⟨(by decide +kernel : decode code 354 = .ok (.invokevirtual 58, 3)), rfl⟩
theorem i_La_law_357 {b L : Nat} {xs : Nat → Int32} : ja_At (M_La_law b L xs) 357 (.iload 5) 2 359 := ⟨(by decide +kernel : decode code 357 = .ok (.iload 5, 2)), rfl⟩
theorem i_La_law_359 {b L : Nat} {xs : Nat → Int32} : ja_At (M_La_law b L xs) 359 (.if_icmp .eq 5) 3 362 := ⟨(by decide +kernel : decode code 359 = .ok (.if_icmp .eq 5, 3)), rfl⟩
theorem i_La_law_362 {b L : Nat} {xs : Nat → Int32} : ja_At (M_La_law b L xs) 362 (.iconst 0) 1 363 := ⟨(by decide +kernel : decode code 362 = .ok (.iconst 0, 1)), rfl⟩
theorem i_La_law_363 {b L : Nat} {xs : Nat → Int32} : ja_At (M_La_law b L xs) 363 (.ireturn) 1 364 := ⟨(by decide +kernel : decode code 363 = .ok (.ireturn, 1)), rfl⟩
theorem i_La_law_364 {b L : Nat} {xs : Nat → Int32} : ja_At (M_La_law b L xs) 364 (.iload 5) 2 366 := ⟨(by decide +kernel : decode code 364 = .ok (.iload 5, 2)), rfl⟩
theorem i_La_law_366 {b L : Nat} {xs : Nat → Int32} : ja_At (M_La_law b L xs) 366 (.ifCond .ne 15) 3 369 := ⟨(by decide +kernel : decode code 366 = .ok (.ifCond .ne 15, 3)), rfl⟩
theorem i_La_law_369 {b L : Nat} {xs : Nat → Int32} : ja_At (M_La_law b L xs) 369 (.aload_n 3) 1 370 := ⟨(by decide +kernel : decode code 369 = .ok (.aload_n 3, 1)), rfl⟩
theorem i_La_law_370 {b L : Nat} {xs : Nat → Int32} : ja_At (M_La_law b L xs) 370 (.iconst 0) 1 371 := ⟨(by decide +kernel : decode code 370 = .ok (.iconst 0, 1)), rfl⟩
theorem i_La_law_371 {b L : Nat} {xs : Nat → Int32} : ja_At (M_La_law b L xs) 371 (.laload) 1 372 := ⟨(by decide +kernel : decode code 371 = .ok (.laload, 1)), rfl⟩
theorem i_La_law_372 {b L : Nat} {xs : Nat → Int32} : ja_At (M_La_law b L xs) 372 (.iload 6) 2 374 := ⟨(by decide +kernel : decode code 372 = .ok (.iload 6, 2)), rfl⟩
theorem i_La_law_374 {b L : Nat} {xs : Nat → Int32} : ja_At (M_La_law b L xs) 374 (.i2l) 1 375 := ⟨(by decide +kernel : decode code 374 = .ok (.i2l, 1)), rfl⟩
theorem i_La_law_375 {b L : Nat} {xs : Nat → Int32} : ja_At (M_La_law b L xs) 375 (.lcmp) 1 376 := ⟨(by decide +kernel : decode code 375 = .ok (.lcmp, 1)), rfl⟩
theorem i_La_law_376 {b L : Nat} {xs : Nat → Int32} : ja_At (M_La_law b L xs) 376 (.ifCond .eq 5) 3 379 := ⟨(by decide +kernel : decode code 376 = .ok (.ifCond .eq 5, 3)), rfl⟩
theorem i_La_law_379 {b L : Nat} {xs : Nat → Int32} : ja_At (M_La_law b L xs) 379 (.iconst 0) 1 380 := ⟨(by decide +kernel : decode code 379 = .ok (.iconst 0, 1)), rfl⟩
theorem i_La_law_380 {b L : Nat} {xs : Nat → Int32} : ja_At (M_La_law b L xs) 380 (.ireturn) 1 381 := ⟨(by decide +kernel : decode code 380 = .ok (.ireturn, 1)), rfl⟩
theorem i_La_law_381 {b L : Nat} {xs : Nat → Int32} : ja_At (M_La_law b L xs) 381 (.goto 194) 3 384 := ⟨(by decide +kernel : decode code 381 = .ok (.goto 194, 3)), rfl⟩
theorem i_La_law_384 {b L : Nat} {xs : Nat → Int32} : ja_At (M_La_law b L xs) 384 (.aload_n 1) 1 385 := ⟨(by decide +kernel : decode code 384 = .ok (.aload_n 1, 1)), rfl⟩
theorem i_La_law_385 {b L : Nat} {xs : Nat → Int32} : ja_At (M_La_law b L xs) 385 (.invokevirtual 76) 3 388 := ⟨(by decide +kernel : decode code 385 = .ok (.invokevirtual 76, 3)), rfl⟩
theorem i_La_law_388 {b L : Nat} {xs : Nat → Int32} : ja_At (M_La_law b L xs) 388 (.aload_n 2) 1 389 := ⟨(by decide +kernel : decode code 388 = .ok (.aload_n 2, 1)), rfl⟩
theorem i_La_law_389 {b L : Nat} {xs : Nat → Int32} : ja_At (M_La_law b L xs) 389 (.invokevirtual 79) 3 392 := ⟨(by decide +kernel : decode code 389 = .ok (.invokevirtual 79, 3)), rfl⟩
theorem i_La_law_392 {b L : Nat} {xs : Nat → Int32} : ja_At (M_La_law b L xs) 392 (.if_icmp .eq 183) 3 395 := ⟨(by decide +kernel : decode code 392 = .ok (.if_icmp .eq 183, 3)), rfl⟩
theorem i_La_law_395 {b L : Nat} {xs : Nat → Int32} : ja_At (M_La_law b L xs) 395 (.iconst 0) 1 396 := ⟨(by decide +kernel : decode code 395 = .ok (.iconst 0, 1)), rfl⟩
theorem i_La_law_396 {b L : Nat} {xs : Nat → Int32} : ja_At (M_La_law b L xs) 396 (.ireturn) 1 397 := ⟨(by decide +kernel : decode code 396 = .ok (.ireturn, 1)), rfl⟩
theorem i_La_law_397 {b L : Nat} {xs : Nat → Int32} : ja_At (M_La_law b L xs) 397 (.aload_n 1) 1 398 := ⟨(by decide +kernel : decode code 397 = .ok (.aload_n 1, 1)), rfl⟩
theorem i_La_law_398 {b L : Nat} {xs : Nat → Int32} : ja_At (M_La_law b L xs) 398 (.aload_n 0) 1 399 := ⟨(by decide +kernel : decode code 398 = .ok (.aload_n 0, 1)), rfl⟩
theorem i_La_law_399 {b L : Nat} {xs : Nat → Int32} : ja_At (M_La_law b L xs) 399 (.iload 4) 2 401 := ⟨(by decide +kernel : decode code 399 = .ok (.iload 4, 2)), rfl⟩
theorem i_La_law_401 {b L : Nat} {xs : Nat → Int32} : ja_At (M_La_law b L xs) 401 (.iconst 1) 1 402 := ⟨(by decide +kernel : decode code 401 = .ok (.iconst 1, 1)), rfl⟩
theorem i_La_law_402 {b L : Nat} {xs : Nat → Int32} : ja_At (M_La_law b L xs) 402 (.iadd) 1 403 := ⟨(by decide +kernel : decode code 402 = .ok (.iadd, 1)), rfl⟩
theorem i_La_law_403 {b L : Nat} {xs : Nat → Int32} : ja_At (M_La_law b L xs) 403 (.iaload) 1 404 := ⟨(by decide +kernel : decode code 403 = .ok (.iaload, 1)), rfl⟩
theorem i_La_law_404 {b L : Nat} {xs : Nat → Int32} : ja_At (M_La_law b L xs) 404 (.aload_n 0) 1 405 := ⟨(by decide +kernel : decode code 404 = .ok (.aload_n 0, 1)), rfl⟩
theorem i_La_law_405 {b L : Nat} {xs : Nat → Int32} : ja_At (M_La_law b L xs) 405 (.iload 4) 2 407 := ⟨(by decide +kernel : decode code 405 = .ok (.iload 4, 2)), rfl⟩
theorem i_La_law_407 {b L : Nat} {xs : Nat → Int32} : ja_At (M_La_law b L xs) 407 (.iconst 2) 1 408 := ⟨(by decide +kernel : decode code 407 = .ok (.iconst 2, 1)), rfl⟩
theorem i_La_law_408 {b L : Nat} {xs : Nat → Int32} : ja_At (M_La_law b L xs) 408 (.iadd) 1 409 := ⟨(by decide +kernel : decode code 408 = .ok (.iadd, 1)), rfl⟩
theorem i_La_law_409 {b L : Nat} {xs : Nat → Int32} : ja_At (M_La_law b L xs) 409 (.iaload) 1 410 := ⟨(by decide +kernel : decode code 409 = .ok (.iaload, 1)), rfl⟩
theorem i_La_law_410 {b L : Nat} {xs : Nat → Int32} : ja_At (M_La_law b L xs) 410 (.aload_n 0) 1 411 := ⟨(by decide +kernel : decode code 410 = .ok (.aload_n 0, 1)), rfl⟩
theorem i_La_law_411 {b L : Nat} {xs : Nat → Int32} : ja_At (M_La_law b L xs) 411 (.iload 4) 2 413 := ⟨(by decide +kernel : decode code 411 = .ok (.iload 4, 2)), rfl⟩
theorem i_La_law_413 {b L : Nat} {xs : Nat → Int32} : ja_At (M_La_law b L xs) 413 (.iconst 3) 1 414 := ⟨(by decide +kernel : decode code 413 = .ok (.iconst 3, 1)), rfl⟩
theorem i_La_law_414 {b L : Nat} {xs : Nat → Int32} : ja_At (M_La_law b L xs) 414 (.iadd) 1 415 := ⟨(by decide +kernel : decode code 414 = .ok (.iadd, 1)), rfl⟩
theorem i_La_law_415 {b L : Nat} {xs : Nat → Int32} : ja_At (M_La_law b L xs) 415 (.iaload) 1 416 := ⟨(by decide +kernel : decode code 415 = .ok (.iaload, 1)), rfl⟩
theorem i_La_law_416 {b L : Nat} {xs : Nat → Int32} : ja_At (M_La_law b L xs) 416 (.aload_n 3) 1 417 := ⟨(by decide +kernel : decode code 416 = .ok (.aload_n 3, 1)), rfl⟩
theorem i_La_law_417 {b L : Nat} {xs : Nat → Int32} : ja_At (M_La_law b L xs) 417 (.invokestatic 80) 3 420 := ⟨(by decide +kernel : decode code 417 = .ok (.invokestatic 80, 3)), rfl⟩
theorem i_La_law_420 {b L : Nat} {xs : Nat → Int32} : ja_At (M_La_law b L xs) 420 (.istore 5) 2 422 := ⟨(by decide +kernel : decode code 420 = .ok (.istore 5, 2)), rfl⟩
theorem i_La_law_422 {b L : Nat} {xs : Nat → Int32} : ja_At (M_La_law b L xs) 422 (.aload_n 2) 1 423 := ⟨(by decide +kernel : decode code 422 = .ok (.aload_n 2, 1)), rfl⟩
theorem i_La_law_423 {b L : Nat} {xs : Nat → Int32} : ja_At (M_La_law b L xs) 423 (.aload_n 0) 1 424 := ⟨(by decide +kernel : decode code 423 = .ok (.aload_n 0, 1)), rfl⟩
theorem i_La_law_424 {b L : Nat} {xs : Nat → Int32} : ja_At (M_La_law b L xs) 424 (.iload 4) 2 426 := ⟨(by decide +kernel : decode code 424 = .ok (.iload 4, 2)), rfl⟩
theorem i_La_law_426 {b L : Nat} {xs : Nat → Int32} : ja_At (M_La_law b L xs) 426 (.iconst 1) 1 427 := ⟨(by decide +kernel : decode code 426 = .ok (.iconst 1, 1)), rfl⟩
theorem i_La_law_427 {b L : Nat} {xs : Nat → Int32} : ja_At (M_La_law b L xs) 427 (.iadd) 1 428 := ⟨(by decide +kernel : decode code 427 = .ok (.iadd, 1)), rfl⟩
theorem i_La_law_428 {b L : Nat} {xs : Nat → Int32} : ja_At (M_La_law b L xs) 428 (.iaload) 1 429 := ⟨(by decide +kernel : decode code 428 = .ok (.iaload, 1)), rfl⟩
theorem i_La_law_429 {b L : Nat} {xs : Nat → Int32} : ja_At (M_La_law b L xs) 429 (.aload_n 0) 1 430 := ⟨(by decide +kernel : decode code 429 = .ok (.aload_n 0, 1)), rfl⟩
theorem i_La_law_430 {b L : Nat} {xs : Nat → Int32} : ja_At (M_La_law b L xs) 430 (.iload 4) 2 432 := ⟨(by decide +kernel : decode code 430 = .ok (.iload 4, 2)), rfl⟩
theorem i_La_law_432 {b L : Nat} {xs : Nat → Int32} : ja_At (M_La_law b L xs) 432 (.iconst 2) 1 433 := ⟨(by decide +kernel : decode code 432 = .ok (.iconst 2, 1)), rfl⟩
theorem i_La_law_433 {b L : Nat} {xs : Nat → Int32} : ja_At (M_La_law b L xs) 433 (.iadd) 1 434 := ⟨(by decide +kernel : decode code 433 = .ok (.iadd, 1)), rfl⟩
theorem i_La_law_434 {b L : Nat} {xs : Nat → Int32} : ja_At (M_La_law b L xs) 434 (.iaload) 1 435 := ⟨(by decide +kernel : decode code 434 = .ok (.iaload, 1)), rfl⟩
theorem i_La_law_435 {b L : Nat} {xs : Nat → Int32} : ja_At (M_La_law b L xs) 435 (.aload_n 0) 1 436 := ⟨(by decide +kernel : decode code 435 = .ok (.aload_n 0, 1)), rfl⟩
theorem i_La_law_436 {b L : Nat} {xs : Nat → Int32} : ja_At (M_La_law b L xs) 436 (.iload 4) 2 438 := ⟨(by decide +kernel : decode code 436 = .ok (.iload 4, 2)), rfl⟩
theorem i_La_law_438 {b L : Nat} {xs : Nat → Int32} : ja_At (M_La_law b L xs) 438 (.iconst 3) 1 439 := ⟨(by decide +kernel : decode code 438 = .ok (.iconst 3, 1)), rfl⟩
theorem i_La_law_439 {b L : Nat} {xs : Nat → Int32} : ja_At (M_La_law b L xs) 439 (.iadd) 1 440 := ⟨(by decide +kernel : decode code 439 = .ok (.iadd, 1)), rfl⟩
theorem i_La_law_440 {b L : Nat} {xs : Nat → Int32} : ja_At (M_La_law b L xs) 440 (.iaload) 1 441 := ⟨(by decide +kernel : decode code 440 = .ok (.iaload, 1)), rfl⟩
theorem i_La_law_441 {b L : Nat} {xs : Nat → Int32} : ja_At (M_La_law b L xs) 441 (.invokevirtual 83) 3 444 := ⟨(by decide +kernel : decode code 441 = .ok (.invokevirtual 83, 3)), rfl⟩
theorem i_La_law_444 {b L : Nat} {xs : Nat → Int32} : ja_At (M_La_law b L xs) 444 (.lstore 6) 2 446 := ⟨(by decide +kernel : decode code 444 = .ok (.lstore 6, 2)), rfl⟩
theorem i_La_law_446 {b L : Nat} {xs : Nat → Int32} : ja_At (M_La_law b L xs) 446 (.aload_n 2) 1 447 := ⟨(by decide +kernel : decode code 446 = .ok (.aload_n 2, 1)), rfl⟩
theorem i_La_law_447 {b L : Nat} {xs : Nat → Int32} : ja_At (M_La_law b L xs) 447 (.invokevirtual 58) 3 450 := ⟨(by decide +kernel : decode code 447 = .ok (.invokevirtual 58, 3)), rfl⟩
theorem i_La_law_450 {b L : Nat} {xs : Nat → Int32} : ja_At (M_La_law b L xs) 450 (.iload 5) 2 452 := ⟨(by decide +kernel : decode code 450 = .ok (.iload 5, 2)), rfl⟩
theorem i_La_law_452 {b L : Nat} {xs : Nat → Int32} : ja_At (M_La_law b L xs) 452 (.if_icmp .eq 5) 3 455 := ⟨(by decide +kernel : decode code 452 = .ok (.if_icmp .eq 5, 3)), rfl⟩
theorem i_La_law_455 {b L : Nat} {xs : Nat → Int32} : ja_At (M_La_law b L xs) 455 (.iconst 0) 1 456 := ⟨(by decide +kernel : decode code 455 = .ok (.iconst 0, 1)), rfl⟩
theorem i_La_law_456 {b L : Nat} {xs : Nat → Int32} : ja_At (M_La_law b L xs) 456 (.ireturn) 1 457 := ⟨(by decide +kernel : decode code 456 = .ok (.ireturn, 1)), rfl⟩
theorem i_La_law_457 {b L : Nat} {xs : Nat → Int32} : ja_At (M_La_law b L xs) 457 (.iload 5) 2 459 := ⟨(by decide +kernel : decode code 457 = .ok (.iload 5, 2)), rfl⟩
theorem i_La_law_459 {b L : Nat} {xs : Nat → Int32} : ja_At (M_La_law b L xs) 459 (.ifCond .ne 14) 3 462 := ⟨(by decide +kernel : decode code 459 = .ok (.ifCond .ne 14, 3)), rfl⟩
theorem i_La_law_462 {b L : Nat} {xs : Nat → Int32} : ja_At (M_La_law b L xs) 462 (.aload_n 3) 1 463 := ⟨(by decide +kernel : decode code 462 = .ok (.aload_n 3, 1)), rfl⟩
theorem i_La_law_463 {b L : Nat} {xs : Nat → Int32} : ja_At (M_La_law b L xs) 463 (.iconst 0) 1 464 := ⟨(by decide +kernel : decode code 463 = .ok (.iconst 0, 1)), rfl⟩
theorem i_La_law_464 {b L : Nat} {xs : Nat → Int32} : ja_At (M_La_law b L xs) 464 (.laload) 1 465 := ⟨(by decide +kernel : decode code 464 = .ok (.laload, 1)), rfl⟩
theorem i_La_law_465 {b L : Nat} {xs : Nat → Int32} : ja_At (M_La_law b L xs) 465 (.lload 6) 2 467 := ⟨(by decide +kernel : decode code 465 = .ok (.lload 6, 2)), rfl⟩
theorem i_La_law_467 {b L : Nat} {xs : Nat → Int32} : ja_At (M_La_law b L xs) 467 (.lcmp) 1 468 := ⟨(by decide +kernel : decode code 467 = .ok (.lcmp, 1)), rfl⟩
theorem i_La_law_468 {b L : Nat} {xs : Nat → Int32} : ja_At (M_La_law b L xs) 468 (.ifCond .eq 5) 3 471 := ⟨(by decide +kernel : decode code 468 = .ok (.ifCond .eq 5, 3)), rfl⟩
theorem i_La_law_471 {b L : Nat} {xs : Nat → Int32} : ja_At (M_La_law b L xs) 471 (.iconst 0) 1 472 := ⟨(by decide +kernel : decode code 471 = .ok (.iconst 0, 1)), rfl⟩
theorem i_La_law_472 {b L : Nat} {xs : Nat → Int32} : ja_At (M_La_law b L xs) 472 (.ireturn) 1 473 := ⟨(by decide +kernel : decode code 472 = .ok (.ireturn, 1)), rfl⟩
theorem i_La_law_473 {b L : Nat} {xs : Nat → Int32} : ja_At (M_La_law b L xs) 473 (.goto 102) 3 476 := ⟨(by decide +kernel : decode code 473 = .ok (.goto 102, 3)), rfl⟩
theorem i_La_law_476 {b L : Nat} {xs : Nat → Int32} : ja_At (M_La_law b L xs) 476 (.aload_n 1) 1 477 := ⟨(by decide +kernel : decode code 476 = .ok (.aload_n 1, 1)), rfl⟩
theorem i_La_law_477 {b L : Nat} {xs : Nat → Int32} : ja_At (M_La_law b L xs) 477 (.aload_n 3) 1 478 := ⟨(by decide +kernel : decode code 477 = .ok (.aload_n 3, 1)), rfl⟩
theorem i_La_law_478 {b L : Nat} {xs : Nat → Int32} : ja_At (M_La_law b L xs) 478 (.invokestatic 84) 3 481 := ⟨(by decide +kernel : decode code 478 = .ok (.invokestatic 84, 3)), rfl⟩
theorem i_La_law_481 {b L : Nat} {xs : Nat → Int32} : ja_At (M_La_law b L xs) 481 (.istore 5) 2 483 := ⟨(by decide +kernel : decode code 481 = .ok (.istore 5, 2)), rfl⟩
theorem i_La_law_483 {b L : Nat} {xs : Nat → Int32} : ja_At (M_La_law b L xs) 483 (.aload_n 2) 1 484 := ⟨(by decide +kernel : decode code 483 = .ok (.aload_n 2, 1)), rfl⟩
theorem i_La_law_484 {b L : Nat} {xs : Nat → Int32} : ja_At (M_La_law b L xs) 484 (.invokevirtual 86) 3 487 := ⟨(by decide +kernel : decode code 484 = .ok (.invokevirtual 86, 3)), rfl⟩
theorem i_La_law_487 {b L : Nat} {xs : Nat → Int32} : ja_At (M_La_law b L xs) 487 (.lstore 6) 2 489 := ⟨(by decide +kernel : decode code 487 = .ok (.lstore 6, 2)), rfl⟩
theorem i_La_law_489 {b L : Nat} {xs : Nat → Int32} : ja_At (M_La_law b L xs) 489 (.aload_n 2) 1 490 := ⟨(by decide +kernel : decode code 489 = .ok (.aload_n 2, 1)), rfl⟩
theorem i_La_law_490 {b L : Nat} {xs : Nat → Int32} : ja_At (M_La_law b L xs) 490 (.invokevirtual 58) 3 493 := ⟨(by decide +kernel : decode code 490 = .ok (.invokevirtual 58, 3)), rfl⟩
theorem i_La_law_493 {b L : Nat} {xs : Nat → Int32} : ja_At (M_La_law b L xs) 493 (.iload 5) 2 495 := ⟨(by decide +kernel : decode code 493 = .ok (.iload 5, 2)), rfl⟩
theorem i_La_law_495 {b L : Nat} {xs : Nat → Int32} : ja_At (M_La_law b L xs) 495 (.if_icmp .eq 5) 3 498 := ⟨(by decide +kernel : decode code 495 = .ok (.if_icmp .eq 5, 3)), rfl⟩
theorem i_La_law_498 {b L : Nat} {xs : Nat → Int32} : ja_At (M_La_law b L xs) 498 (.iconst 0) 1 499 := ⟨(by decide +kernel : decode code 498 = .ok (.iconst 0, 1)), rfl⟩
theorem i_La_law_499 {b L : Nat} {xs : Nat → Int32} : ja_At (M_La_law b L xs) 499 (.ireturn) 1 500 := ⟨(by decide +kernel : decode code 499 = .ok (.ireturn, 1)), rfl⟩
theorem i_La_law_500 {b L : Nat} {xs : Nat → Int32} : ja_At (M_La_law b L xs) 500 (.iload 5) 2 502 := ⟨(by decide +kernel : decode code 500 = .ok (.iload 5, 2)), rfl⟩
theorem i_La_law_502 {b L : Nat} {xs : Nat → Int32} : ja_At (M_La_law b L xs) 502 (.ifCond .ne 14) 3 505 := ⟨(by decide +kernel : decode code 502 = .ok (.ifCond .ne 14, 3)), rfl⟩
theorem i_La_law_505 {b L : Nat} {xs : Nat → Int32} : ja_At (M_La_law b L xs) 505 (.aload_n 3) 1 506 := ⟨(by decide +kernel : decode code 505 = .ok (.aload_n 3, 1)), rfl⟩
theorem i_La_law_506 {b L : Nat} {xs : Nat → Int32} : ja_At (M_La_law b L xs) 506 (.iconst 0) 1 507 := ⟨(by decide +kernel : decode code 506 = .ok (.iconst 0, 1)), rfl⟩
theorem i_La_law_507 {b L : Nat} {xs : Nat → Int32} : ja_At (M_La_law b L xs) 507 (.laload) 1 508 := ⟨(by decide +kernel : decode code 507 = .ok (.laload, 1)), rfl⟩
theorem i_La_law_508 {b L : Nat} {xs : Nat → Int32} : ja_At (M_La_law b L xs) 508 (.lload 6) 2 510 := ⟨(by decide +kernel : decode code 508 = .ok (.lload 6, 2)), rfl⟩
theorem i_La_law_510 {b L : Nat} {xs : Nat → Int32} : ja_At (M_La_law b L xs) 510 (.lcmp) 1 511 := ⟨(by decide +kernel : decode code 510 = .ok (.lcmp, 1)), rfl⟩
theorem i_La_law_511 {b L : Nat} {xs : Nat → Int32} : ja_At (M_La_law b L xs) 511 (.ifCond .eq 5) 3 514 := ⟨(by decide +kernel : decode code 511 = .ok (.ifCond .eq 5, 3)), rfl⟩
theorem i_La_law_514 {b L : Nat} {xs : Nat → Int32} : ja_At (M_La_law b L xs) 514 (.iconst 0) 1 515 := ⟨(by decide +kernel : decode code 514 = .ok (.iconst 0, 1)), rfl⟩
theorem i_La_law_515 {b L : Nat} {xs : Nat → Int32} : ja_At (M_La_law b L xs) 515 (.ireturn) 1 516 := ⟨(by decide +kernel : decode code 515 = .ok (.ireturn, 1)), rfl⟩
theorem i_La_law_516 {b L : Nat} {xs : Nat → Int32} : ja_At (M_La_law b L xs) 516 (.goto 59) 3 519 := ⟨(by decide +kernel : decode code 516 = .ok (.goto 59, 3)), rfl⟩
theorem i_La_law_519 {b L : Nat} {xs : Nat → Int32} : ja_At (M_La_law b L xs) 519 (.aload_n 1) 1 520 := ⟨(by decide +kernel : decode code 519 = .ok (.aload_n 1, 1)), rfl⟩
theorem i_La_law_520 {b L : Nat} {xs : Nat → Int32} : ja_At (M_La_law b L xs) 520 (.aload_n 0) 1 521 := ⟨(by decide +kernel : decode code 520 = .ok (.aload_n 0, 1)), rfl⟩
theorem i_La_law_521 {b L : Nat} {xs : Nat → Int32} : ja_At (M_La_law b L xs) 521 (.iload 4) 2 523 := ⟨(by decide +kernel : decode code 521 = .ok (.iload 4, 2)), rfl⟩
theorem i_La_law_523 {b L : Nat} {xs : Nat → Int32} : ja_At (M_La_law b L xs) 523 (.iconst 1) 1 524 := ⟨(by decide +kernel : decode code 523 = .ok (.iconst 1, 1)), rfl⟩
theorem i_La_law_524 {b L : Nat} {xs : Nat → Int32} : ja_At (M_La_law b L xs) 524 (.iadd) 1 525 := ⟨(by decide +kernel : decode code 524 = .ok (.iadd, 1)), rfl⟩
theorem i_La_law_525 {b L : Nat} {xs : Nat → Int32} : ja_At (M_La_law b L xs) 525 (.iaload) 1 526 := ⟨(by decide +kernel : decode code 525 = .ok (.iaload, 1)), rfl⟩
theorem i_La_law_526 {b L : Nat} {xs : Nat → Int32} : ja_At (M_La_law b L xs) 526 (.aload_n 3) 1 527 := ⟨(by decide +kernel : decode code 526 = .ok (.aload_n 3, 1)), rfl⟩
theorem i_La_law_527 {b L : Nat} {xs : Nat → Int32} : ja_At (M_La_law b L xs) 527 (.invokestatic 87) 3 530 := ⟨(by decide +kernel : decode code 527 = .ok (.invokestatic 87, 3)), rfl⟩
theorem i_La_law_530 {b L : Nat} {xs : Nat → Int32} : ja_At (M_La_law b L xs) 530 (.istore 5) 2 532 := ⟨(by decide +kernel : decode code 530 = .ok (.istore 5, 2)), rfl⟩
theorem i_La_law_532 {b L : Nat} {xs : Nat → Int32} : ja_At (M_La_law b L xs) 532 (.aload_n 2) 1 533 := ⟨(by decide +kernel : decode code 532 = .ok (.aload_n 2, 1)), rfl⟩
theorem i_La_law_533 {b L : Nat} {xs : Nat → Int32} : ja_At (M_La_law b L xs) 533 (.aload_n 0) 1 534 := ⟨(by decide +kernel : decode code 533 = .ok (.aload_n 0, 1)), rfl⟩
theorem i_La_law_534 {b L : Nat} {xs : Nat → Int32} : ja_At (M_La_law b L xs) 534 (.iload 4) 2 536 := ⟨(by decide +kernel : decode code 534 = .ok (.iload 4, 2)), rfl⟩
theorem i_La_law_536 {b L : Nat} {xs : Nat → Int32} : ja_At (M_La_law b L xs) 536 (.iconst 1) 1 537 := ⟨(by decide +kernel : decode code 536 = .ok (.iconst 1, 1)), rfl⟩
theorem i_La_law_537 {b L : Nat} {xs : Nat → Int32} : ja_At (M_La_law b L xs) 537 (.iadd) 1 538 := ⟨(by decide +kernel : decode code 537 = .ok (.iadd, 1)), rfl⟩
theorem i_La_law_538 {b L : Nat} {xs : Nat → Int32} : ja_At (M_La_law b L xs) 538 (.iaload) 1 539 := ⟨(by decide +kernel : decode code 538 = .ok (.iaload, 1)), rfl⟩
theorem i_La_law_539 {b L : Nat} {xs : Nat → Int32} : ja_At (M_La_law b L xs) 539 (.invokevirtual 90) 3 542 := ⟨(by decide +kernel : decode code 539 = .ok (.invokevirtual 90, 3)), rfl⟩
theorem i_La_law_542 {b L : Nat} {xs : Nat → Int32} : ja_At (M_La_law b L xs) 542 (.istore 6) 2 544 := ⟨(by decide +kernel : decode code 542 = .ok (.istore 6, 2)), rfl⟩
theorem i_La_law_544 {b L : Nat} {xs : Nat → Int32} : ja_At (M_La_law b L xs) 544 (.aload_n 2) 1 545 := ⟨(by decide +kernel : decode code 544 = .ok (.aload_n 2, 1)), rfl⟩
theorem i_La_law_545 {b L : Nat} {xs : Nat → Int32} : ja_At (M_La_law b L xs) 545 (.invokevirtual 58) 3 548 := ⟨(by decide +kernel : decode code 545 = .ok (.invokevirtual 58, 3)), rfl⟩
theorem i_La_law_548 {b L : Nat} {xs : Nat → Int32} : ja_At (M_La_law b L xs) 548 (.iload 5) 2 550 := ⟨(by decide +kernel : decode code 548 = .ok (.iload 5, 2)), rfl⟩
theorem i_La_law_550 {b L : Nat} {xs : Nat → Int32} : ja_At (M_La_law b L xs) 550 (.if_icmp .eq 5) 3 553 := ⟨(by decide +kernel : decode code 550 = .ok (.if_icmp .eq 5, 3)), rfl⟩
theorem i_La_law_553 {b L : Nat} {xs : Nat → Int32} : ja_At (M_La_law b L xs) 553 (.iconst 0) 1 554 := ⟨(by decide +kernel : decode code 553 = .ok (.iconst 0, 1)), rfl⟩
theorem i_La_law_554 {b L : Nat} {xs : Nat → Int32} : ja_At (M_La_law b L xs) 554 (.ireturn) 1 555 := ⟨(by decide +kernel : decode code 554 = .ok (.ireturn, 1)), rfl⟩
theorem i_La_law_555 {b L : Nat} {xs : Nat → Int32} : ja_At (M_La_law b L xs) 555 (.iload 5) 2 557 := ⟨(by decide +kernel : decode code 555 = .ok (.iload 5, 2)), rfl⟩
theorem i_La_law_557 {b L : Nat} {xs : Nat → Int32} : ja_At (M_La_law b L xs) 557 (.ifCond .ne 15) 3 560 := ⟨(by decide +kernel : decode code 557 = .ok (.ifCond .ne 15, 3)), rfl⟩
theorem i_La_law_560 {b L : Nat} {xs : Nat → Int32} : ja_At (M_La_law b L xs) 560 (.aload_n 3) 1 561 := ⟨(by decide +kernel : decode code 560 = .ok (.aload_n 3, 1)), rfl⟩
theorem i_La_law_561 {b L : Nat} {xs : Nat → Int32} : ja_At (M_La_law b L xs) 561 (.iconst 0) 1 562 := ⟨(by decide +kernel : decode code 561 = .ok (.iconst 0, 1)), rfl⟩
theorem i_La_law_562 {b L : Nat} {xs : Nat → Int32} : ja_At (M_La_law b L xs) 562 (.laload) 1 563 := ⟨(by decide +kernel : decode code 562 = .ok (.laload, 1)), rfl⟩
theorem i_La_law_563 {b L : Nat} {xs : Nat → Int32} : ja_At (M_La_law b L xs) 563 (.iload 6) 2 565 := ⟨(by decide +kernel : decode code 563 = .ok (.iload 6, 2)), rfl⟩
theorem i_La_law_565 {b L : Nat} {xs : Nat → Int32} : ja_At (M_La_law b L xs) 565 (.i2l) 1 566 := ⟨(by decide +kernel : decode code 565 = .ok (.i2l, 1)), rfl⟩
theorem i_La_law_566 {b L : Nat} {xs : Nat → Int32} : ja_At (M_La_law b L xs) 566 (.lcmp) 1 567 := ⟨(by decide +kernel : decode code 566 = .ok (.lcmp, 1)), rfl⟩
theorem i_La_law_567 {b L : Nat} {xs : Nat → Int32} : ja_At (M_La_law b L xs) 567 (.ifCond .eq 5) 3 570 := ⟨(by decide +kernel : decode code 567 = .ok (.ifCond .eq 5, 3)), rfl⟩
theorem i_La_law_570 {b L : Nat} {xs : Nat → Int32} : ja_At (M_La_law b L xs) 570 (.iconst 0) 1 571 := ⟨(by decide +kernel : decode code 570 = .ok (.iconst 0, 1)), rfl⟩
theorem i_La_law_571 {b L : Nat} {xs : Nat → Int32} : ja_At (M_La_law b L xs) 571 (.ireturn) 1 572 := ⟨(by decide +kernel : decode code 571 = .ok (.ireturn, 1)), rfl⟩
theorem i_La_law_572 {b L : Nat} {xs : Nat → Int32} : ja_At (M_La_law b L xs) 572 (.goto 3) 3 575 := ⟨(by decide +kernel : decode code 572 = .ok (.goto 3, 3)), rfl⟩
theorem i_La_law_575 {b L : Nat} {xs : Nat → Int32} : ja_At (M_La_law b L xs) 575 (.iinc 4 4) 3 578 := ⟨(by decide +kernel : decode code 575 = .ok (.iinc 4 4, 3)), rfl⟩
theorem i_La_law_578 {b L : Nat} {xs : Nat → Int32} : ja_At (M_La_law b L xs) 578 (.goto (-555)) 3 581 := ⟨(by decide +kernel : decode code 578 = .ok (.goto (-555), 3)), rfl⟩
theorem i_La_law_581 {b L : Nat} {xs : Nat → Int32} : ja_At (M_La_law b L xs) 581 (.iconst 1) 1 582 := ⟨(by decide +kernel : decode code 581 = .ok (.iconst 1, 1)), rfl⟩
theorem i_La_law_582 {b L : Nat} {xs : Nat → Int32} : ja_At (M_La_law b L xs) 582 (.ireturn) 1 583 := ⟨(by decide +kernel : decode code 582 = .ok (.ireturn, 1)), rfl⟩
