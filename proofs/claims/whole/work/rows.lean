section
-- ===== PART A: goes FIRST, ahead of the names: the tables' words, and 'selects' of the private methods out of them =====
def lw_okq (q : MethodName × Nat) : Prop := (q.1.cls ≠ "java/lang/invoke/MethodHandle" ∧ q.1.cls ≠ "java/lang/invoke/VarHandle") ∧ Cond.instantiable q.1.cls q.2 ∈ tables_1 ∧ Cond.privateMethod q.1 ∈ tables_1 ∧ Cond.instanceMethod q.1 ∈ tables_1
theorem lw_p0 : lw_okq (⟨"java/lang/Throwable", "fillInStackTrace", "(I)Ljava/lang/Throwable;"⟩, 6) := ⟨⟨by decide +kernel, by decide +kernel⟩, List.mem_of_getElem? (i := 328) (by decide +kernel), List.mem_of_getElem? (i := 326) (by decide +kernel), List.mem_of_getElem? (i := 327) (by decide +kernel)⟩
theorem lw_p1 : lw_okq (⟨"WordJudge$Form", "markSeconds", "(LWordJudge$Code;)V"⟩, 3) := ⟨⟨by decide +kernel, by decide +kernel⟩, List.mem_of_getElem? (i := 65) (by decide +kernel), List.mem_of_getElem? (i := 446) (by decide +kernel), List.mem_of_getElem? (i := 447) (by decide +kernel)⟩
theorem lw_p2 : lw_okq (⟨"WordJudge$Word", "findSort", "()I"⟩, 7) := ⟨⟨by decide +kernel, by decide +kernel⟩, List.mem_of_getElem? (i := 71) (by decide +kernel), List.mem_of_getElem? (i := 458) (by decide +kernel), List.mem_of_getElem? (i := 459) (by decide +kernel)⟩
theorem lw_p3 : lw_okq (⟨"WordJudge$Word", "movesOctets", "()Z"⟩, 7) := ⟨⟨by decide +kernel, by decide +kernel⟩, List.mem_of_getElem? (i := 71) (by decide +kernel), List.mem_of_getElem? (i := 462) (by decide +kernel), List.mem_of_getElem? (i := 463) (by decide +kernel)⟩
theorem lw_p4 : lw_okq (⟨"WordJudge$Word", "reckons", "()Z"⟩, 7) := ⟨⟨by decide +kernel, by decide +kernel⟩, List.mem_of_getElem? (i := 71) (by decide +kernel), List.mem_of_getElem? (i := 466) (by decide +kernel), List.mem_of_getElem? (i := 467) (by decide +kernel)⟩
theorem lw_p5 : lw_okq (⟨"WordJudge$Word", "findSortOfGoing", "()I"⟩, 7) := ⟨⟨by decide +kernel, by decide +kernel⟩, List.mem_of_getElem? (i := 71) (by decide +kernel), List.mem_of_getElem? (i := 470) (by decide +kernel), List.mem_of_getElem? (i := 471) (by decide +kernel)⟩
theorem lw_p6 : lw_okq (⟨"WordJudge$Form", "examineWord", "(LWordJudge$Code;I)I"⟩, 3) := ⟨⟨by decide +kernel, by decide +kernel⟩, List.mem_of_getElem? (i := 65) (by decide +kernel), List.mem_of_getElem? (i := 474) (by decide +kernel), List.mem_of_getElem? (i := 475) (by decide +kernel)⟩
theorem lw_p7 : lw_okq (⟨"WordJudge$Form", "hasUnusedNotZero", "()Z"⟩, 3) := ⟨⟨by decide +kernel, by decide +kernel⟩, List.mem_of_getElem? (i := 65) (by decide +kernel), List.mem_of_getElem? (i := 482) (by decide +kernel), List.mem_of_getElem? (i := 483) (by decide +kernel)⟩
theorem lw_p8 : lw_okq (⟨"WordJudge$Form", "isGoal", "(LWordJudge$Code;I)Z"⟩, 3) := ⟨⟨by decide +kernel, by decide +kernel⟩, List.mem_of_getElem? (i := 65) (by decide +kernel), List.mem_of_getElem? (i := 520) (by decide +kernel), List.mem_of_getElem? (i := 521) (by decide +kernel)⟩
theorem lw_p9 : lw_okq (⟨"WordJudge$Judge", "begin", "(II)V"⟩, 10) := ⟨⟨by decide +kernel, by decide +kernel⟩, List.mem_of_getElem? (i := 132) (by decide +kernel), List.mem_of_getElem? (i := 528) (by decide +kernel), List.mem_of_getElem? (i := 529) (by decide +kernel)⟩
theorem lw_p10 : lw_okq (⟨"WordJudge$Judge", "flowTo", "(I)V"⟩, 10) := ⟨⟨by decide +kernel, by decide +kernel⟩, List.mem_of_getElem? (i := 132) (by decide +kernel), List.mem_of_getElem? (i := 542) (by decide +kernel), List.mem_of_getElem? (i := 543) (by decide +kernel)⟩
theorem lw_p11 : lw_okq (⟨"WordJudge$State", "joinCell", "(ILWordJudge$State;)V"⟩, 5) := ⟨⟨by decide +kernel, by decide +kernel⟩, List.mem_of_getElem? (i := 139) (by decide +kernel), List.mem_of_getElem? (i := 550) (by decide +kernel), List.mem_of_getElem? (i := 551) (by decide +kernel)⟩
theorem lw_p12 : lw_okq (⟨"WordJudge$State", "points", "(I)Z"⟩, 5) := ⟨⟨by decide +kernel, by decide +kernel⟩, List.mem_of_getElem? (i := 139) (by decide +kernel), List.mem_of_getElem? (i := 560) (by decide +kernel), List.mem_of_getElem? (i := 561) (by decide +kernel)⟩
theorem lw_p13 : lw_okq (⟨"WordJudge$State", "clear", "(I)V"⟩, 5) := ⟨⟨by decide +kernel, by decide +kernel⟩, List.mem_of_getElem? (i := 139) (by decide +kernel), List.mem_of_getElem? (i := 564) (by decide +kernel), List.mem_of_getElem? (i := 565) (by decide +kernel)⟩
theorem lw_p14 : lw_okq (⟨"WordJudge$Judge", "examineWord", "(IJ)I"⟩, 10) := ⟨⟨by decide +kernel, by decide +kernel⟩, List.mem_of_getElem? (i := 132) (by decide +kernel), List.mem_of_getElem? (i := 581) (by decide +kernel), List.mem_of_getElem? (i := 582) (by decide +kernel)⟩
theorem lw_p15 : lw_okq (⟨"WordJudge$Judge", "loadRight", "()V"⟩, 10) := ⟨⟨by decide +kernel, by decide +kernel⟩, List.mem_of_getElem? (i := 132) (by decide +kernel), List.mem_of_getElem? (i := 593) (by decide +kernel), List.mem_of_getElem? (i := 594) (by decide +kernel)⟩
def lw_privs_1 : List (MethodName × Nat) := [(⟨"java/lang/Throwable", "fillInStackTrace", "(I)Ljava/lang/Throwable;"⟩, 6), (⟨"WordJudge$Form", "markSeconds", "(LWordJudge$Code;)V"⟩, 3), (⟨"WordJudge$Word", "findSort", "()I"⟩, 7), (⟨"WordJudge$Word", "movesOctets", "()Z"⟩, 7), (⟨"WordJudge$Word", "reckons", "()Z"⟩, 7), (⟨"WordJudge$Word", "findSortOfGoing", "()I"⟩, 7), (⟨"WordJudge$Form", "examineWord", "(LWordJudge$Code;I)I"⟩, 3), (⟨"WordJudge$Form", "hasUnusedNotZero", "()Z"⟩, 3), (⟨"WordJudge$Form", "isGoal", "(LWordJudge$Code;I)Z"⟩, 3), (⟨"WordJudge$Judge", "begin", "(II)V"⟩, 10), (⟨"WordJudge$Judge", "flowTo", "(I)V"⟩, 10), (⟨"WordJudge$State", "joinCell", "(ILWordJudge$State;)V"⟩, 5), (⟨"WordJudge$State", "points", "(I)Z"⟩, 5), (⟨"WordJudge$State", "clear", "(I)V"⟩, 5), (⟨"WordJudge$Judge", "examineWord", "(IJ)I"⟩, 10), (⟨"WordJudge$Judge", "loadRight", "()V"⟩, 10)]
theorem lw_r1 : ∀ q ∈ lw_privs_1, lw_okq q := List.forall_mem_cons.mpr ⟨lw_p0, List.forall_mem_cons.mpr ⟨lw_p1, List.forall_mem_cons.mpr ⟨lw_p2, List.forall_mem_cons.mpr ⟨lw_p3, List.forall_mem_cons.mpr ⟨lw_p4, List.forall_mem_cons.mpr ⟨lw_p5, List.forall_mem_cons.mpr ⟨lw_p6, List.forall_mem_cons.mpr ⟨lw_p7, List.forall_mem_cons.mpr ⟨lw_p8, List.forall_mem_cons.mpr ⟨lw_p9, List.forall_mem_cons.mpr ⟨lw_p10, List.forall_mem_cons.mpr ⟨lw_p11, List.forall_mem_cons.mpr ⟨lw_p12, List.forall_mem_cons.mpr ⟨lw_p13, List.forall_mem_cons.mpr ⟨lw_p14, List.forall_mem_cons.mpr ⟨lw_p15, fun _ h => absurd h List.not_mem_nil⟩⟩⟩⟩⟩⟩⟩⟩⟩⟩⟩⟩⟩⟩⟩⟩
theorem lw_p16 : lw_okq (⟨"WordJudge$Judge", "examineCondition", "(I)I"⟩, 10) := ⟨⟨by decide +kernel, by decide +kernel⟩, List.mem_of_getElem? (i := 132) (by decide +kernel), List.mem_of_getElem? (i := 607) (by decide +kernel), List.mem_of_getElem? (i := 608) (by decide +kernel)⟩
theorem lw_p17 : lw_okq (⟨"WordJudge$Judge", "narrowD", "(I)Z"⟩, 10) := ⟨⟨by decide +kernel, by decide +kernel⟩, List.mem_of_getElem? (i := 132) (by decide +kernel), List.mem_of_getElem? (i := 615) (by decide +kernel), List.mem_of_getElem? (i := 616) (by decide +kernel)⟩
theorem lw_p18 : lw_okq (⟨"WordJudge$Value", "leaveOut", "(J)Z"⟩, 3) := ⟨⟨by decide +kernel, by decide +kernel⟩, List.mem_of_getElem? (i := 164) (by decide +kernel), List.mem_of_getElem? (i := 629) (by decide +kernel), List.mem_of_getElem? (i := 630) (by decide +kernel)⟩
theorem lw_p19 : lw_okq (⟨"WordJudge$Value", "narrowSigned", "(IJ)Z"⟩, 3) := ⟨⟨by decide +kernel, by decide +kernel⟩, List.mem_of_getElem? (i := 164) (by decide +kernel), List.mem_of_getElem? (i := 633) (by decide +kernel), List.mem_of_getElem? (i := 634) (by decide +kernel)⟩
theorem lw_p20 : lw_okq (⟨"WordJudge$Judge", "examineArithmetic", "()I"⟩, 10) := ⟨⟨by decide +kernel, by decide +kernel⟩, List.mem_of_getElem? (i := 132) (by decide +kernel), List.mem_of_getElem? (i := 648) (by decide +kernel), List.mem_of_getElem? (i := 649) (by decide +kernel)⟩
theorem lw_p21 : lw_okq (⟨"WordJudge$Judge", "move", "()I"⟩, 10) := ⟨⟨by decide +kernel, by decide +kernel⟩, List.mem_of_getElem? (i := 132) (by decide +kernel), List.mem_of_getElem? (i := 652) (by decide +kernel), List.mem_of_getElem? (i := 653) (by decide +kernel)⟩
theorem lw_p22 : lw_okq (⟨"WordJudge$Judge", "movePointer", "()I"⟩, 10) := ⟨⟨by decide +kernel, by decide +kernel⟩, List.mem_of_getElem? (i := 132) (by decide +kernel), List.mem_of_getElem? (i := 670) (by decide +kernel), List.mem_of_getElem? (i := 671) (by decide +kernel)⟩
theorem lw_p23 : lw_okq (⟨"WordJudge$Judge", "examineReading", "()I"⟩, 10) := ⟨⟨by decide +kernel, by decide +kernel⟩, List.mem_of_getElem? (i := 132) (by decide +kernel), List.mem_of_getElem? (i := 756) (by decide +kernel), List.mem_of_getElem? (i := 757) (by decide +kernel)⟩
theorem lw_p24 : lw_okq (⟨"WordJudge$Judge", "examineReach", "(LWordJudge$Value;)I"⟩, 10) := ⟨⟨by decide +kernel, by decide +kernel⟩, List.mem_of_getElem? (i := 132) (by decide +kernel), List.mem_of_getElem? (i := 760) (by decide +kernel), List.mem_of_getElem? (i := 761) (by decide +kernel)⟩
theorem lw_p25 : lw_okq (⟨"WordJudge$Judge", "octetAt", "(LWordJudge$Value;)I"⟩, 10) := ⟨⟨by decide +kernel, by decide +kernel⟩, List.mem_of_getElem? (i := 132) (by decide +kernel), List.mem_of_getElem? (i := 770) (by decide +kernel), List.mem_of_getElem? (i := 771) (by decide +kernel)⟩
theorem lw_p26 : lw_okq (⟨"WordJudge$Judge", "examineStoring", "()I"⟩, 10) := ⟨⟨by decide +kernel, by decide +kernel⟩, List.mem_of_getElem? (i := 132) (by decide +kernel), List.mem_of_getElem? (i := 788) (by decide +kernel), List.mem_of_getElem? (i := 789) (by decide +kernel)⟩
theorem lw_p27 : lw_okq (⟨"WordJudge$State", "loseKept", "(I)V"⟩, 5) := ⟨⟨by decide +kernel, by decide +kernel⟩, List.mem_of_getElem? (i := 139) (by decide +kernel), List.mem_of_getElem? (i := 801) (by decide +kernel), List.mem_of_getElem? (i := 802) (by decide +kernel)⟩
theorem lw_p28 : lw_okq (⟨"WordJudge$Judge", "goOn", "(I)V"⟩, 10) := ⟨⟨by decide +kernel, by decide +kernel⟩, List.mem_of_getElem? (i := 132) (by decide +kernel), List.mem_of_getElem? (i := 810) (by decide +kernel), List.mem_of_getElem? (i := 811) (by decide +kernel)⟩
theorem lw_p29 : lw_okq (⟨"WordJudge$Machine", "begin", "()V"⟩, 8) := ⟨⟨by decide +kernel, by decide +kernel⟩, List.mem_of_getElem? (i := 221) (by decide +kernel), List.mem_of_getElem? (i := 842) (by decide +kernel), List.mem_of_getElem? (i := 843) (by decide +kernel)⟩
theorem lw_p30 : lw_okq (⟨"WordJudge$Machine", "give", "(IJ)V"⟩, 8) := ⟨⟨by decide +kernel, by decide +kernel⟩, List.mem_of_getElem? (i := 221) (by decide +kernel), List.mem_of_getElem? (i := 847) (by decide +kernel), List.mem_of_getElem? (i := 848) (by decide +kernel)⟩
theorem lw_p31 : lw_okq (⟨"WordJudge$Machine", "step", "(IJLWordJudge$Given;)I"⟩, 8) := ⟨⟨by decide +kernel, by decide +kernel⟩, List.mem_of_getElem? (i := 221) (by decide +kernel), List.mem_of_getElem? (i := 854) (by decide +kernel), List.mem_of_getElem? (i := 855) (by decide +kernel)⟩
def lw_privs_2 : List (MethodName × Nat) := [(⟨"WordJudge$Judge", "examineCondition", "(I)I"⟩, 10), (⟨"WordJudge$Judge", "narrowD", "(I)Z"⟩, 10), (⟨"WordJudge$Value", "leaveOut", "(J)Z"⟩, 3), (⟨"WordJudge$Value", "narrowSigned", "(IJ)Z"⟩, 3), (⟨"WordJudge$Judge", "examineArithmetic", "()I"⟩, 10), (⟨"WordJudge$Judge", "move", "()I"⟩, 10), (⟨"WordJudge$Judge", "movePointer", "()I"⟩, 10), (⟨"WordJudge$Judge", "examineReading", "()I"⟩, 10), (⟨"WordJudge$Judge", "examineReach", "(LWordJudge$Value;)I"⟩, 10), (⟨"WordJudge$Judge", "octetAt", "(LWordJudge$Value;)I"⟩, 10), (⟨"WordJudge$Judge", "examineStoring", "()I"⟩, 10), (⟨"WordJudge$State", "loseKept", "(I)V"⟩, 5), (⟨"WordJudge$Judge", "goOn", "(I)V"⟩, 10), (⟨"WordJudge$Machine", "begin", "()V"⟩, 8), (⟨"WordJudge$Machine", "give", "(IJ)V"⟩, 8), (⟨"WordJudge$Machine", "step", "(IJLWordJudge$Given;)I"⟩, 8)]
theorem lw_r2 : ∀ q ∈ lw_privs_2, lw_okq q := List.forall_mem_cons.mpr ⟨lw_p16, List.forall_mem_cons.mpr ⟨lw_p17, List.forall_mem_cons.mpr ⟨lw_p18, List.forall_mem_cons.mpr ⟨lw_p19, List.forall_mem_cons.mpr ⟨lw_p20, List.forall_mem_cons.mpr ⟨lw_p21, List.forall_mem_cons.mpr ⟨lw_p22, List.forall_mem_cons.mpr ⟨lw_p23, List.forall_mem_cons.mpr ⟨lw_p24, List.forall_mem_cons.mpr ⟨lw_p25, List.forall_mem_cons.mpr ⟨lw_p26, List.forall_mem_cons.mpr ⟨lw_p27, List.forall_mem_cons.mpr ⟨lw_p28, List.forall_mem_cons.mpr ⟨lw_p29, List.forall_mem_cons.mpr ⟨lw_p30, List.forall_mem_cons.mpr ⟨lw_p31, fun _ h => absurd h List.not_mem_nil⟩⟩⟩⟩⟩⟩⟩⟩⟩⟩⟩⟩⟩⟩⟩⟩
theorem lw_p32 : lw_okq (⟨"WordJudge$Machine", "use", "(I)J"⟩, 8) := ⟨⟨by decide +kernel, by decide +kernel⟩, List.mem_of_getElem? (i := 221) (by decide +kernel), List.mem_of_getElem? (i := 859) (by decide +kernel), List.mem_of_getElem? (i := 860) (by decide +kernel)⟩
theorem lw_p33 : lw_okq (⟨"WordJudge$Machine", "useRight", "()J"⟩, 8) := ⟨⟨by decide +kernel, by decide +kernel⟩, List.mem_of_getElem? (i := 221) (by decide +kernel), List.mem_of_getElem? (i := 863) (by decide +kernel), List.mem_of_getElem? (i := 864) (by decide +kernel)⟩
theorem lw_p34 : lw_okq (⟨"WordJudge$Machine", "read", "(JILWordJudge$Given;)J"⟩, 8) := ⟨⟨by decide +kernel, by decide +kernel⟩, List.mem_of_getElem? (i := 221) (by decide +kernel), List.mem_of_getElem? (i := 881) (by decide +kernel), List.mem_of_getElem? (i := 882) (by decide +kernel)⟩
theorem lw_p35 : lw_okq (⟨"WordJudge$Machine", "readOctet", "(JLWordJudge$Given;)I"⟩, 8) := ⟨⟨by decide +kernel, by decide +kernel⟩, List.mem_of_getElem? (i := 221) (by decide +kernel), List.mem_of_getElem? (i := 885) (by decide +kernel), List.mem_of_getElem? (i := 886) (by decide +kernel)⟩
theorem lw_p36 : lw_okq (⟨"WordJudge$Machine", "stackIndex", "(J)I"⟩, 8) := ⟨⟨by decide +kernel, by decide +kernel⟩, List.mem_of_getElem? (i := 221) (by decide +kernel), List.mem_of_getElem? (i := 894) (by decide +kernel), List.mem_of_getElem? (i := 895) (by decide +kernel)⟩
theorem lw_p37 : lw_okq (⟨"WordJudge$Machine", "write", "(JIJ)V"⟩, 8) := ⟨⟨by decide +kernel, by decide +kernel⟩, List.mem_of_getElem? (i := 221) (by decide +kernel), List.mem_of_getElem? (i := 900) (by decide +kernel), List.mem_of_getElem? (i := 901) (by decide +kernel)⟩
theorem lw_p38 : lw_okq (⟨"WordJudgeModel", "fails", "(ZI)Z"⟩, 23) := ⟨⟨by decide +kernel, by decide +kernel⟩, List.mem_of_getElem? (i := 913) (by decide +kernel), List.mem_of_getElem? (i := 999) (by decide +kernel), List.mem_of_getElem? (i := 1000) (by decide +kernel)⟩
theorem lw_p39 : lw_okq (⟨"WordJudgeModel", "op", "(I)I"⟩, 23) := ⟨⟨by decide +kernel, by decide +kernel⟩, List.mem_of_getElem? (i := 913) (by decide +kernel), List.mem_of_getElem? (i := 1019) (by decide +kernel), List.mem_of_getElem? (i := 1020) (by decide +kernel)⟩
theorem lw_p40 : lw_okq (⟨"WordJudgeModel", "form", "(I)I"⟩, 23) := ⟨⟨by decide +kernel, by decide +kernel⟩, List.mem_of_getElem? (i := 913) (by decide +kernel), List.mem_of_getElem? (i := 1023) (by decide +kernel), List.mem_of_getElem? (i := 1024) (by decide +kernel)⟩
theorem lw_p41 : lw_okq (⟨"WordJudgeModel", "isOne", "(I)Z"⟩, 23) := ⟨⟨by decide +kernel, by decide +kernel⟩, List.mem_of_getElem? (i := 913) (by decide +kernel), List.mem_of_getElem? (i := 1027) (by decide +kernel), List.mem_of_getElem? (i := 1028) (by decide +kernel)⟩
theorem lw_p42 : lw_okq (⟨"WordJudgeModel", "imm", "(I)I"⟩, 23) := ⟨⟨by decide +kernel, by decide +kernel⟩, List.mem_of_getElem? (i := 913) (by decide +kernel), List.mem_of_getElem? (i := 1040) (by decide +kernel), List.mem_of_getElem? (i := 1041) (by decide +kernel)⟩
theorem lw_p43 : lw_okq (⟨"WordJudgeModel", "d", "(I)I"⟩, 23) := ⟨⟨by decide +kernel, by decide +kernel⟩, List.mem_of_getElem? (i := 913) (by decide +kernel), List.mem_of_getElem? (i := 1044) (by decide +kernel), List.mem_of_getElem? (i := 1045) (by decide +kernel)⟩
theorem lw_p44 : lw_okq (⟨"WordJudgeModel", "s", "(I)I"⟩, 23) := ⟨⟨by decide +kernel, by decide +kernel⟩, List.mem_of_getElem? (i := 913) (by decide +kernel), List.mem_of_getElem? (i := 1048) (by decide +kernel), List.mem_of_getElem? (i := 1049) (by decide +kernel)⟩
theorem lw_p45 : lw_okq (⟨"WordJudgeModel", "getsD", "(I)Z"⟩, 23) := ⟨⟨by decide +kernel, by decide +kernel⟩, List.mem_of_getElem? (i := 913) (by decide +kernel), List.mem_of_getElem? (i := 1052) (by decide +kernel), List.mem_of_getElem? (i := 1053) (by decide +kernel)⟩
theorem lw_p46 : lw_okq (⟨"WordJudgeModel", "usesS", "(I)Z"⟩, 23) := ⟨⟨by decide +kernel, by decide +kernel⟩, List.mem_of_getElem? (i := 913) (by decide +kernel), List.mem_of_getElem? (i := 1065) (by decide +kernel), List.mem_of_getElem? (i := 1066) (by decide +kernel)⟩
theorem lw_p47 : lw_okq (⟨"WordJudgeModel", "off", "(I)I"⟩, 23) := ⟨⟨by decide +kernel, by decide +kernel⟩, List.mem_of_getElem? (i := 913) (by decide +kernel), List.mem_of_getElem? (i := 1069) (by decide +kernel), List.mem_of_getElem? (i := 1070) (by decide +kernel)⟩
def lw_privs_3 : List (MethodName × Nat) := [(⟨"WordJudge$Machine", "use", "(I)J"⟩, 8), (⟨"WordJudge$Machine", "useRight", "()J"⟩, 8), (⟨"WordJudge$Machine", "read", "(JILWordJudge$Given;)J"⟩, 8), (⟨"WordJudge$Machine", "readOctet", "(JLWordJudge$Given;)I"⟩, 8), (⟨"WordJudge$Machine", "stackIndex", "(J)I"⟩, 8), (⟨"WordJudge$Machine", "write", "(JIJ)V"⟩, 8), (⟨"WordJudgeModel", "fails", "(ZI)Z"⟩, 23), (⟨"WordJudgeModel", "op", "(I)I"⟩, 23), (⟨"WordJudgeModel", "form", "(I)I"⟩, 23), (⟨"WordJudgeModel", "isOne", "(I)Z"⟩, 23), (⟨"WordJudgeModel", "imm", "(I)I"⟩, 23), (⟨"WordJudgeModel", "d", "(I)I"⟩, 23), (⟨"WordJudgeModel", "s", "(I)I"⟩, 23), (⟨"WordJudgeModel", "getsD", "(I)Z"⟩, 23), (⟨"WordJudgeModel", "usesS", "(I)Z"⟩, 23), (⟨"WordJudgeModel", "off", "(I)I"⟩, 23)]
theorem lw_r3 : ∀ q ∈ lw_privs_3, lw_okq q := List.forall_mem_cons.mpr ⟨lw_p32, List.forall_mem_cons.mpr ⟨lw_p33, List.forall_mem_cons.mpr ⟨lw_p34, List.forall_mem_cons.mpr ⟨lw_p35, List.forall_mem_cons.mpr ⟨lw_p36, List.forall_mem_cons.mpr ⟨lw_p37, List.forall_mem_cons.mpr ⟨lw_p38, List.forall_mem_cons.mpr ⟨lw_p39, List.forall_mem_cons.mpr ⟨lw_p40, List.forall_mem_cons.mpr ⟨lw_p41, List.forall_mem_cons.mpr ⟨lw_p42, List.forall_mem_cons.mpr ⟨lw_p43, List.forall_mem_cons.mpr ⟨lw_p44, List.forall_mem_cons.mpr ⟨lw_p45, List.forall_mem_cons.mpr ⟨lw_p46, List.forall_mem_cons.mpr ⟨lw_p47, fun _ h => absurd h List.not_mem_nil⟩⟩⟩⟩⟩⟩⟩⟩⟩⟩⟩⟩⟩⟩⟩⟩
theorem lw_p48 : lw_okq (⟨"WordJudgeModel", "found", "(II)Z"⟩, 23) := ⟨⟨by decide +kernel, by decide +kernel⟩, List.mem_of_getElem? (i := 913) (by decide +kernel), List.mem_of_getElem? (i := 1074) (by decide +kernel), List.mem_of_getElem? (i := 1075) (by decide +kernel)⟩
theorem lw_p49 : lw_okq (⟨"WordJudgeModel", "begin", "()V"⟩, 23) := ⟨⟨by decide +kernel, by decide +kernel⟩, List.mem_of_getElem? (i := 913) (by decide +kernel), List.mem_of_getElem? (i := 1078) (by decide +kernel), List.mem_of_getElem? (i := 1079) (by decide +kernel)⟩
theorem lw_p50 : lw_okq (⟨"WordJudgeModel", "give", "(IIIJJ)V"⟩, 23) := ⟨⟨by decide +kernel, by decide +kernel⟩, List.mem_of_getElem? (i := 913) (by decide +kernel), List.mem_of_getElem? (i := 1082) (by decide +kernel), List.mem_of_getElem? (i := 1083) (by decide +kernel)⟩
theorem lw_p51 : lw_okq (⟨"WordJudgeModel", "one", "(I)I"⟩, 23) := ⟨⟨by decide +kernel, by decide +kernel⟩, List.mem_of_getElem? (i := 913) (by decide +kernel), List.mem_of_getElem? (i := 1086) (by decide +kernel), List.mem_of_getElem? (i := 1087) (by decide +kernel)⟩
theorem lw_p52 : lw_okq (⟨"WordJudgeModel", "usesD", "(I)Z"⟩, 23) := ⟨⟨by decide +kernel, by decide +kernel⟩, List.mem_of_getElem? (i := 913) (by decide +kernel), List.mem_of_getElem? (i := 1090) (by decide +kernel), List.mem_of_getElem? (i := 1091) (by decide +kernel)⟩
theorem lw_p53 : lw_okq (⟨"WordJudgeModel", "is", "(II)I"⟩, 23) := ⟨⟨by decide +kernel, by decide +kernel⟩, List.mem_of_getElem? (i := 913) (by decide +kernel), List.mem_of_getElem? (i := 1094) (by decide +kernel), List.mem_of_getElem? (i := 1095) (by decide +kernel)⟩
theorem lw_p54 : lw_okq (⟨"WordJudgeModel", "tested", "(I)I"⟩, 23) := ⟨⟨by decide +kernel, by decide +kernel⟩, List.mem_of_getElem? (i := 913) (by decide +kernel), List.mem_of_getElem? (i := 1098) (by decide +kernel), List.mem_of_getElem? (i := 1099) (by decide +kernel)⟩
theorem lw_p55 : lw_okq (⟨"WordJudgeModel", "comes", "(II)V"⟩, 23) := ⟨⟨by decide +kernel, by decide +kernel⟩, List.mem_of_getElem? (i := 913) (by decide +kernel), List.mem_of_getElem? (i := 1102) (by decide +kernel), List.mem_of_getElem? (i := 1103) (by decide +kernel)⟩
theorem lw_p56 : lw_okq (⟨"WordJudgeModel", "copy", "(II)V"⟩, 23) := ⟨⟨by decide +kernel, by decide +kernel⟩, List.mem_of_getElem? (i := 913) (by decide +kernel), List.mem_of_getElem? (i := 1106) (by decide +kernel), List.mem_of_getElem? (i := 1107) (by decide +kernel)⟩
theorem lw_p57 : lw_okq (⟨"WordJudgeModel", "least", "(II)J"⟩, 23) := ⟨⟨by decide +kernel, by decide +kernel⟩, List.mem_of_getElem? (i := 913) (by decide +kernel), List.mem_of_getElem? (i := 1110) (by decide +kernel), List.mem_of_getElem? (i := 1111) (by decide +kernel)⟩
theorem lw_p58 : lw_okq (⟨"WordJudgeModel", "most", "(II)J"⟩, 23) := ⟨⟨by decide +kernel, by decide +kernel⟩, List.mem_of_getElem? (i := 913) (by decide +kernel), List.mem_of_getElem? (i := 1114) (by decide +kernel), List.mem_of_getElem? (i := 1115) (by decide +kernel)⟩
theorem lw_p59 : lw_okq (⟨"WordJudgeModel", "pointer", "(II)Z"⟩, 23) := ⟨⟨by decide +kernel, by decide +kernel⟩, List.mem_of_getElem? (i := 913) (by decide +kernel), List.mem_of_getElem? (i := 1118) (by decide +kernel), List.mem_of_getElem? (i := 1119) (by decide +kernel)⟩
theorem lw_p60 : lw_okq (⟨"WordJudgeModel", "left", "(IIIJ)Z"⟩, 23) := ⟨⟨by decide +kernel, by decide +kernel⟩, List.mem_of_getElem? (i := 913) (by decide +kernel), List.mem_of_getElem? (i := 1124) (by decide +kernel), List.mem_of_getElem? (i := 1125) (by decide +kernel)⟩
theorem lw_p61 : lw_okq (⟨"WordJudgeModel", "summed", "(I)I"⟩, 23) := ⟨⟨by decide +kernel, by decide +kernel⟩, List.mem_of_getElem? (i := 913) (by decide +kernel), List.mem_of_getElem? (i := 1133) (by decide +kernel), List.mem_of_getElem? (i := 1134) (by decide +kernel)⟩
theorem lw_p62 : lw_okq (⟨"WordJudgeModel", "numbers", "(IIZJJ)V"⟩, 23) := ⟨⟨by decide +kernel, by decide +kernel⟩, List.mem_of_getElem? (i := 913) (by decide +kernel), List.mem_of_getElem? (i := 1141) (by decide +kernel), List.mem_of_getElem? (i := 1142) (by decide +kernel)⟩
theorem lw_p63 : lw_okq (⟨"WordJudgeModel", "machine", "(IJJ)J"⟩, 23) := ⟨⟨by decide +kernel, by decide +kernel⟩, List.mem_of_getElem? (i := 913) (by decide +kernel), List.mem_of_getElem? (i := 1145) (by decide +kernel), List.mem_of_getElem? (i := 1146) (by decide +kernel)⟩
def lw_privs_4 : List (MethodName × Nat) := [(⟨"WordJudgeModel", "found", "(II)Z"⟩, 23), (⟨"WordJudgeModel", "begin", "()V"⟩, 23), (⟨"WordJudgeModel", "give", "(IIIJJ)V"⟩, 23), (⟨"WordJudgeModel", "one", "(I)I"⟩, 23), (⟨"WordJudgeModel", "usesD", "(I)Z"⟩, 23), (⟨"WordJudgeModel", "is", "(II)I"⟩, 23), (⟨"WordJudgeModel", "tested", "(I)I"⟩, 23), (⟨"WordJudgeModel", "comes", "(II)V"⟩, 23), (⟨"WordJudgeModel", "copy", "(II)V"⟩, 23), (⟨"WordJudgeModel", "least", "(II)J"⟩, 23), (⟨"WordJudgeModel", "most", "(II)J"⟩, 23), (⟨"WordJudgeModel", "pointer", "(II)Z"⟩, 23), (⟨"WordJudgeModel", "left", "(IIIJ)Z"⟩, 23), (⟨"WordJudgeModel", "summed", "(I)I"⟩, 23), (⟨"WordJudgeModel", "numbers", "(IIZJJ)V"⟩, 23), (⟨"WordJudgeModel", "machine", "(IJJ)J"⟩, 23)]
theorem lw_r4 : ∀ q ∈ lw_privs_4, lw_okq q := List.forall_mem_cons.mpr ⟨lw_p48, List.forall_mem_cons.mpr ⟨lw_p49, List.forall_mem_cons.mpr ⟨lw_p50, List.forall_mem_cons.mpr ⟨lw_p51, List.forall_mem_cons.mpr ⟨lw_p52, List.forall_mem_cons.mpr ⟨lw_p53, List.forall_mem_cons.mpr ⟨lw_p54, List.forall_mem_cons.mpr ⟨lw_p55, List.forall_mem_cons.mpr ⟨lw_p56, List.forall_mem_cons.mpr ⟨lw_p57, List.forall_mem_cons.mpr ⟨lw_p58, List.forall_mem_cons.mpr ⟨lw_p59, List.forall_mem_cons.mpr ⟨lw_p60, List.forall_mem_cons.mpr ⟨lw_p61, List.forall_mem_cons.mpr ⟨lw_p62, List.forall_mem_cons.mpr ⟨lw_p63, fun _ h => absurd h List.not_mem_nil⟩⟩⟩⟩⟩⟩⟩⟩⟩⟩⟩⟩⟩⟩⟩⟩
theorem lw_p64 : lw_okq (⟨"WordJudgeModel", "plus", "(JJ)J"⟩, 23) := ⟨⟨by decide +kernel, by decide +kernel⟩, List.mem_of_getElem? (i := 913) (by decide +kernel), List.mem_of_getElem? (i := 1157) (by decide +kernel), List.mem_of_getElem? (i := 1158) (by decide +kernel)⟩
theorem lw_p65 : lw_okq (⟨"WordJudgeModel", "minus", "(JJ)J"⟩, 23) := ⟨⟨by decide +kernel, by decide +kernel⟩, List.mem_of_getElem? (i := 913) (by decide +kernel), List.mem_of_getElem? (i := 1161) (by decide +kernel), List.mem_of_getElem? (i := 1162) (by decide +kernel)⟩
theorem lw_p66 : lw_okq (⟨"WordJudgeModel", "times", "(JJ)J"⟩, 23) := ⟨⟨by decide +kernel, by decide +kernel⟩, List.mem_of_getElem? (i := 913) (by decide +kernel), List.mem_of_getElem? (i := 1165) (by decide +kernel), List.mem_of_getElem? (i := 1166) (by decide +kernel)⟩
theorem lw_p67 : lw_okq (⟨"WordJudgeModel", "up", "(JI)J"⟩, 23) := ⟨⟨by decide +kernel, by decide +kernel⟩, List.mem_of_getElem? (i := 913) (by decide +kernel), List.mem_of_getElem? (i := 1173) (by decide +kernel), List.mem_of_getElem? (i := 1174) (by decide +kernel)⟩
theorem lw_p68 : lw_okq (⟨"WordJudgeModel", "read", "(I)I"⟩, 23) := ⟨⟨by decide +kernel, by decide +kernel⟩, List.mem_of_getElem? (i := 913) (by decide +kernel), List.mem_of_getElem? (i := 1178) (by decide +kernel), List.mem_of_getElem? (i := 1179) (by decide +kernel)⟩
theorem lw_p69 : lw_okq (⟨"WordJudgeModel", "access", "(IIZ)I"⟩, 23) := ⟨⟨by decide +kernel, by decide +kernel⟩, List.mem_of_getElem? (i := 913) (by decide +kernel), List.mem_of_getElem? (i := 1182) (by decide +kernel), List.mem_of_getElem? (i := 1183) (by decide +kernel)⟩
theorem lw_p70 : lw_okq (⟨"WordJudgeModel", "stored", "(I)I"⟩, 23) := ⟨⟨by decide +kernel, by decide +kernel⟩, List.mem_of_getElem? (i := 913) (by decide +kernel), List.mem_of_getElem? (i := 1190) (by decide +kernel), List.mem_of_getElem? (i := 1191) (by decide +kernel)⟩
theorem lw_p71 : lw_okq (⟨"WordJudgeModel", "moved", "(IIII)Z"⟩, 23) := ⟨⟨by decide +kernel, by decide +kernel⟩, List.mem_of_getElem? (i := 913) (by decide +kernel), List.mem_of_getElem? (i := 1211) (by decide +kernel), List.mem_of_getElem? (i := 1212) (by decide +kernel)⟩
def lw_privs_5 : List (MethodName × Nat) := [(⟨"WordJudgeModel", "plus", "(JJ)J"⟩, 23), (⟨"WordJudgeModel", "minus", "(JJ)J"⟩, 23), (⟨"WordJudgeModel", "times", "(JJ)J"⟩, 23), (⟨"WordJudgeModel", "up", "(JI)J"⟩, 23), (⟨"WordJudgeModel", "read", "(I)I"⟩, 23), (⟨"WordJudgeModel", "access", "(IIZ)I"⟩, 23), (⟨"WordJudgeModel", "stored", "(I)I"⟩, 23), (⟨"WordJudgeModel", "moved", "(IIII)Z"⟩, 23)]
theorem lw_r5 : ∀ q ∈ lw_privs_5, lw_okq q := List.forall_mem_cons.mpr ⟨lw_p64, List.forall_mem_cons.mpr ⟨lw_p65, List.forall_mem_cons.mpr ⟨lw_p66, List.forall_mem_cons.mpr ⟨lw_p67, List.forall_mem_cons.mpr ⟨lw_p68, List.forall_mem_cons.mpr ⟨lw_p69, List.forall_mem_cons.mpr ⟨lw_p70, List.forall_mem_cons.mpr ⟨lw_p71, fun _ h => absurd h List.not_mem_nil⟩⟩⟩⟩⟩⟩⟩⟩
def lw_privs : List (MethodName × Nat) := lw_privs_1 ++ (lw_privs_2 ++ (lw_privs_3 ++ (lw_privs_4 ++ (lw_privs_5))))
def lw_tbl : List Cond := k2_sels lw_privs ++ tables_1
theorem lw_privs_ok : ∀ q ∈ lw_privs, lw_okq q := by
  show ∀ q ∈ lw_privs_1 ++ (lw_privs_2 ++ (lw_privs_3 ++ (lw_privs_4 ++ (lw_privs_5)))), lw_okq q
  exact List.forall_mem_append.mpr ⟨lw_r1, List.forall_mem_append.mpr ⟨lw_r2, List.forall_mem_append.mpr ⟨lw_r3, List.forall_mem_append.mpr ⟨lw_r4, lw_r5⟩⟩⟩⟩
end
section
def R_WJ : String := "WordJudge"
def T_WJ : u_T := fun k => match k with
  | 0 => ("WordJudge", "code", "LWordJudge$Code;", true)
  | 1 => ("WordJudge", "given", "LWordJudge$Given;", true)
  | 2 => ("WordJudge", "form", "LWordJudge$Form;", true)
  | 3 => ("WordJudge", "judge", "LWordJudge$Judge;", true)
  | 4 => ("WordJudge", "machine", "LWordJudge$Machine;", true)
  | 5 => ("WordJudge", "verified", "Z", false)
  | _ => ("WordJudge", "faultAt", "I", false)
def t_WJ : Nat → FieldType := fun k => match k with
  | 0 => .object "WordJudge$Code"
  | 1 => .object "WordJudge$Given"
  | 2 => .object "WordJudge$Form"
  | 3 => .object "WordJudge$Judge"
  | 4 => .object "WordJudge$Machine"
  | 5 => .boolean
  | _ => .int
def R_Co : String := "WordJudge$Code"
def T_Co : u_T := fun k => match k with
  | 0 => ("WordJudge$Code", "words", "[J", true)
  | _ => ("WordJudge$Code", "length", "I", false)
def t_Co : Nat → FieldType := fun k => match k with
  | 0 => .array .long
  | _ => .int
def R_Gi : String := "WordJudge$Given"
def T_Gi : u_T := fun k => match k with
  | 0 => ("WordJudge$Given", "octets", "[B", true)
  | _ => ("WordJudge$Given", "length", "I", false)
def t_Gi : Nat → FieldType := fun k => match k with
  | 0 => .array .byte
  | _ => .int
def R_Fo : String := "WordJudge$Form"
def T_Fo : u_T := fun k => match k with
  | 0 => ("WordJudge$Form", "seconds", "[Z", true)
  | 1 => ("WordJudge$Form", "word", "LWordJudge$Word;", true)
  | _ => ("WordJudge$Form", "faultAt", "I", false)
def t_Fo : Nat → FieldType := fun k => match k with
  | 0 => .array .boolean
  | 1 => .object "WordJudge$Word"
  | _ => .int
def R_Wo : String := "WordJudge$Word"
def T_Wo : u_T := fun k => match k with
  | 0 => ("WordJudge$Word", "op", "I", false)
  | 1 => ("WordJudge$Word", "d", "I", false)
  | 2 => ("WordJudge$Word", "s", "I", false)
  | 3 => ("WordJudge$Word", "off", "I", false)
  | 4 => ("WordJudge$Word", "imm", "I", false)
  | 5 => ("WordJudge$Word", "sort", "I", false)
  | _ => ("WordJudge$Word", "kind", "I", false)
def t_Wo : Nat → FieldType := fun k => match k with
  | 0 => .int
  | 1 => .int
  | 2 => .int
  | 3 => .int
  | 4 => .int
  | 5 => .int
  | _ => .int
def R_Ju : String := "WordJudge$Judge"
def T_Ju : u_T := fun k => match k with
  | 0 => ("WordJudge$Judge", "before", "[LWordJudge$State;", true)
  | 1 => ("WordJudge$Judge", "now", "LWordJudge$State;", true)
  | 2 => ("WordJudge$Judge", "word", "LWordJudge$Word;", true)
  | 3 => ("WordJudge$Judge", "left", "LWordJudge$Value;", true)
  | 4 => ("WordJudge$Judge", "right", "LWordJudge$Value;", true)
  | 5 => ("WordJudge$Judge", "narrowed", "LWordJudge$Value;", true)
  | 6 => ("WordJudge$Judge", "length", "I", false)
  | 7 => ("WordJudge$Judge", "contextLength", "I", false)
  | 8 => ("WordJudge$Judge", "comeTo", "I", false)
  | _ => ("WordJudge$Judge", "faultAt", "I", false)
def t_Ju : Nat → FieldType := fun k => match k with
  | 0 => .array (.object "WordJudge$State")
  | 1 => .object "WordJudge$State"
  | 2 => .object "WordJudge$Word"
  | 3 => .object "WordJudge$Value"
  | 4 => .object "WordJudge$Value"
  | 5 => .object "WordJudge$Value"
  | 6 => .int
  | 7 => .int
  | 8 => .int
  | _ => .int
def R_St : String := "WordJudge$State"
def T_St : u_T := fun k => match k with
  | 0 => ("WordJudge$State", "kinds", "[I", true)
  | 1 => ("WordJudge$State", "lows", "[J", true)
  | 2 => ("WordJudge$State", "highs", "[J", true)
  | 3 => ("WordJudge$State", "set", "[I", true)
  | _ => ("WordJudge$State", "comeTo", "Z", false)
def t_St : Nat → FieldType := fun k => match k with
  | 0 => .array .int
  | 1 => .array .long
  | 2 => .array .long
  | 3 => .array .int
  | _ => .boolean
def R_Va : String := "WordJudge$Value"
def T_Va : u_T := fun k => match k with
  | 0 => ("WordJudge$Value", "kind", "I", false)
  | 1 => ("WordJudge$Value", "low", "J", false)
  | _ => ("WordJudge$Value", "high", "J", false)
def t_Va : Nat → FieldType := fun k => match k with
  | 0 => .int
  | 1 => .long
  | _ => .long
def R_Ma : String := "WordJudge$Machine"
def T_Ma : u_T := fun k => match k with
  | 0 => ("WordJudge$Machine", "registers", "[J", true)
  | 1 => ("WordJudge$Machine", "registerHas", "[Z", true)
  | 2 => ("WordJudge$Machine", "stack", "[B", true)
  | 3 => ("WordJudge$Machine", "stackHas", "[Z", true)
  | 4 => ("WordJudge$Machine", "word", "LWordJudge$Word;", true)
  | 5 => ("WordJudge$Machine", "steps", "I", false)
  | 6 => ("WordJudge$Machine", "strayRuns", "I", false)
  | _ => ("WordJudge$Machine", "strayed", "Z", false)
def t_Ma : Nat → FieldType := fun k => match k with
  | 0 => .array .long
  | 1 => .array .boolean
  | 2 => .array .byte
  | 3 => .array .boolean
  | 4 => .object "WordJudge$Word"
  | 5 => .int
  | 6 => .int
  | _ => .boolean
def R_Mo : String := "WordJudgeModel"
def T_Mo : u_T := fun k => match k with
  | 0 => ("WordJudgeModel", "err", "I", false)
  | 1 => ("WordJudgeModel", "words", "[J", true)
  | 2 => ("WordJudgeModel", "many", "I", false)
  | 3 => ("WordJudgeModel", "second", "[Z", true)
  | 4 => ("WordJudgeModel", "come", "[Z", true)
  | 5 => ("WordJudgeModel", "verified", "Z", false)
  | 6 => ("WordJudgeModel", "fault", "I", false)
  | 7 => ("WordJudgeModel", "faultAt", "I", false)
  | 8 => ("WordJudgeModel", "context", "[I", true)
  | 9 => ("WordJudgeModel", "length", "I", false)
  | 10 => ("WordJudgeModel", "kind", "[B", true)
  | 11 => ("WordJudgeModel", "low", "[J", true)
  | 12 => ("WordJudgeModel", "high", "[J", true)
  | 13 => ("WordJudgeModel", "set", "[Z", true)
  | 14 => ("WordJudgeModel", "steps", "I", false)
  | 15 => ("WordJudgeModel", "odd", "I", false)
  | 16 => ("WordJudgeModel", "wrapped", "Z", false)
  | 17 => ("WordJudgeModel", "has", "[I", true)
  | 18 => ("WordJudgeModel", "keeps", "[I", true)
  | 19 => ("WordJudgeModel", "value", "[J", true)
  | 20 => ("WordJudgeModel", "keptValue", "[J", true)
  | 21 => ("WordJudgeModel", "memory", "[I", true)
  | _ => ("WordJudgeModel", "had", "[Z", true)
def t_Mo : Nat → FieldType := fun k => match k with
  | 0 => .int
  | 1 => .array .long
  | 2 => .int
  | 3 => .array .boolean
  | 4 => .array .boolean
  | 5 => .boolean
  | 6 => .int
  | 7 => .int
  | 8 => .array .int
  | 9 => .int
  | 10 => .array .byte
  | 11 => .array .long
  | 12 => .array .long
  | 13 => .array .boolean
  | 14 => .int
  | 15 => .int
  | 16 => .boolean
  | 17 => .array .int
  | 18 => .array .int
  | 19 => .array .long
  | 20 => .array .long
  | 21 => .array .int
  | _ => .array .boolean
def R_Ar : String := "WordJudge$Arithmetic"
def R_Nu : String := "WordJudge$Numbers"
def R_La : String := "WordJudgeLaw"
def R_Mt : String := "java/lang/Math"
def R_Lg : String := "java/lang/Long"
def R_As : String := "java/util/Arrays"
def vwCl : List vw_C := [(R_WJ, T_WJ, 7), (R_Co, T_Co, 2), (R_Gi, T_Gi, 2), (R_Fo, T_Fo, 3), (R_Wo, T_Wo, 7), (R_Ju, T_Ju, 10), (R_St, T_St, 5), (R_Va, T_Va, 3), (R_Ma, T_Ma, 8), (R_Mo, T_Mo, 23)]
def ja_ty (c : Nat) : Nat → FieldType := match c with
  | 0 => t_WJ
  | 1 => t_Co
  | 2 => t_Gi
  | 3 => t_Fo
  | 4 => t_Wo
  | 5 => t_Ju
  | 6 => t_St
  | 7 => t_Va
  | 8 => t_Ma
  | _ => t_Mo
def ja_elem : String := "WordJudge$State"
def ja_all : List Cond := lw_tbl.filter goodWord
theorem ja_all_good : ∀ w ∈ ja_all, goodWord w = true := fun _ h => (List.mem_filter.mp h).2
theorem ja_mt {w : Cond} (i : Nat) (h : tables_1[i]? = some w) (g : goodWord w = true) : w ∈ ja_all := List.mem_filter.mpr ⟨List.mem_append_right _ (List.mem_of_getElem? h), g⟩
theorem ja_mp {w : Cond} (i : Nat) (h : (k2_sels lw_privs)[i]? = some w) (g : goodWord w = true) : w ∈ ja_all := List.mem_filter.mpr ⟨List.mem_append_left _ (List.mem_of_getElem? h), g⟩
theorem ja_m1 {w : Cond} (i : Nat) (h : tables_1_1[i]? = some w) (g : goodWord w = true) : w ∈ ja_all := List.mem_filter.mpr ⟨List.mem_append_right _ (show w ∈ tables_1_1 ++ (tables_1_2 ++ (tables_1_3 ++ (tables_1_4 ++ (tables_1_5 ++ tables_1_6)))) from List.mem_append_left _ (List.mem_of_getElem? h)), g⟩
theorem ja_m2 {w : Cond} (i : Nat) (h : tables_1_2[i]? = some w) (g : goodWord w = true) : w ∈ ja_all := List.mem_filter.mpr ⟨List.mem_append_right _ (show w ∈ tables_1_1 ++ (tables_1_2 ++ (tables_1_3 ++ (tables_1_4 ++ (tables_1_5 ++ tables_1_6)))) from List.mem_append_right _ (List.mem_append_left _ (List.mem_of_getElem? h))), g⟩
theorem ja_m3 {w : Cond} (i : Nat) (h : tables_1_3[i]? = some w) (g : goodWord w = true) : w ∈ ja_all := List.mem_filter.mpr ⟨List.mem_append_right _ (show w ∈ tables_1_1 ++ (tables_1_2 ++ (tables_1_3 ++ (tables_1_4 ++ (tables_1_5 ++ tables_1_6)))) from List.mem_append_right _ (List.mem_append_right _ (List.mem_append_left _ (List.mem_of_getElem? h)))), g⟩
theorem ja_m4 {w : Cond} (i : Nat) (h : tables_1_4[i]? = some w) (g : goodWord w = true) : w ∈ ja_all := List.mem_filter.mpr ⟨List.mem_append_right _ (show w ∈ tables_1_1 ++ (tables_1_2 ++ (tables_1_3 ++ (tables_1_4 ++ (tables_1_5 ++ tables_1_6)))) from List.mem_append_right _ (List.mem_append_right _ (List.mem_append_right _ (List.mem_append_left _ (List.mem_of_getElem? h))))), g⟩
theorem ja_m5 {w : Cond} (i : Nat) (h : tables_1_5[i]? = some w) (g : goodWord w = true) : w ∈ ja_all := List.mem_filter.mpr ⟨List.mem_append_right _ (show w ∈ tables_1_1 ++ (tables_1_2 ++ (tables_1_3 ++ (tables_1_4 ++ (tables_1_5 ++ tables_1_6)))) from List.mem_append_right _ (List.mem_append_right _ (List.mem_append_right _ (List.mem_append_right _ (List.mem_append_left _ (List.mem_of_getElem? h)))))), g⟩
theorem ja_m6 {w : Cond} (i : Nat) (h : tables_1_6[i]? = some w) (g : goodWord w = true) : w ∈ ja_all := List.mem_filter.mpr ⟨List.mem_append_right _ (show w ∈ tables_1_1 ++ (tables_1_2 ++ (tables_1_3 ++ (tables_1_4 ++ (tables_1_5 ++ tables_1_6)))) from List.mem_append_right _ (List.mem_append_right _ (List.mem_append_right _ (List.mem_append_right _ (List.mem_append_right _ (List.mem_of_getElem? h)))))), g⟩
def ja_nfl : List (String × Nat × String × String × String × String) := [("WordJudge$Machine", 36, "WordJudge$Code", "length", "I", "WordJudge"), ("WordJudge", 52, "WordJudge$Code", "length", "I", "WordJudge"), ("WordJudge$Form", 30, "WordJudge$Code", "length", "I", "WordJudge"), ("WordJudge$Judge", 68, "WordJudge$Code", "length", "I", "WordJudge"), ("WordJudge", 73, "WordJudge$Given", "length", "I", "WordJudge"), ("WordJudge$Numbers", 26, "WordJudge$Word", "op", "I", "WordJudge"), ("WordJudge$Machine", 81, "WordJudge$Word", "op", "I", "WordJudge"), ("WordJudge$Judge", 211, "WordJudge$Word", "op", "I", "WordJudge"), ("WordJudge$Form", 50, "WordJudge$Word", "d", "I", "WordJudge"), ("WordJudge$Machine", 78, "WordJudge$Word", "d", "I", "WordJudge"), ("WordJudge$Judge", 108, "WordJudge$Word", "d", "I", "WordJudge"), ("WordJudge$Form", 53, "WordJudge$Word", "s", "I", "WordJudge"), ("WordJudge$Machine", 128, "WordJudge$Word", "s", "I", "WordJudge"), ("WordJudge$Judge", 161, "WordJudge$Word", "s", "I", "WordJudge"), ("WordJudge$Form", 68, "WordJudge$Word", "off", "I", "WordJudge"), ("WordJudge$Machine", 106, "WordJudge$Word", "off", "I", "WordJudge"), ("WordJudge$Judge", 223, "WordJudge$Word", "off", "I", "WordJudge"), ("WordJudge$Form", 83, "WordJudge$Word", "imm", "I", "WordJudge"), ("WordJudge$Machine", 131, "WordJudge$Word", "imm", "I", "WordJudge"), ("WordJudge$Judge", 164, "WordJudge$Word", "imm", "I", "WordJudge"), ("WordJudge$Numbers", 120, "WordJudge$Word", "imm", "I", "WordJudge"), ("WordJudge$Machine", 53, "WordJudge$Word", "sort", "I", "WordJudge"), ("WordJudge$Form", 47, "WordJudge$Word", "sort", "I", "WordJudge"), ("WordJudge$Judge", 121, "WordJudge$Word", "sort", "I", "WordJudge"), ("WordJudge$Numbers", 54, "WordJudge$Word", "kind", "I", "WordJudge"), ("WordJudge$Judge", 167, "WordJudge$Word", "kind", "I", "WordJudge"), ("WordJudge", 92, "WordJudge$Form", "faultAt", "I", "WordJudge"), ("WordJudge$Judge", 46, "WordJudge$State", "comeTo", "Z", "WordJudge"), ("WordJudge$Judge", 58, "WordJudge$Value", "kind", "I", "WordJudge"), ("WordJudge$State", 67, "WordJudge$Value", "kind", "I", "WordJudge"), ("WordJudge$Numbers", 30, "WordJudge$Value", "low", "J", "WordJudge"), ("WordJudge$Judge", 61, "WordJudge$Value", "low", "J", "WordJudge"), ("WordJudge$State", 71, "WordJudge$Value", "low", "J", "WordJudge"), ("WordJudge$Judge", 65, "WordJudge$Value", "high", "J", "WordJudge"), ("WordJudge$Numbers", 95, "WordJudge$Value", "high", "J", "WordJudge"), ("WordJudge$State", 75, "WordJudge$Value", "high", "J", "WordJudge"), ("WordJudge", 118, "WordJudge$Judge", "comeTo", "I", "WordJudge"), ("WordJudge", 96, "WordJudge$Judge", "faultAt", "I", "WordJudge"), ("WordJudge", 115, "WordJudge$Machine", "steps", "I", "WordJudge"), ("WordJudge", 121, "WordJudge$Machine", "strayRuns", "I", "WordJudge")]
def ja_nml : List (String × Nat × MethodName × String) := [("WordJudge", 11, ⟨"WordJudge$Code", "<init>", "()V"⟩, "WordJudge"), ("WordJudge", 18, ⟨"WordJudge$Given", "<init>", "()V"⟩, "WordJudge"), ("WordJudge", 25, ⟨"WordJudge$Form", "<init>", "()V"⟩, "WordJudge"), ("WordJudge$Form", 17, ⟨"WordJudge$Word", "<init>", "()V"⟩, "WordJudge"), ("WordJudge", 32, ⟨"WordJudge$Judge", "<init>", "()V"⟩, "WordJudge"), ("WordJudge$Judge", 17, ⟨"WordJudge$State", "<init>", "()V"⟩, "WordJudge"), ("WordJudge$Judge", 24, ⟨"WordJudge$Word", "<init>", "()V"⟩, "WordJudge"), ("WordJudge$Judge", 31, ⟨"WordJudge$Value", "<init>", "()V"⟩, "WordJudge"), ("WordJudge", 39, ⟨"WordJudge$Machine", "<init>", "()V"⟩, "WordJudge"), ("WordJudge$Machine", 28, ⟨"WordJudge$Word", "<init>", "()V"⟩, "WordJudge")]
theorem ja_nfl_in : ∀ q ∈ ja_nfl, Cond.fieldLinkNest q.1 q.2.1 q.2.2.1 q.2.2.2.1 q.2.2.2.2.1 q.2.2.2.2.2 ∈ tables_1 := by decide +kernel
theorem ja_nml_in : ∀ q ∈ ja_nml, Cond.methodLinkNest q.1 q.2.1 q.2.2.1 q.2.2.2 ∈ tables_1 := by decide +kernel
abbrev b_WJ_init : ByteArray := prog_1_method_1_code
def y_WJ_init : MethodName := ⟨"WordJudge", "<init>", "()V"⟩
abbrev b_WJ_word : ByteArray := prog_1_method_2_code
def y_WJ_word : MethodName := ⟨"WordJudge", "word", "(IJ)I"⟩
abbrev b_WJ_cut : ByteArray := prog_1_method_3_code
def y_WJ_cut : MethodName := ⟨"WordJudge", "cut", "(I)V"⟩
abbrev b_WJ_context : ByteArray := prog_1_method_4_code
def y_WJ_context : MethodName := ⟨"WordJudge", "context", "(I)V"⟩
abbrev b_WJ_put : ByteArray := prog_1_method_5_code
def y_WJ_put : MethodName := ⟨"WordJudge", "put", "(IJ)V"⟩
abbrev b_WJ_verify : ByteArray := prog_1_method_6_code
def y_WJ_verify : MethodName := ⟨"WordJudge", "verify", "()I"⟩
abbrev b_WJ_fault : ByteArray := prog_1_method_7_code
def y_WJ_fault : MethodName := ⟨"WordJudge", "fault", "()I"⟩
abbrev b_WJ_state : ByteArray := prog_1_method_8_code
def y_WJ_state : MethodName := ⟨"WordJudge", "state", "(III)J"⟩
abbrev b_WJ_run : ByteArray := prog_1_method_9_code
def y_WJ_run : MethodName := ⟨"WordJudge", "run", "()J"⟩
abbrev b_WJ_count : ByteArray := prog_1_method_10_code
def y_WJ_count : MethodName := ⟨"WordJudge", "count", "(I)I"⟩
abbrev b_Mo_init : ByteArray := prog_13_method_1_code
def y_Mo_init : MethodName := ⟨"WordJudgeModel", "<init>", "()V"⟩
abbrev b_Mo_thrown : ByteArray := prog_13_method_2_code
def y_Mo_thrown : MethodName := ⟨"WordJudgeModel", "thrown", "()I"⟩
abbrev b_Mo_fails : ByteArray := prog_13_method_3_code
def y_Mo_fails : MethodName := ⟨"WordJudgeModel", "fails", "(ZI)Z"⟩
abbrev b_Mo_word : ByteArray := prog_13_method_4_code
def y_Mo_word : MethodName := ⟨"WordJudgeModel", "word", "(IJ)I"⟩
abbrev b_Mo_cut : ByteArray := prog_13_method_5_code
def y_Mo_cut : MethodName := ⟨"WordJudgeModel", "cut", "(I)V"⟩
abbrev b_Mo_context : ByteArray := prog_13_method_6_code
def y_Mo_context : MethodName := ⟨"WordJudgeModel", "context", "(I)V"⟩
abbrev b_Mo_put : ByteArray := prog_13_method_7_code
def y_Mo_put : MethodName := ⟨"WordJudgeModel", "put", "(IJ)V"⟩
abbrev b_Mo_op : ByteArray := prog_13_method_8_code
def y_Mo_op : MethodName := ⟨"WordJudgeModel", "op", "(I)I"⟩
abbrev b_Mo_d : ByteArray := prog_13_method_9_code
def y_Mo_d : MethodName := ⟨"WordJudgeModel", "d", "(I)I"⟩
abbrev b_Mo_s : ByteArray := prog_13_method_10_code
def y_Mo_s : MethodName := ⟨"WordJudgeModel", "s", "(I)I"⟩
abbrev b_Mo_off : ByteArray := prog_13_method_11_code
def y_Mo_off : MethodName := ⟨"WordJudgeModel", "off", "(I)I"⟩
abbrev b_Mo_imm : ByteArray := prog_13_method_12_code
def y_Mo_imm : MethodName := ⟨"WordJudgeModel", "imm", "(I)I"⟩
abbrev b_Mo_reads : ByteArray := prog_13_method_13_code
def y_Mo_reads : MethodName := ⟨"WordJudgeModel", "reads", "(I)Z"⟩
abbrev b_Mo_stores : ByteArray := prog_13_method_14_code
def y_Mo_stores : MethodName := ⟨"WordJudgeModel", "stores", "(I)Z"⟩
abbrev b_Mo_storesNumber : ByteArray := prog_13_method_15_code
def y_Mo_storesNumber : MethodName := ⟨"WordJudgeModel", "storesNumber", "(I)Z"⟩
abbrev b_Mo_sum : ByteArray := prog_13_method_16_code
def y_Mo_sum : MethodName := ⟨"WordJudgeModel", "sum", "(I)Z"⟩
abbrev b_Mo_test : ByteArray := prog_13_method_17_code
def y_Mo_test : MethodName := ⟨"WordJudgeModel", "test", "(I)Z"⟩
abbrev b_Mo_go : ByteArray := prog_13_method_18_code
def y_Mo_go : MethodName := ⟨"WordJudgeModel", "go", "(I)Z"⟩
abbrev b_Mo_size : ByteArray := prog_13_method_19_code
def y_Mo_size : MethodName := ⟨"WordJudgeModel", "size", "(I)I"⟩
abbrev b_Mo_isOne : ByteArray := prog_13_method_20_code
def y_Mo_isOne : MethodName := ⟨"WordJudgeModel", "isOne", "(I)Z"⟩
abbrev b_Mo_usesS : ByteArray := prog_13_method_21_code
def y_Mo_usesS : MethodName := ⟨"WordJudgeModel", "usesS", "(I)Z"⟩
abbrev b_Mo_usesD : ByteArray := prog_13_method_22_code
def y_Mo_usesD : MethodName := ⟨"WordJudgeModel", "usesD", "(I)Z"⟩
abbrev b_Mo_getsD : ByteArray := prog_13_method_23_code
def y_Mo_getsD : MethodName := ⟨"WordJudgeModel", "getsD", "(I)Z"⟩
abbrev b_Mo_form : ByteArray := prog_13_method_24_code
def y_Mo_form : MethodName := ⟨"WordJudgeModel", "form", "(I)I"⟩
abbrev b_Mo_verify : ByteArray := prog_13_method_25_code
def y_Mo_verify : MethodName := ⟨"WordJudgeModel", "verify", "()I"⟩
abbrev b_Mo_found : ByteArray := prog_13_method_26_code
def y_Mo_found : MethodName := ⟨"WordJudgeModel", "found", "(II)Z"⟩
abbrev b_Mo_fault : ByteArray := prog_13_method_27_code
def y_Mo_fault : MethodName := ⟨"WordJudgeModel", "fault", "()I"⟩
abbrev b_Mo_give : ByteArray := prog_13_method_28_code
def y_Mo_give : MethodName := ⟨"WordJudgeModel", "give", "(IIIJJ)V"⟩
abbrev b_Mo_is : ByteArray := prog_13_method_29_code
def y_Mo_is : MethodName := ⟨"WordJudgeModel", "is", "(II)I"⟩
abbrev b_Mo_least : ByteArray := prog_13_method_30_code
def y_Mo_least : MethodName := ⟨"WordJudgeModel", "least", "(II)J"⟩
abbrev b_Mo_most : ByteArray := prog_13_method_31_code
def y_Mo_most : MethodName := ⟨"WordJudgeModel", "most", "(II)J"⟩
abbrev b_Mo_pointer : ByteArray := prog_13_method_32_code
def y_Mo_pointer : MethodName := ⟨"WordJudgeModel", "pointer", "(II)Z"⟩
abbrev b_Mo_begin : ByteArray := prog_13_method_33_code
def y_Mo_begin : MethodName := ⟨"WordJudgeModel", "begin", "()V"⟩
abbrev b_Mo_copy : ByteArray := prog_13_method_34_code
def y_Mo_copy : MethodName := ⟨"WordJudgeModel", "copy", "(II)V"⟩
abbrev b_Mo_comes : ByteArray := prog_13_method_35_code
def y_Mo_comes : MethodName := ⟨"WordJudgeModel", "comes", "(II)V"⟩
abbrev b_Mo_one : ByteArray := prog_13_method_36_code
def y_Mo_one : MethodName := ⟨"WordJudgeModel", "one", "(I)I"⟩
abbrev b_Mo_summed : ByteArray := prog_13_method_37_code
def y_Mo_summed : MethodName := ⟨"WordJudgeModel", "summed", "(I)I"⟩
abbrev b_Mo_plus : ByteArray := prog_13_method_38_code
def y_Mo_plus : MethodName := ⟨"WordJudgeModel", "plus", "(JJ)J"⟩
abbrev b_Mo_minus : ByteArray := prog_13_method_39_code
def y_Mo_minus : MethodName := ⟨"WordJudgeModel", "minus", "(JJ)J"⟩
abbrev b_Mo_times : ByteArray := prog_13_method_40_code
def y_Mo_times : MethodName := ⟨"WordJudgeModel", "times", "(JJ)J"⟩
abbrev b_Mo_up : ByteArray := prog_13_method_41_code
def y_Mo_up : MethodName := ⟨"WordJudgeModel", "up", "(JI)J"⟩
abbrev b_Mo_numbers : ByteArray := prog_13_method_42_code
def y_Mo_numbers : MethodName := ⟨"WordJudgeModel", "numbers", "(IIZJJ)V"⟩
abbrev b_Mo_machine : ByteArray := prog_13_method_43_code
def y_Mo_machine : MethodName := ⟨"WordJudgeModel", "machine", "(IJJ)J"⟩
abbrev b_Mo_opposite : ByteArray := prog_13_method_44_code
def y_Mo_opposite : MethodName := ⟨"WordJudgeModel", "opposite", "(I)I"⟩
abbrev b_Mo_tested : ByteArray := prog_13_method_45_code
def y_Mo_tested : MethodName := ⟨"WordJudgeModel", "tested", "(I)I"⟩
abbrev b_Mo_left : ByteArray := prog_13_method_46_code
def y_Mo_left : MethodName := ⟨"WordJudgeModel", "left", "(IIIJ)Z"⟩
abbrev b_Mo_access : ByteArray := prog_13_method_47_code
def y_Mo_access : MethodName := ⟨"WordJudgeModel", "access", "(IIZ)I"⟩
abbrev b_Mo_read : ByteArray := prog_13_method_48_code
def y_Mo_read : MethodName := ⟨"WordJudgeModel", "read", "(I)I"⟩
abbrev b_Mo_stored : ByteArray := prog_13_method_49_code
def y_Mo_stored : MethodName := ⟨"WordJudgeModel", "stored", "(I)I"⟩
abbrev b_Mo_state : ByteArray := prog_13_method_50_code
def y_Mo_state : MethodName := ⟨"WordJudgeModel", "state", "(III)J"⟩
abbrev b_Mo_run : ByteArray := prog_13_method_51_code
def y_Mo_run : MethodName := ⟨"WordJudgeModel", "run", "()J"⟩
abbrev b_Mo_holds : ByteArray := prog_13_method_52_code
def y_Mo_holds : MethodName := ⟨"WordJudgeModel", "holds", "(IJJ)Z"⟩
abbrev b_Mo_moved : ByteArray := prog_13_method_53_code
def y_Mo_moved : MethodName := ⟨"WordJudgeModel", "moved", "(IIII)Z"⟩
abbrev b_Mo_count : ByteArray := prog_13_method_54_code
def y_Mo_count : MethodName := ⟨"WordJudgeModel", "count", "(I)I"⟩
abbrev b_Ar_reckon : ByteArray := prog_2_method_2_code
def y_Ar_reckon : MethodName := ⟨"WordJudge$Arithmetic", "reckon", "(IJJ)J"⟩
abbrev b_Ar_reckonTaken : ByteArray := prog_2_method_3_code
def y_Ar_reckonTaken : MethodName := ⟨"WordJudge$Arithmetic", "reckonTaken", "(IJJ)J"⟩
abbrev b_Ar_quotient : ByteArray := prog_2_method_4_code
def y_Ar_quotient : MethodName := ⟨"WordJudge$Arithmetic", "quotient", "(JJ)J"⟩
abbrev b_Ar_isBelow : ByteArray := prog_2_method_5_code
def y_Ar_isBelow : MethodName := ⟨"WordJudge$Arithmetic", "isBelow", "(JJ)Z"⟩
abbrev b_Ar_lowest : ByteArray := prog_2_method_6_code
def y_Ar_lowest : MethodName := ⟨"WordJudge$Arithmetic", "lowest", "(JJ)J"⟩
abbrev b_Ar_turned : ByteArray := prog_2_method_7_code
def y_Ar_turned : MethodName := ⟨"WordJudge$Arithmetic", "turned", "(JJ)J"⟩
abbrev b_Ar_holds : ByteArray := prog_2_method_8_code
def y_Ar_holds : MethodName := ⟨"WordJudge$Arithmetic", "holds", "(IJJ)Z"⟩
abbrev b_Ar_isRelated : ByteArray := prog_2_method_9_code
def y_Ar_isRelated : MethodName := ⟨"WordJudge$Arithmetic", "isRelated", "(IJJ)Z"⟩
abbrev b_Co_init : ByteArray := prog_3_method_1_code
def y_Co_init : MethodName := ⟨"WordJudge$Code", "<init>", "()V"⟩
abbrev b_Co_at : ByteArray := prog_3_method_2_code
def y_Co_at : MethodName := ⟨"WordJudge$Code", "at", "(I)J"⟩
abbrev b_Co_replace : ByteArray := prog_3_method_3_code
def y_Co_replace : MethodName := ⟨"WordJudge$Code", "replace", "(IJ)V"⟩
abbrev b_Fo_init : ByteArray := prog_4_method_1_code
def y_Fo_init : MethodName := ⟨"WordJudge$Form", "<init>", "()V"⟩
abbrev b_Fo_examine : ByteArray := prog_4_method_2_code
def y_Fo_examine : MethodName := ⟨"WordJudge$Form", "examine", "(LWordJudge$Code;)I"⟩
abbrev b_Fo_markSeconds : ByteArray := prog_4_method_3_code
def y_Fo_markSeconds : MethodName := ⟨"WordJudge$Form", "markSeconds", "(LWordJudge$Code;)V"⟩
abbrev b_Fo_examineWord : ByteArray := prog_4_method_4_code
def y_Fo_examineWord : MethodName := ⟨"WordJudge$Form", "examineWord", "(LWordJudge$Code;I)I"⟩
abbrev b_Fo_hasUnusedNotZero : ByteArray := prog_4_method_5_code
def y_Fo_hasUnusedNotZero : MethodName := ⟨"WordJudge$Form", "hasUnusedNotZero", "()Z"⟩
abbrev b_Fo_isGoal : ByteArray := prog_4_method_6_code
def y_Fo_isGoal : MethodName := ⟨"WordJudge$Form", "isGoal", "(LWordJudge$Code;I)Z"⟩
abbrev b_Gi_init : ByteArray := prog_5_method_1_code
def y_Gi_init : MethodName := ⟨"WordJudge$Given", "<init>", "()V"⟩
abbrev b_Gi_resize : ByteArray := prog_5_method_2_code
def y_Gi_resize : MethodName := ⟨"WordJudge$Given", "resize", "(I)V"⟩
abbrev b_Gi_place : ByteArray := prog_5_method_3_code
def y_Gi_place : MethodName := ⟨"WordJudge$Given", "place", "(IJ)V"⟩
abbrev b_Gi_has : ByteArray := prog_5_method_4_code
def y_Gi_has : MethodName := ⟨"WordJudge$Given", "has", "(J)Z"⟩
abbrev b_Gi_octet : ByteArray := prog_5_method_5_code
def y_Gi_octet : MethodName := ⟨"WordJudge$Given", "octet", "(J)I"⟩
abbrev b_Ju_init : ByteArray := prog_6_method_1_code
def y_Ju_init : MethodName := ⟨"WordJudge$Judge", "<init>", "()V"⟩
abbrev b_Ju_isComeTo : ByteArray := prog_6_method_2_code
def y_Ju_isComeTo : MethodName := ⟨"WordJudge$Judge", "isComeTo", "(I)Z"⟩
abbrev b_Ju_tell : ByteArray := prog_6_method_3_code
def y_Ju_tell : MethodName := ⟨"WordJudge$Judge", "tell", "(III)J"⟩
abbrev b_Ju_examine : ByteArray := prog_6_method_4_code
def y_Ju_examine : MethodName := ⟨"WordJudge$Judge", "examine", "(LWordJudge$Code;I)I"⟩
abbrev b_Ju_begin : ByteArray := prog_6_method_5_code
def y_Ju_begin : MethodName := ⟨"WordJudge$Judge", "begin", "(II)V"⟩
abbrev b_Ju_flowTo : ByteArray := prog_6_method_6_code
def y_Ju_flowTo : MethodName := ⟨"WordJudge$Judge", "flowTo", "(I)V"⟩
abbrev b_Ju_examineWord : ByteArray := prog_6_method_7_code
def y_Ju_examineWord : MethodName := ⟨"WordJudge$Judge", "examineWord", "(IJ)I"⟩
abbrev b_Ju_goOn : ByteArray := prog_6_method_8_code
def y_Ju_goOn : MethodName := ⟨"WordJudge$Judge", "goOn", "(I)V"⟩
abbrev b_Ju_loadRight : ByteArray := prog_6_method_9_code
def y_Ju_loadRight : MethodName := ⟨"WordJudge$Judge", "loadRight", "()V"⟩
abbrev b_Ju_examineArithmetic : ByteArray := prog_6_method_10_code
def y_Ju_examineArithmetic : MethodName := ⟨"WordJudge$Judge", "examineArithmetic", "()I"⟩
abbrev b_Ju_move : ByteArray := prog_6_method_11_code
def y_Ju_move : MethodName := ⟨"WordJudge$Judge", "move", "()I"⟩
abbrev b_Ju_movePointer : ByteArray := prog_6_method_12_code
def y_Ju_movePointer : MethodName := ⟨"WordJudge$Judge", "movePointer", "()I"⟩
abbrev b_Ju_examineCondition : ByteArray := prog_6_method_13_code
def y_Ju_examineCondition : MethodName := ⟨"WordJudge$Judge", "examineCondition", "(I)I"⟩
abbrev b_Ju_narrowD : ByteArray := prog_6_method_14_code
def y_Ju_narrowD : MethodName := ⟨"WordJudge$Judge", "narrowD", "(I)Z"⟩
abbrev b_Ju_examineReach : ByteArray := prog_6_method_15_code
def y_Ju_examineReach : MethodName := ⟨"WordJudge$Judge", "examineReach", "(LWordJudge$Value;)I"⟩
abbrev b_Ju_octetAt : ByteArray := prog_6_method_16_code
def y_Ju_octetAt : MethodName := ⟨"WordJudge$Judge", "octetAt", "(LWordJudge$Value;)I"⟩
abbrev b_Ju_examineReading : ByteArray := prog_6_method_17_code
def y_Ju_examineReading : MethodName := ⟨"WordJudge$Judge", "examineReading", "()I"⟩
abbrev b_Ju_examineStoring : ByteArray := prog_6_method_18_code
def y_Ju_examineStoring : MethodName := ⟨"WordJudge$Judge", "examineStoring", "()I"⟩
abbrev b_Ma_init : ByteArray := prog_7_method_1_code
def y_Ma_init : MethodName := ⟨"WordJudge$Machine", "<init>", "()V"⟩
abbrev b_Ma_execute : ByteArray := prog_7_method_2_code
def y_Ma_execute : MethodName := ⟨"WordJudge$Machine", "execute", "(LWordJudge$Code;LWordJudge$Given;)J"⟩
abbrev b_Ma_begin : ByteArray := prog_7_method_3_code
def y_Ma_begin : MethodName := ⟨"WordJudge$Machine", "begin", "()V"⟩
abbrev b_Ma_step : ByteArray := prog_7_method_4_code
def y_Ma_step : MethodName := ⟨"WordJudge$Machine", "step", "(IJLWordJudge$Given;)I"⟩
abbrev b_Ma_use : ByteArray := prog_7_method_5_code
def y_Ma_use : MethodName := ⟨"WordJudge$Machine", "use", "(I)J"⟩
abbrev b_Ma_useRight : ByteArray := prog_7_method_6_code
def y_Ma_useRight : MethodName := ⟨"WordJudge$Machine", "useRight", "()J"⟩
abbrev b_Ma_give : ByteArray := prog_7_method_7_code
def y_Ma_give : MethodName := ⟨"WordJudge$Machine", "give", "(IJ)V"⟩
abbrev b_Ma_read : ByteArray := prog_7_method_8_code
def y_Ma_read : MethodName := ⟨"WordJudge$Machine", "read", "(JILWordJudge$Given;)J"⟩
abbrev b_Ma_readOctet : ByteArray := prog_7_method_9_code
def y_Ma_readOctet : MethodName := ⟨"WordJudge$Machine", "readOctet", "(JLWordJudge$Given;)I"⟩
abbrev b_Ma_write : ByteArray := prog_7_method_10_code
def y_Ma_write : MethodName := ⟨"WordJudge$Machine", "write", "(JIJ)V"⟩
abbrev b_Ma_stackIndex : ByteArray := prog_7_method_11_code
def y_Ma_stackIndex : MethodName := ⟨"WordJudge$Machine", "stackIndex", "(J)I"⟩
abbrev b_Nu_reckon : ByteArray := prog_8_method_2_code
def y_Nu_reckon : MethodName := ⟨"WordJudge$Numbers", "reckon", "(LWordJudge$Word;LWordJudge$Value;LWordJudge$Value;)V"⟩
abbrev b_Nu_takeLowest32 : ByteArray := prog_8_method_3_code
def y_Nu_takeLowest32 : MethodName := ⟨"WordJudge$Numbers", "takeLowest32", "(LWordJudge$Value;)V"⟩
abbrev b_Nu_reckonSpans : ByteArray := prog_8_method_4_code
def y_Nu_reckonSpans : MethodName := ⟨"WordJudge$Numbers", "reckonSpans", "(LWordJudge$Word;LWordJudge$Value;LWordJudge$Value;)V"⟩
abbrev b_Nu_add : ByteArray := prog_8_method_5_code
def y_Nu_add : MethodName := ⟨"WordJudge$Numbers", "add", "(LWordJudge$Value;LWordJudge$Value;)V"⟩
abbrev b_Nu_subtract : ByteArray := prog_8_method_6_code
def y_Nu_subtract : MethodName := ⟨"WordJudge$Numbers", "subtract", "(LWordJudge$Value;LWordJudge$Value;)V"⟩
abbrev b_Nu_multiply : ByteArray := prog_8_method_7_code
def y_Nu_multiply : MethodName := ⟨"WordJudge$Numbers", "multiply", "(LWordJudge$Value;LWordJudge$Value;)V"⟩
abbrev b_Nu_divide : ByteArray := prog_8_method_8_code
def y_Nu_divide : MethodName := ⟨"WordJudge$Numbers", "divide", "(LWordJudge$Value;LWordJudge$Value;)V"⟩
abbrev b_Nu_leaveOver : ByteArray := prog_8_method_9_code
def y_Nu_leaveOver : MethodName := ⟨"WordJudge$Numbers", "leaveOver", "(LWordJudge$Value;LWordJudge$Value;)V"⟩
abbrev b_Nu_and : ByteArray := prog_8_method_10_code
def y_Nu_and : MethodName := ⟨"WordJudge$Numbers", "and", "(LWordJudge$Value;LWordJudge$Value;)V"⟩
abbrev b_Nu_or : ByteArray := prog_8_method_11_code
def y_Nu_or : MethodName := ⟨"WordJudge$Numbers", "or", "(LWordJudge$Value;LWordJudge$Value;)V"⟩
abbrev b_Nu_shiftLeft : ByteArray := prog_8_method_12_code
def y_Nu_shiftLeft : MethodName := ⟨"WordJudge$Numbers", "shiftLeft", "(LWordJudge$Word;LWordJudge$Value;LWordJudge$Value;)V"⟩
abbrev b_Nu_shiftRight : ByteArray := prog_8_method_13_code
def y_Nu_shiftRight : MethodName := ⟨"WordJudge$Numbers", "shiftRight", "(LWordJudge$Word;LWordJudge$Value;LWordJudge$Value;)V"⟩
abbrev b_Nu_negate : ByteArray := prog_8_method_14_code
def y_Nu_negate : MethodName := ⟨"WordJudge$Numbers", "negate", "(LWordJudge$Value;)V"⟩
abbrev b_Nu_turn : ByteArray := prog_8_method_15_code
def y_Nu_turn : MethodName := ⟨"WordJudge$Numbers", "turn", "(LWordJudge$Word;LWordJudge$Value;)V"⟩
abbrev b_Nu_sumFits : ByteArray := prog_8_method_16_code
def y_Nu_sumFits : MethodName := ⟨"WordJudge$Numbers", "sumFits", "(JJ)Z"⟩
abbrev b_Nu_differenceFits : ByteArray := prog_8_method_17_code
def y_Nu_differenceFits : MethodName := ⟨"WordJudge$Numbers", "differenceFits", "(JJ)Z"⟩
abbrev b_Nu_productFits : ByteArray := prog_8_method_18_code
def y_Nu_productFits : MethodName := ⟨"WordJudge$Numbers", "productFits", "(JJ)Z"⟩
abbrev b_St_init : ByteArray := prog_9_method_1_code
def y_St_init : MethodName := ⟨"WordJudge$State", "<init>", "()V"⟩
abbrev b_St_begin : ByteArray := prog_9_method_2_code
def y_St_begin : MethodName := ⟨"WordJudge$State", "begin", "()V"⟩
abbrev b_St_copy : ByteArray := prog_9_method_3_code
def y_St_copy : MethodName := ⟨"WordJudge$State", "copy", "(LWordJudge$State;)V"⟩
abbrev b_St_join : ByteArray := prog_9_method_4_code
def y_St_join : MethodName := ⟨"WordJudge$State", "join", "(LWordJudge$State;)V"⟩
abbrev b_St_joinCell : ByteArray := prog_9_method_5_code
def y_St_joinCell : MethodName := ⟨"WordJudge$State", "joinCell", "(ILWordJudge$State;)V"⟩
abbrev b_St_points : ByteArray := prog_9_method_6_code
def y_St_points : MethodName := ⟨"WordJudge$State", "points", "(I)Z"⟩
abbrev b_St_clear : ByteArray := prog_9_method_7_code
def y_St_clear : MethodName := ⟨"WordJudge$State", "clear", "(I)V"⟩
abbrev b_St_load : ByteArray := prog_9_method_8_code
def y_St_load : MethodName := ⟨"WordJudge$State", "load", "(ILWordJudge$Value;)V"⟩
abbrev b_St_save : ByteArray := prog_9_method_9_code
def y_St_save : MethodName := ⟨"WordJudge$State", "save", "(ILWordJudge$Value;)V"⟩
abbrev b_St_eightAt : ByteArray := prog_9_method_10_code
def y_St_eightAt : MethodName := ⟨"WordJudge$State", "eightAt", "(I)I"⟩
abbrev b_St_isKept : ByteArray := prog_9_method_11_code
def y_St_isKept : MethodName := ⟨"WordJudge$State", "isKept", "(I)Z"⟩
abbrev b_St_isReadable : ByteArray := prog_9_method_12_code
def y_St_isReadable : MethodName := ⟨"WordJudge$State", "isReadable", "(II)Z"⟩
abbrev b_St_keep : ByteArray := prog_9_method_13_code
def y_St_keep : MethodName := ⟨"WordJudge$State", "keep", "(ILWordJudge$Value;)V"⟩
abbrev b_St_store : ByteArray := prog_9_method_14_code
def y_St_store : MethodName := ⟨"WordJudge$State", "store", "(II)V"⟩
abbrev b_St_loseKept : ByteArray := prog_9_method_15_code
def y_St_loseKept : MethodName := ⟨"WordJudge$State", "loseKept", "(I)V"⟩
abbrev b_Va_init : ByteArray := prog_10_method_1_code
def y_Va_init : MethodName := ⟨"WordJudge$Value", "<init>", "()V"⟩
abbrev b_Va_become : ByteArray := prog_10_method_2_code
def y_Va_become : MethodName := ⟨"WordJudge$Value", "become", "(IJJ)V"⟩
abbrev b_Va_becomeAny : ByteArray := prog_10_method_3_code
def y_Va_becomeAny : MethodName := ⟨"WordJudge$Value", "becomeAny", "()V"⟩
abbrev b_Va_isPointer : ByteArray := prog_10_method_4_code
def y_Va_isPointer : MethodName := ⟨"WordJudge$Value", "isPointer", "()Z"⟩
abbrev b_Va_isOne : ByteArray := prog_10_method_5_code
def y_Va_isOne : MethodName := ⟨"WordJudge$Value", "isOne", "()Z"⟩
abbrev b_Va_isWithin : ByteArray := prog_10_method_6_code
def y_Va_isWithin : MethodName := ⟨"WordJudge$Value", "isWithin", "(JJ)Z"⟩
abbrev b_Va_narrow : ByteArray := prog_10_method_7_code
def y_Va_narrow : MethodName := ⟨"WordJudge$Value", "narrow", "(IJ)Z"⟩
abbrev b_Va_leaveOut : ByteArray := prog_10_method_8_code
def y_Va_leaveOut : MethodName := ⟨"WordJudge$Value", "leaveOut", "(J)Z"⟩
abbrev b_Va_narrowSigned : ByteArray := prog_10_method_9_code
def y_Va_narrowSigned : MethodName := ⟨"WordJudge$Value", "narrowSigned", "(IJ)Z"⟩
abbrev b_Wo_init : ByteArray := prog_11_method_1_code
def y_Wo_init : MethodName := ⟨"WordJudge$Word", "<init>", "()V"⟩
abbrev b_Wo_take : ByteArray := prog_11_method_2_code
def y_Wo_take : MethodName := ⟨"WordJudge$Word", "take", "(J)V"⟩
abbrev b_Wo_findSort : ByteArray := prog_11_method_3_code
def y_Wo_findSort : MethodName := ⟨"WordJudge$Word", "findSort", "()I"⟩
abbrev b_Wo_movesOctets : ByteArray := prog_11_method_4_code
def y_Wo_movesOctets : MethodName := ⟨"WordJudge$Word", "movesOctets", "()Z"⟩
abbrev b_Wo_reckons : ByteArray := prog_11_method_5_code
def y_Wo_reckons : MethodName := ⟨"WordJudge$Word", "reckons", "()Z"⟩
abbrev b_Wo_findSortOfGoing : ByteArray := prog_11_method_6_code
def y_Wo_findSortOfGoing : MethodName := ⟨"WordJudge$Word", "findSortOfGoing", "()I"⟩
abbrev b_Wo_goes : ByteArray := prog_11_method_7_code
def y_Wo_goes : MethodName := ⟨"WordJudge$Word", "goes", "()Z"⟩
abbrev b_Wo_stores : ByteArray := prog_11_method_8_code
def y_Wo_stores : MethodName := ⟨"WordJudge$Word", "stores", "()Z"⟩
abbrev b_Wo_isOf32 : ByteArray := prog_11_method_9_code
def y_Wo_isOf32 : MethodName := ⟨"WordJudge$Word", "isOf32", "()Z"⟩
abbrev b_Wo_hasRegisterOperand : ByteArray := prog_11_method_10_code
def y_Wo_hasRegisterOperand : MethodName := ⟨"WordJudge$Word", "hasRegisterOperand", "()Z"⟩
abbrev b_Wo_usesD : ByteArray := prog_11_method_11_code
def y_Wo_usesD : MethodName := ⟨"WordJudge$Word", "usesD", "()Z"⟩
abbrev b_Wo_usesOldD : ByteArray := prog_11_method_12_code
def y_Wo_usesOldD : MethodName := ⟨"WordJudge$Word", "usesOldD", "()Z"⟩
abbrev b_Wo_getsD : ByteArray := prog_11_method_13_code
def y_Wo_getsD : MethodName := ⟨"WordJudge$Word", "getsD", "()Z"⟩
abbrev b_Wo_usesS : ByteArray := prog_11_method_14_code
def y_Wo_usesS : MethodName := ⟨"WordJudge$Word", "usesS", "()Z"⟩
abbrev b_Wo_usesOff : ByteArray := prog_11_method_15_code
def y_Wo_usesOff : MethodName := ⟨"WordJudge$Word", "usesOff", "()Z"⟩
abbrev b_Wo_usesImm : ByteArray := prog_11_method_16_code
def y_Wo_usesImm : MethodName := ⟨"WordJudge$Word", "usesImm", "()Z"⟩
abbrev b_Wo_size : ByteArray := prog_11_method_17_code
def y_Wo_size : MethodName := ⟨"WordJudge$Word", "size", "()I"⟩
abbrev b_Wo_words : ByteArray := prog_11_method_18_code
def y_Wo_words : MethodName := ⟨"WordJudge$Word", "words", "()I"⟩
abbrev b_Wo_goalFrom : ByteArray := prog_11_method_19_code
def y_Wo_goalFrom : MethodName := ⟨"WordJudge$Word", "goalFrom", "(I)I"⟩
abbrev b_Wo_opposite : ByteArray := prog_11_method_20_code
def y_Wo_opposite : MethodName := ⟨"WordJudge$Word", "opposite", "()I"⟩
abbrev b_Wo_wideNumber : ByteArray := prog_11_method_21_code
def y_Wo_wideNumber : MethodName := ⟨"WordJudge$Word", "wideNumber", "(J)J"⟩
abbrev b_La_word : ByteArray := method_3_code
def y_La_word : MethodName := ⟨"WordJudgeLaw", "word", "(LWordJudge;IJ[J)I"⟩
abbrev b_La_cut : ByteArray := method_4_code
def y_La_cut : MethodName := ⟨"WordJudgeLaw", "cut", "(LWordJudge;I)I"⟩
abbrev b_La_context : ByteArray := method_5_code
def y_La_context : MethodName := ⟨"WordJudgeLaw", "context", "(LWordJudge;I)I"⟩
abbrev b_La_put : ByteArray := method_6_code
def y_La_put : MethodName := ⟨"WordJudgeLaw", "put", "(LWordJudge;IJ)I"⟩
abbrev b_La_verify : ByteArray := method_7_code
def y_La_verify : MethodName := ⟨"WordJudgeLaw", "verify", "(LWordJudge;[J)I"⟩
abbrev b_La_state : ByteArray := method_8_code
def y_La_state : MethodName := ⟨"WordJudgeLaw", "state", "(LWordJudge;III[J)I"⟩
abbrev b_La_run : ByteArray := method_9_code
def y_La_run : MethodName := ⟨"WordJudgeLaw", "run", "(LWordJudge;[J)I"⟩
abbrev b_La_count : ByteArray := method_10_code
def y_La_count : MethodName := ⟨"WordJudgeLaw", "count", "(LWordJudge;I[J)I"⟩
abbrev b_Lg_divideUnsigned : ByteArray := prog_18_method_44_code
def y_Lg_divideUnsigned : MethodName := ⟨"java/lang/Long", "divideUnsigned", "(JJ)J"⟩
abbrev b_Lg_remainderUnsigned : ByteArray := prog_18_method_45_code
def y_Lg_remainderUnsigned : MethodName := ⟨"java/lang/Long", "remainderUnsigned", "(JJ)J"⟩
abbrev b_Mt_max_I : ByteArray := prog_19_method_65_code
def y_Mt_max_I : MethodName := ⟨"java/lang/Math", "max", "(II)I"⟩
abbrev b_Mt_max_J : ByteArray := prog_19_method_66_code
def y_Mt_max_J : MethodName := ⟨"java/lang/Math", "max", "(JJ)J"⟩
abbrev b_Mt_min_J : ByteArray := prog_19_method_70_code
def y_Mt_min_J : MethodName := ⟨"java/lang/Math", "min", "(JJ)J"⟩
abbrev b_Mt_multiplyHigh : ByteArray := prog_19_method_45_code
def y_Mt_multiplyHigh : MethodName := ⟨"java/lang/Math", "multiplyHigh", "(JJ)J"⟩
abbrev b_As_fill_I : ByteArray := prog_24_method_103_code
def y_As_fill_I : MethodName := ⟨"java/util/Arrays", "fill", "([II)V"⟩
abbrev b_As_fill_J : ByteArray := prog_24_method_101_code
def y_As_fill_J : MethodName := ⟨"java/util/Arrays", "fill", "([JJ)V"⟩
end
section

abbrev ja_S : Type := Nat ⊕ (Nat × Nat)
abbrev ja_H : Type := List ja_S × (Nat → Nat → Int32) × (Nat → Nat → Int64) × (Nat → Nat → Option Nat) × Nat × Nat
abbrev ja_Mt : Type := String × ByteArray × Nat × (Nat × Nat) × Bool × Option FieldType × Option (Nat × Nat × (Nat → Int32)) × Option (List (Nat × Nat × Nat × Nat))
def ja_u {α : Type} (f : Nat → Nat → α) (i k : Nat) (x : α) : Nat → Nat → α := fun a b => if a = i ∧ b = k then x else f a b
def ja_sI (h : ja_H) (i k : Nat) (x : Int32) : ja_H := (h.1, ja_u h.2.1 i k x, h.2.2)
def ja_sL (h : ja_H) (i k : Nat) (x : Int64) : ja_H := (h.1, h.2.1, ja_u h.2.2.1 i k x, h.2.2.2)
def ja_sR (h : ja_H) (i k : Nat) (x : Option Nat) : ja_H := (h.1, h.2.1, h.2.2.1, ja_u h.2.2.2.1 i k x, h.2.2.2.2)
def ja_nw (h : ja_H) (z : ja_S) : ja_H := (h.1 ++ [z], (fun a b => if a = h.1.length then 0 else h.2.1 a b), (fun a b => if a = h.1.length then 0 else h.2.2.1 a b), (fun a b => if a = h.1.length then none else h.2.2.2.1 a b), h.2.2.2.2)
def ja_lost (h : ja_H) (c n : Nat) : ja_H := (h.1, h.2.1, h.2.2.1, h.2.2.2.1, h.2.2.2.2.1 + c, h.2.2.2.2.2 + n)
def ja_nf (c : Nat) : Nat := match vwCl[c]? with
  | some q => q.2.2
  | none => 0
def ja_kd : FieldType → Nat
  | .long => 1
  | .object _ => 2
  | .array _ => 2
  | .float => 3
  | .double => 3
  | _ => 0
def ja_kk (c k : Nat) : Nat := ja_kd (ja_ty c k)
def ja_at (t : Nat) : FieldType := match t with
  | 0 => .int
  | 1 => .long
  | 2 => .boolean
  | 3 => .byte
  | _ => .object ja_elem
def ja_tys (aC : Nat → ClassId) : List (ClassId × FieldType) := [(aC 0, .int), (aC 1, .long), (aC 2, .boolean), (aC 3, .byte), (aC 4, .object ja_elem)]
def ja_sl (z : ja_S) : Nat := match z with
  | .inl c => ja_nf c
  | .inr q => q.2
def ja_nc (h : ja_H) : Nat := h.1.length + h.2.2.2.2.1
def ja_ns (h : ja_H) : Nat := (h.1.map ja_sl).sum + h.2.2.2.2.2
def ja_cv (ads : Nat → Nat) (v : Value) : Value := match v with
  | .ref i => .ref (ads i)
  | .retAddr n => .ref n
  | v => v
def ja_fv (ads : Nat → Nat) (h : ja_H) (i k kd : Nat) : Value := match kd with
  | 1 => .long (h.2.2.1 i k)
  | 2 => va_rf ((h.2.2.2.1 i k).map ads)
  | _ => .int (h.2.1 i k)
def ja_fs (ads : Nat → Nat) (h : ja_H) (i c : Nat) : List Value := (List.range (ja_nf c)).map (fun k => ja_fv ads h i k (ja_kk c k))
def ja_ar (ads : Nat → Nat) (h : ja_H) (i t n : Nat) : vp_A := match t with
  | 1 => (n, .inr (.inl (h.2.2.1 i)))
  | 4 => (n, .inr (.inr (.inr (.inr (fun j => (h.2.2.2.1 i j).map ads)))))
  | _ => (n, .inl (h.2.1 i))
def ja_ce (aC : Nat → ClassId) (ads : Nat → Nat) (h : ja_H) (i : Nat) : va_E := match h.1[i]? with
  | some (.inl c) => .inr (c, ja_fs ads h i c)
  | some (.inr q) => .inl (aC q.1, ja_ar ads h i q.1 q.2)
  | none => .inr (0, [])
def ja_wl (aC : Nat → ClassId) (ads : Nat → Nat) (h : ja_H) : va_W := (List.range h.1.length).map (fun i => (ads i, ja_ce aC ads h i))
theorem ja_u_ne {α : Type} {f : Nat → Nat → α} {i k a : Nat} {x : α} (h : a ≠ i) : ja_u f i k x a = f a := by
  funext b
  simp [ja_u, h]
theorem ja_u_upd {f : Nat → Nat → Int32} {i k : Nat} {x : Int32} : ja_u f i k x i = upd (f i) k x := by
  funext b
  simp [ja_u, upd]
theorem ja_u_updL {f : Nat → Nat → Int64} {i k : Nat} {x : Int64} : ja_u f i k x i = vp_updL (f i) k x := by
  funext b
  simp [ja_u, vp_updL]
theorem ja_lt {h : ja_H} {i : Nat} {z : ja_S} (hs : h.1[i]? = some z) : i < h.1.length := (List.getElem?_eq_some_iff.mp hs).1
theorem ja_wl_get {aC : Nat → ClassId} {ads : Nat → Nat} {h : ja_H} {i : Nat} (hi : i < h.1.length) : (ja_wl aC ads h)[i]? = some (ads i, ja_ce aC ads h i) := by
  simp [ja_wl, List.getElem?_map, List.getElem?_range hi]
theorem ja_wl_obj {aC : Nat → ClassId} {ads : Nat → Nat} {h : ja_H} {i c : Nat} (hs : h.1[i]? = some (.inl c)) : (ja_wl aC ads h)[i]? = some (ads i, .inr (c, ja_fs ads h i c)) := by
  rw [ja_wl_get (ja_lt hs)]
  simp [ja_ce, hs]
theorem ja_wl_arr {aC : Nat → ClassId} {ads : Nat → Nat} {h : ja_H} {i t n : Nat} (hs : h.1[i]? = some (.inr (t, n))) : (ja_wl aC ads h)[i]? = some (ads i, .inl (aC t, ja_ar ads h i t n)) := by
  rw [ja_wl_get (ja_lt hs)]
  simp [ja_ce, hs]
theorem ja_wl_set {aC : Nat → ClassId} {ads : Nat → Nat} {h h' : ja_H} {i : Nat} {x : va_E} (hl : h'.1 = h.1) (hi : i < h.1.length) (ho : ∀ j, j ≠ i → ja_ce aC ads h' j = ja_ce aC ads h j) (hx : ja_ce aC ads h' i = x) : (ja_wl aC ads h).set i (ads i, x) = ja_wl aC ads h' := by
  apply List.ext_getElem?
  intro j
  rw [List.getElem?_set]
  by_cases hj : i = j
  · subst hj
    have h1 : i < (ja_wl aC ads h).length := by simp [ja_wl, hi]
    rw [if_pos rfl, if_pos h1, ja_wl_get (by rw [hl]; exact hi), hx]
  · rw [if_neg hj]
    by_cases h2 : j < h.1.length
    · rw [ja_wl_get h2, ja_wl_get (by rw [hl]; exact h2), ho j (fun q => hj q.symm)]
    · have h3 : (ja_wl aC ads h)[j]? = none := by simp [ja_wl]; omega
      have h4 : (ja_wl aC ads h')[j]? = none := by simp [ja_wl, hl]; omega
      rw [h3, h4]
theorem ja_ce_congr {aC : Nat → ClassId} {ads : Nat → Nat} {h h' : ja_H} {i : Nat} (hl : h'.1 = h.1) (h1 : h'.2.1 i = h.2.1 i) (h2 : h'.2.2.1 i = h.2.2.1 i) (h3 : h'.2.2.2.1 i = h.2.2.2.1 i) : ja_ce aC ads h' i = ja_ce aC ads h i := by
  have e1 : ∀ c, ja_fs ads h' i c = ja_fs ads h i c := by
    intro c
    simp only [ja_fs]
    apply List.map_congr_left
    intro k _
    simp only [ja_fv, h1, h2, h3]
  have e2 : ∀ t n, ja_ar ads h' i t n = ja_ar ads h i t n := by
    intro t n
    simp only [ja_ar, h1, h2, h3]
  simp only [ja_ce, hl]
  cases h.1[i]? with
  | none => rfl
  | some z => cases z with
    | inl c => simp only [e1]
    | inr q => simp only [e2]
theorem ja_map_set {α : Type} {n k : Nat} {f g : Nat → α} {y : α} (hg : ∀ j, j ≠ k → g j = f j) (hk : g k = y) : ((List.range n).map f).set k y = (List.range n).map g := by
  apply List.ext_getElem?
  intro j
  rw [List.getElem?_set]
  by_cases hj : k = j
  · subst hj
    rw [if_pos rfl]
    by_cases h : k < n
    · simp [h, hk]
    · simp [h]
  · rw [if_neg hj]
    by_cases h : j < n
    · simp [h, hg j (fun q => hj q.symm)]
    · simp [h]
theorem ja_fs_get {ads : Nat → Nat} {h : ja_H} {i c k : Nat} (hk : k < ja_nf c) : (ja_fs ads h i c)[k]? = some (ja_fv ads h i k (ja_kk c k)) := by
  simp [ja_fs, List.getElem?_map, List.getElem?_range hk]
theorem ja_fs_len {ads : Nat → Nat} {h : ja_H} {i c : Nat} : (ja_fs ads h i c).length = ja_nf c := by
  simp [ja_fs]
theorem ja_fs_setI {ads : Nat → Nat} {h : ja_H} {i c k : Nat} {x : Int32} (hk : ja_kk c k = 0) : (ja_fs ads h i c).set k (.int x) = ja_fs ads (ja_sI h i k x) i c := by
  refine ja_map_set (fun j hj => ?_) ?_
  · simp [ja_fv, ja_sI, ja_u, hj]
  · simp [ja_fv, ja_sI, ja_u, hk]
theorem ja_fs_setL {ads : Nat → Nat} {h : ja_H} {i c k : Nat} {x : Int64} (hk : ja_kk c k = 1) : (ja_fs ads h i c).set k (.long x) = ja_fs ads (ja_sL h i k x) i c := by
  refine ja_map_set (fun j hj => ?_) ?_
  · simp [ja_fv, ja_sL, ja_u, hj]
  · simp [ja_fv, ja_sL, ja_u, hk]
theorem ja_fs_setR {ads : Nat → Nat} {h : ja_H} {i c k : Nat} {x : Option Nat} (hk : ja_kk c k = 2) : (ja_fs ads h i c).set k (va_rf (x.map ads)) = ja_fs ads (ja_sR h i k x) i c := by
  refine ja_map_set (fun j hj => ?_) ?_
  · simp [ja_fv, ja_sR, ja_u, hj]
  · simp [ja_fv, ja_sR, ja_u, hk]
theorem ja_wl_setI {aC : Nat → ClassId} {ads : Nat → Nat} {h : ja_H} {i k : Nat} {x : Int32} {y : va_E} (hi : i < h.1.length) (hx : ja_ce aC ads (ja_sI h i k x) i = y) : (ja_wl aC ads h).set i (ads i, y) = ja_wl aC ads (ja_sI h i k x) :=
  ja_wl_set rfl hi (fun _ hj => ja_ce_congr rfl (ja_u_ne hj) rfl rfl) hx
theorem ja_wl_setL {aC : Nat → ClassId} {ads : Nat → Nat} {h : ja_H} {i k : Nat} {x : Int64} {y : va_E} (hi : i < h.1.length) (hx : ja_ce aC ads (ja_sL h i k x) i = y) : (ja_wl aC ads h).set i (ads i, y) = ja_wl aC ads (ja_sL h i k x) :=
  ja_wl_set rfl hi (fun _ hj => ja_ce_congr rfl rfl (ja_u_ne hj) rfl) hx
theorem ja_wl_setR {aC : Nat → ClassId} {ads : Nat → Nat} {h : ja_H} {i k : Nat} {x : Option Nat} {y : va_E} (hi : i < h.1.length) (hx : ja_ce aC ads (ja_sR h i k x) i = y) : (ja_wl aC ads h).set i (ads i, y) = ja_wl aC ads (ja_sR h i k x) :=
  ja_wl_set rfl hi (fun _ hj => ja_ce_congr rfl rfl rfl (ja_u_ne hj)) hx
def ja_vs (n : Nat) : List Value → Prop
  | [] => True
  | .ref r :: st => r < n ∧ ja_vs n st
  | .int _ :: st => ja_vs n st
  | .long _ :: st => ja_vs n st
  | .float _ :: st => ja_vs n st
  | .double _ :: st => ja_vs n st
  | .null :: st => ja_vs n st
  | .retAddr _ :: st => ja_vs n st
def ja_V (h : ja_H) (lv : List (Option Value)) (st : List Value) : Prop := (∀ i k r, h.2.2.2.1 i k = some r → r < h.1.length) ∧ (∀ (i r : Nat), lv[i]? = some (some (.ref r)) → r < h.1.length) ∧ ja_vs h.1.length st
theorem ja_vs_iff {n : Nat} {st : List Value} : ja_vs n st ↔ ∀ r, Value.ref r ∈ st → r < n := by
  induction st with
  | nil => simp [ja_vs]
  | cons v t ih => cases v <;> simp [ja_vs, ih]
theorem ja_vs_mono {n n' : Nat} {st : List Value} (hn : n ≤ n') (h : ja_vs n st) : ja_vs n' st := ja_vs_iff.mpr (fun r hr => Nat.lt_of_lt_of_le (ja_vs_iff.mp h r hr) hn)
theorem ja_vs_app {n : Nat} {a b : List Value} : ja_vs n (a ++ b) ↔ ja_vs n a ∧ ja_vs n b := by
  simp only [ja_vs_iff, List.mem_append]
  constructor
  · exact fun h => ⟨fun r hr => h r (Or.inl hr), fun r hr => h r (Or.inr hr)⟩
  · rintro ⟨h1, h2⟩ r (hr | hr)
    · exact h1 r hr
    · exact h2 r hr
theorem ja_vs_rev {n : Nat} {a : List Value} : ja_vs n a.reverse ↔ ja_vs n a := by
  simp only [ja_vs_iff, List.mem_reverse]
theorem ja_cv_map {ads ads' : Nat → Nat} {n : Nat} (ha : ∀ i, i < n → ads' i = ads i) {st : List Value} (h : ja_vs n st) : st.map (ja_cv ads') = st.map (ja_cv ads) := by
  apply List.map_congr_left
  intro v hv
  cases v with
  | ref r => simp only [ja_cv]; rw [ha r (ja_vs_iff.mp h r hv)]
  | _ => rfl
theorem ja_cv_cat {ads : Nat → Nat} {v : Value} : (ja_cv ads v).category = v.category := by cases v <;> rfl
theorem ja_cv_sum {ads : Nat → Nat} {st : List Value} : ((st.map (ja_cv ads)).map fun v => v.category).sum = (st.map Value.category).sum := by
  rw [List.map_map]
  congr 1
  apply List.map_congr_left
  intro v _
  exact ja_cv_cat
def ja_lp (ads : Nat → Nat) (lv : List (Option Value)) : List (Nat × Value) := (List.range lv.length).filterMap (fun i => match lv[i]? with
  | some (some v) => some (i, ja_cv ads v)
  | _ => none)
def ja_lv (ads : Nat → Nat) (ls : Array Slot) (nL : Nat) (lv : List (Option Value)) : Prop := ls.size = nL ∧ lv_wf ls ∧ ∀ (i : Nat) (v : Value), lv[i]? = some (some v) → ls[i]? = some (.val (ja_cv ads v))
theorem ja_lp_mem {ads : Nat → Nat} {lv : List (Option Value)} {i : Nat} {v : Value} (h : lv[i]? = some (some v)) : (i, ja_cv ads v) ∈ ja_lp ads lv := by
  refine List.mem_filterMap.mpr ⟨i, List.mem_range.mpr (List.getElem?_eq_some_iff.mp h).1, ?_⟩
  simp [h]
theorem ja_lp_of {ads : Nat → Nat} {lv : List (Option Value)} {q : Nat × Value} (h : q ∈ ja_lp ads lv) : ∃ v, lv[q.1]? = some (some v) ∧ q.2 = ja_cv ads v := by
  obtain ⟨i, -, hi⟩ := List.mem_filterMap.mp h
  split at hi
  · next v hv =>
    cases hi
    exact ⟨v, hv, rfl⟩
  · cases hi
theorem ja_lv_has {ads : Nat → Nat} {ls : Array Slot} {nL : Nat} {lv : List (Option Value)} (h : ja_lv ads ls nL lv) : lv_has ls nL (ja_lp ads lv) := by
  refine ⟨h.1, h.2.1, fun q hq => ?_⟩
  obtain ⟨v, hv, e⟩ := ja_lp_of hq
  rw [e]
  exact h.2.2 q.1 v hv
def ja_ok (lv : List (Option Value)) (i : Nat) : Bool := match i with
  | 0 => true
  | j + 1 => match lv[j]? with
    | some (some v) => v.category != 2
    | _ => true
theorem ja_ok_ne {lv : List (Option Value)} {i j : Nat} {v : Value} (h : ja_ok lv i = true) (hj : j + 1 = i) (hv : lv[j]? = some (some v)) : ¬ v.category = 2 := by
  subst hj
  simp only [ja_ok, hv] at h
  simpa using h
theorem ja_lv_set1 {ads : Nat → Nat} {ls' : Array Slot} {nL i : Nat} {lv : List (Option Value)} {x : Value} (hok : ja_ok lv i = true) (h : lv_has ls' nL ((i, ja_cv ads x) :: (ja_lp ads lv).filter (fun q => !(q.1 == i) && !(q.1 + 1 == i && q.2.category == 2)))) : ja_lv ads ls' nL (lv.set i (some x)) := by
  refine ⟨h.1, h.2.1, fun j v hj => ?_⟩
  rw [List.getElem?_set] at hj
  by_cases e : i = j
  · subst e
    rw [if_pos rfl] at hj
    split at hj
    · cases hj
      exact h.2.2 (i, ja_cv ads x) List.mem_cons_self
    · cases hj
  · rw [if_neg e] at hj
    refine h.2.2 (j, ja_cv ads v) (List.mem_cons_of_mem _ (List.mem_filter.mpr ⟨ja_lp_mem hj, ?_⟩))
    have h1 : ¬ j = i := fun q => e q.symm
    simp only [Bool.and_eq_true, Bool.not_eq_true', beq_eq_false_iff_ne, ne_eq, Bool.and_eq_false_iff, ja_cv_cat]
    refine ⟨h1, ?_⟩
    by_cases h2 : j + 1 = i
    · exact Or.inr (ja_ok_ne hok h2 hj)
    · exact Or.inl h2
theorem ja_lv_set2 {ads : Nat → Nat} {ls' : Array Slot} {nL i : Nat} {lv : List (Option Value)} {x : Value} (hok : ja_ok lv i = true) (h : lv_has ls' nL ((i, ja_cv ads x) :: (ja_lp ads lv).filter (fun q => !(q.1 == i) && (!(q.1 == i + 1) && !(q.1 + 1 == i && q.2.category == 2))))) : ja_lv ads ls' nL ((lv.set i (some x)).set (i + 1) none) := by
  refine ⟨h.1, h.2.1, fun j v hj => ?_⟩
  rw [List.getElem?_set] at hj
  by_cases e2 : i + 1 = j
  · subst e2
    rw [if_pos rfl] at hj
    split at hj <;> cases hj
  rw [if_neg e2, List.getElem?_set] at hj
  by_cases e : i = j
  · subst e
    rw [if_pos rfl] at hj
    split at hj
    · cases hj
      exact h.2.2 (i, ja_cv ads x) List.mem_cons_self
    · cases hj
  · rw [if_neg e] at hj
    refine h.2.2 (j, ja_cv ads v) (List.mem_cons_of_mem _ (List.mem_filter.mpr ⟨ja_lp_mem hj, ?_⟩))
    have h1 : ¬ j = i := fun q => e q.symm
    have h3 : ¬ j = i + 1 := fun q => e2 q.symm
    simp only [Bool.and_eq_true, Bool.not_eq_true', beq_eq_false_iff_ne, ne_eq, Bool.and_eq_false_iff, ja_cv_cat]
    refine ⟨h1, h3, ?_⟩
    by_cases h2 : j + 1 = i
    · exact Or.inr (ja_ok_ne hok h2 hj)
    · exact Or.inl h2
theorem ja_lv_ads {ads ads' : Nat → Nat} {ls : Array Slot} {nL n : Nat} {lv : List (Option Value)} (ha : ∀ i, i < n → ads' i = ads i) (hv : ∀ (i r : Nat), lv[i]? = some (some (.ref r)) → r < n) (h : ja_lv ads ls nL lv) : ja_lv ads' ls nL lv := by
  refine ⟨h.1, h.2.1, fun i v hi => ?_⟩
  rw [h.2.2 i v hi]
  cases v with
  | ref r => simp only [ja_cv]; rw [ha r (hv i r hi)]
  | _ => rfl
theorem ja_lvv_set {lv : List (Option Value)} {i n : Nat} {x : Option Value} (hx : ∀ r, x = some (.ref r) → r < n) (h : ∀ (i r : Nat), lv[i]? = some (some (.ref r)) → r < n) : ∀ (j r : Nat), (lv.set i x)[j]? = some (some (.ref r)) → r < n := by
  intro j r hj
  rw [List.getElem?_set] at hj
  by_cases e : i = j
  · rw [if_pos e] at hj
    split at hj
    · exact hx r (Option.some.inj hj)
    · cases hj
  · rw [if_neg e] at hj
    exact h j r hj
def ja_N (U : State) : Prop := (∀ q ∈ ja_nfl, va_Nw (.fieldLinkNest q.1 q.2.1 q.2.2.1 q.2.2.2.1 q.2.2.2.2.1 q.2.2.2.2.2) U) ∧ (∀ q ∈ ja_nml, va_Nw (.methodLinkNest q.1 q.2.1 q.2.2.1 q.2.2.2) U) ∧ va_AO ja_elem U
theorem ja_N.same {u U : State} (h : u.vm = U.vm) (hN : ja_N u) : ja_N U := ⟨fun q hq => va_Nw.same rfl h (hN.1 q hq), fun q hq => va_Nw.same rfl h (hN.2.1 q hq), va_AO.moved (by rw [h]; exact Vm.Alike.refl _) hN.2.2⟩
theorem ja_N.warm {u U : State} (h : u.WarmedH U.vm) (hN : ja_N u) : ja_N U := ⟨fun q hq => va_Nw.warmF h (hN.1 q hq), fun q hq => va_Nw.warmM h (hN.2.1 q hq), va_AO.moved h.alike hN.2.2⟩
def ja_isr : List Cond := [.isRef (.static Bundle.tN "UNASSIGNED_STACK" Bundle.steD), .isRef (.static Bundle.tN "SUPPRESSED_SENTINEL" Bundle.listD)]
def ja_Zx (A : Nat → Prop) (s : State) : Prop := ∀ U : State, s.WarmedH U.vm → s.heap.size ≤ U.heap.size → (∀ q, q < s.heap.size → ¬ A q → U.heap[q]? = s.heap[q]?) → ∀ (args : Array Value), ∀ w ∈ ja_isr, w.before args U = true
def ja_Cx (M : ja_Mt) (p : Program) (l : Launch) (R : Room) (s : State) (m : MethodId) (args : Array Value) (meth : Method) (c : Code) (D : va_G) (aC : Nat → ClassId) (A : Nat → Prop) (kc ks : Nat) (hf : ja_H) : Prop :=
  p.tables.exec = Jvm.exec ∧ c.code = M.2.1 ∧ c.maxLocals = M.2.2.1 ∧ s.vm.findClass M.1 = some m.cls ∧ (∀ w ∈ ja_all, w.before args s = true) ∧ va_K D vwCl (ja_tys aC) s ∧ ja_N s ∧ (∀ q, s.heap.size ≤ q → A q) ∧ (M.2.2.2.1.1 ≤ R.frames ∧ M.2.2.2.1.2 ≤ R.locals) ∧ (M.2.2.2.2.1 = true → meth.name = "<init>") ∧ (ja_nc hf ≤ R.cells + kc ∧ ja_ns hf ≤ R.slots + ks) ∧
  (∀ b L xs, M.2.2.2.2.2.2.1 = some (b, L, xs) → va_X b L xs s s.heap ∧ b < s.heap.size ∧ ¬ A b) ∧ (∀ hh, M.2.2.2.2.2.2.2 = some hh → c.exceptionTable.toList.map (fun x => (x.startPc, x.endPc, x.handlerPc, x.catchType)) = hh) ∧ ja_Zx A s ∧ l.stackTraces = false
def ja_St (M : ja_Mt) (s : State) (D : va_G) (aC : Nat → ClassId) (A : Nat → Prop) (kc ks : Nat) (H : Heap) (ls : Array Slot) (locs : List Loc) (cells slots : Nat) (ads : Nat → Nat) (lv : List (Option Value)) (h : ja_H) : Prop :=
  ja_lv ads ls M.2.2.1 lv ∧ va_P D vwCl (ja_wl aC ads h) H ∧ va_D A (ja_wl aC ads h) ∧ va_S A s.heap H locs ∧ cells + kc = ja_nc h ∧ slots + ks = ja_ns h
def ja_os (ads : Nat → Nat) (ret : List Value) : List Value := match ret with
  | [.retAddr _] => []
  | r => r.map (ja_cv ads)
def ja_rt (M : ja_Mt) (pc : Nat) (ret : List Value) : Prop := match ret with
  | [] => decode M.2.1 pc = .ok (.return_, 1) ∧ M.2.2.2.2.2.1 = none
  | [.int v] => decode M.2.1 pc = .ok (.ireturn, 1) ∧ ∃ ty, M.2.2.2.2.2.1 = some ty ∧ narrow ty (.int v) = .int v
  | [.long _] => decode M.2.1 pc = .ok (.lreturn, 1) ∧ M.2.2.2.2.2.1 = some .long
  | [.retAddr k] => pc = k
  | _ => False
def ja_Ex (M : ja_Mt) (p : Program) (l : Launch) (e : Env) (R : Room) (s : State) (m : MethodId) (args : Array Value) (below : List Frame) (meth : Method) (c : Code) (Q : State → Prop) (D : va_G) (aC : Nat → ClassId) (A : Nat → Prop) (kc ks : Nat) (ads : Nat → Nat) (n : Nat) (ret : List Value) (hf : ja_H) : Prop :=
  ∀ (pc : Nat) (H : Heap) (ls : Array Slot) (locs : List Loc) (cells slots : Nat) (ads' : Nat → Nat), ja_rt M pc ret → ls.size = M.2.2.1 → (∀ i, i < n → ads' i = ads i) → va_P D vwCl (ja_wl aC ads' hf) H → va_D A (ja_wl aC ads' hf) → va_S A s.heap H locs → cells + kc = ja_nc hf → slots + ks = ja_ns hf →
    W p l e R s m args below meth c H locs cells slots Q (F0 m pc ls (ja_os ads' ret))
def ja_J (M : ja_Mt) (pc : Nat) (lv : List (Option Value)) (st : List Value) (h : ja_H) (ret : List Value) (hf : ja_H) : Prop :=
  (ja_nc h ≤ ja_nc hf ∧ ja_ns h ≤ ja_ns hf ∧ h.1.length ≤ hf.1.length) ∧ (ja_V h lv st → ja_V hf [] ret) ∧
  ∀ (p : Program) (l : Launch) (e : Env) (R : Room) (s : State) (m : MethodId) (args : Array Value) (below : List Frame) (meth : Method) (c : Code) (Q : State → Prop) (D : va_G) (aC : Nat → ClassId) (A : Nat → Prop) (kc ks : Nat) (H : Heap) (ls : Array Slot) (locs : List Loc) (cells slots : Nat) (ads : Nat → Nat), ja_Cx M p l R s m args meth c D aC A kc ks hf → ja_St M s D aC A kc ks H ls locs cells slots ads lv h → ja_V h lv st → ja_Ex M p l e R s m args below meth c Q D aC A kc ks ads h.1.length ret hf →
    W p l e R s m args below meth c H locs cells slots Q (F0 m pc ls (st.map (ja_cv ads)))
def ja_At (M : ja_Mt) (pc : Nat) (i : Instr) (n pc' : Nat) : Prop := decode M.2.1 pc = .ok (i, n) ∧ pc + n = pc'
theorem ja_iconst {M : ja_Mt} {pc pc' : Nat} {lv : List (Option Value)} {st : List Value} {h : ja_H} {ret : List Value} {hf : ja_H} {n : Int} {v : Int32} (d : ja_At M pc (.iconst n) 1 pc') (hv : Int32.ofInt n = v) (k : ja_J M pc' lv (.int v :: st) h ret hf) : ja_J M pc lv (st) h ret hf := by
  obtain ⟨d, rfl⟩ := d
  exact ⟨k.1, k.2.1, fun p l e R s m args below meth c Q D aC A kc ks H ls locs cells slots ads hC hS hV hE => lv_iconst hC.1 hC.2.1 d hv (k.2.2 p l e R s m args below meth c Q D aC A kc ks H ls locs cells slots ads hC hS hV hE)⟩
theorem ja_bipush {M : ja_Mt} {pc pc' : Nat} {lv : List (Option Value)} {st : List Value} {h : ja_H} {ret : List Value} {hf : ja_H} {n : Int} {v : Int32} (d : ja_At M pc (.bipush n) 2 pc') (hv : (Int8.ofInt n).toInt32 = v) (k : ja_J M pc' lv (.int v :: st) h ret hf) : ja_J M pc lv (st) h ret hf := by
  obtain ⟨d, rfl⟩ := d
  exact ⟨k.1, k.2.1, fun p l e R s m args below meth c Q D aC A kc ks H ls locs cells slots ads hC hS hV hE => lv_bipush hC.1 hC.2.1 d hv (k.2.2 p l e R s m args below meth c Q D aC A kc ks H ls locs cells slots ads hC hS hV hE)⟩
theorem ja_sipush {M : ja_Mt} {pc pc' : Nat} {lv : List (Option Value)} {st : List Value} {h : ja_H} {ret : List Value} {hf : ja_H} {n : Int} {v : Int32} (d : ja_At M pc (.sipush n) 3 pc') (hv : (Int16.ofInt n).toInt32 = v) (k : ja_J M pc' lv (.int v :: st) h ret hf) : ja_J M pc lv (st) h ret hf := by
  obtain ⟨d, rfl⟩ := d
  exact ⟨k.1, k.2.1, fun p l e R s m args below meth c Q D aC A kc ks H ls locs cells slots ads hC hS hV hE => lv_sipush hC.1 hC.2.1 d hv (k.2.2 p l e R s m args below meth c Q D aC A kc ks H ls locs cells slots ads hC hS hV hE)⟩
theorem ja_lconst {M : ja_Mt} {pc pc' : Nat} {lv : List (Option Value)} {st : List Value} {h : ja_H} {ret : List Value} {hf : ja_H} {n : Fin 2} {v : Int64} (d : ja_At M pc (.lconst n) 1 pc') (hv : Int64.ofNat (n : Nat) = v) (k : ja_J M pc' lv (.long v :: st) h ret hf) : ja_J M pc lv (st) h ret hf := by
  obtain ⟨d, rfl⟩ := d
  exact ⟨k.1, k.2.1, fun p l e R s m args below meth c Q D aC A kc ks H ls locs cells slots ads hC hS hV hE => lv_lconst hC.1 hC.2.1 d hv (k.2.2 p l e R s m args below meth c Q D aC A kc ks H ls locs cells slots ads hC hS hV hE)⟩
theorem ja_ldc {M : ja_Mt} {pc pc' : Nat} {lv : List (Option Value)} {st : List Value} {h : ja_H} {ret : List Value} {hf : ja_H} {index : Nat} {v : Int32} (d : ja_At M pc (.ldc index) 2 pc') (hc : Cond.constant M.1 index v ∈ ja_all) (k : ja_J M pc' lv (.int v :: st) h ret hf) : ja_J M pc lv st h ret hf := by
  obtain ⟨d, rfl⟩ := d
  exact ⟨k.1, k.2.1, fun p l e R s m args below meth c Q D aC A kc ks H ls locs cells slots ads hC hS hV hE => lv_ldc hC.1 hC.2.1 hC.2.2.2.1 (hC.2.2.2.2.1 _ hc) d (k.2.2 p l e R s m args below meth c Q D aC A kc ks H ls locs cells slots ads hC hS hV hE)⟩
theorem ja_ldcw {M : ja_Mt} {pc pc' : Nat} {lv : List (Option Value)} {st : List Value} {h : ja_H} {ret : List Value} {hf : ja_H} {index : Nat} {v : Int32} (d : ja_At M pc (.ldc_w index) 3 pc') (hc : Cond.constant M.1 index v ∈ ja_all) (k : ja_J M pc' lv (.int v :: st) h ret hf) : ja_J M pc lv st h ret hf := by
  obtain ⟨d, rfl⟩ := d
  exact ⟨k.1, k.2.1, fun p l e R s m args below meth c Q D aC A kc ks H ls locs cells slots ads hC hS hV hE => lv_ldcw hC.1 hC.2.1 hC.2.2.2.1 (hC.2.2.2.2.1 _ hc) d (k.2.2 p l e R s m args below meth c Q D aC A kc ks H ls locs cells slots ads hC hS hV hE)⟩
theorem ja_ldc2 {M : ja_Mt} {pc pc' : Nat} {lv : List (Option Value)} {st : List Value} {h : ja_H} {ret : List Value} {hf : ja_H} {index : Nat} {v : Int64} (d : ja_At M pc (.ldc2_w index) 3 pc') (hc : Cond.constantLong M.1 index v ∈ ja_all) (k : ja_J M pc' lv (.long v :: st) h ret hf) : ja_J M pc lv st h ret hf := by
  obtain ⟨d, rfl⟩ := d
  exact ⟨k.1, k.2.1, fun p l e R s m args below meth c Q D aC A kc ks H ls locs cells slots ads hC hS hV hE => lv_ldc2 hC.1 hC.2.1 hC.2.2.2.1 (hC.2.2.2.2.1 _ hc) d (k.2.2 p l e R s m args below meth c Q D aC A kc ks H ls locs cells slots ads hC hS hV hE)⟩
theorem ja_iload {M : ja_Mt} {pc pc' : Nat} {lv : List (Option Value)} {st : List Value} {h : ja_H} {ret : List Value} {hf : ja_H} {i : Nat} {x : Int32} (d : ja_At M pc (.iload i) 2 pc') (hl : lv[i]? = some (some (.int x))) (k : ja_J M pc' lv (.int x :: st) h ret hf) : ja_J M pc lv st h ret hf := by
  obtain ⟨d, rfl⟩ := d
  exact ⟨k.1, k.2.1, fun p l e R s m args below meth c Q D aC A kc ks H ls locs cells slots ads hC hS hV hE => lv_iload hC.1 hC.2.1 d (hS.1.2.2 _ _ hl) (k.2.2 p l e R s m args below meth c Q D aC A kc ks H ls locs cells slots ads hC hS hV hE)⟩
theorem ja_iload_n {M : ja_Mt} {pc pc' : Nat} {lv : List (Option Value)} {st : List Value} {h : ja_H} {ret : List Value} {hf : ja_H} {n : Fin 4} {x : Int32} (d : ja_At M pc (.iload_n n) 1 pc') (hl : lv[(n : Nat)]? = some (some (.int x))) (k : ja_J M pc' lv (.int x :: st) h ret hf) : ja_J M pc lv st h ret hf := by
  obtain ⟨d, rfl⟩ := d
  exact ⟨k.1, k.2.1, fun p l e R s m args below meth c Q D aC A kc ks H ls locs cells slots ads hC hS hV hE => lv_iload_n hC.1 hC.2.1 d rfl (hS.1.2.2 _ _ hl) (k.2.2 p l e R s m args below meth c Q D aC A kc ks H ls locs cells slots ads hC hS hV hE)⟩
theorem ja_lload {M : ja_Mt} {pc pc' : Nat} {lv : List (Option Value)} {st : List Value} {h : ja_H} {ret : List Value} {hf : ja_H} {i : Nat} {x : Int64} (d : ja_At M pc (.lload i) 2 pc') (hl : lv[i]? = some (some (.long x))) (k : ja_J M pc' lv (.long x :: st) h ret hf) : ja_J M pc lv st h ret hf := by
  obtain ⟨d, rfl⟩ := d
  exact ⟨k.1, k.2.1, fun p l e R s m args below meth c Q D aC A kc ks H ls locs cells slots ads hC hS hV hE => lv_lload hC.1 hC.2.1 d (hS.1.2.2 _ _ hl) (k.2.2 p l e R s m args below meth c Q D aC A kc ks H ls locs cells slots ads hC hS hV hE)⟩
theorem ja_lload_n {M : ja_Mt} {pc pc' : Nat} {lv : List (Option Value)} {st : List Value} {h : ja_H} {ret : List Value} {hf : ja_H} {n : Fin 4} {x : Int64} (d : ja_At M pc (.lload_n n) 1 pc') (hl : lv[(n : Nat)]? = some (some (.long x))) (k : ja_J M pc' lv (.long x :: st) h ret hf) : ja_J M pc lv st h ret hf := by
  obtain ⟨d, rfl⟩ := d
  exact ⟨k.1, k.2.1, fun p l e R s m args below meth c Q D aC A kc ks H ls locs cells slots ads hC hS hV hE => lv_lload_n hC.1 hC.2.1 d rfl (hS.1.2.2 _ _ hl) (k.2.2 p l e R s m args below meth c Q D aC A kc ks H ls locs cells slots ads hC hS hV hE)⟩
theorem ja_aload {M : ja_Mt} {pc pc' : Nat} {lv : List (Option Value)} {st : List Value} {h : ja_H} {ret : List Value} {hf : ja_H} {i : Nat} {x : Nat} (d : ja_At M pc (.aload i) 2 pc') (hl : lv[i]? = some (some (.ref x))) (k : ja_J M pc' lv (.ref x :: st) h ret hf) : ja_J M pc lv st h ret hf := by
  obtain ⟨d, rfl⟩ := d
  exact ⟨k.1, fun v => k.2.1 ⟨v.1, v.2.1, v.2.1 _ _ hl, v.2.2⟩, fun p l e R s m args below meth c Q D aC A kc ks H ls locs cells slots ads hC hS hV hE => lv_aload hC.1 hC.2.1 d (hS.1.2.2 _ _ hl) (k.2.2 p l e R s m args below meth c Q D aC A kc ks H ls locs cells slots ads hC hS ⟨hV.1, hV.2.1, hV.2.1 _ _ hl, hV.2.2⟩ hE)⟩
theorem ja_aloadX {M : ja_Mt} {pc pc' : Nat} {lv : List (Option Value)} {st : List Value} {h : ja_H} {ret : List Value} {hf : ja_H} {i : Nat} {x : Nat} (d : ja_At M pc (.aload i) 2 pc') (hl : lv[i]? = some (some (.retAddr x))) (k : ja_J M pc' lv (.retAddr x :: st) h ret hf) : ja_J M pc lv st h ret hf := by
  obtain ⟨d, rfl⟩ := d
  exact ⟨k.1, k.2.1, fun p l e R s m args below meth c Q D aC A kc ks H ls locs cells slots ads hC hS hV hE => lv_aload hC.1 hC.2.1 d (hS.1.2.2 _ _ hl) (k.2.2 p l e R s m args below meth c Q D aC A kc ks H ls locs cells slots ads hC hS hV hE)⟩
theorem ja_aload_n {M : ja_Mt} {pc pc' : Nat} {lv : List (Option Value)} {st : List Value} {h : ja_H} {ret : List Value} {hf : ja_H} {n : Fin 4} {x : Nat} (d : ja_At M pc (.aload_n n) 1 pc') (hl : lv[(n : Nat)]? = some (some (.ref x))) (k : ja_J M pc' lv (.ref x :: st) h ret hf) : ja_J M pc lv st h ret hf := by
  obtain ⟨d, rfl⟩ := d
  exact ⟨k.1, fun v => k.2.1 ⟨v.1, v.2.1, v.2.1 _ _ hl, v.2.2⟩, fun p l e R s m args below meth c Q D aC A kc ks H ls locs cells slots ads hC hS hV hE => lv_aload_n hC.1 hC.2.1 d rfl (hS.1.2.2 _ _ hl) (k.2.2 p l e R s m args below meth c Q D aC A kc ks H ls locs cells slots ads hC hS ⟨hV.1, hV.2.1, hV.2.1 _ _ hl, hV.2.2⟩ hE)⟩
theorem ja_aload_nX {M : ja_Mt} {pc pc' : Nat} {lv : List (Option Value)} {st : List Value} {h : ja_H} {ret : List Value} {hf : ja_H} {n : Fin 4} {x : Nat} (d : ja_At M pc (.aload_n n) 1 pc') (hl : lv[(n : Nat)]? = some (some (.retAddr x))) (k : ja_J M pc' lv (.retAddr x :: st) h ret hf) : ja_J M pc lv st h ret hf := by
  obtain ⟨d, rfl⟩ := d
  exact ⟨k.1, k.2.1, fun p l e R s m args below meth c Q D aC A kc ks H ls locs cells slots ads hC hS hV hE => lv_aload_n hC.1 hC.2.1 d rfl (hS.1.2.2 _ _ hl) (k.2.2 p l e R s m args below meth c Q D aC A kc ks H ls locs cells slots ads hC hS hV hE)⟩
theorem ja_istore {M : ja_Mt} {pc pc' : Nat} {lv : List (Option Value)} {st : List Value} {h : ja_H} {ret : List Value} {hf : ja_H} {i : Nat} {x : Int32} (d : ja_At M pc (.istore i) 2 pc') (hn : i < M.2.2.1) (hok : ja_ok lv i = true) (k : ja_J M pc' (lv.set i (some (.int x))) st h ret hf) : ja_J M pc lv (.int x :: st) h ret hf := by
  obtain ⟨d, rfl⟩ := d
  refine ⟨k.1, fun v => k.2.1 ⟨v.1, ja_lvv_set (fun r e => by cases e) v.2.1, v.2.2⟩, fun p l e R s m args below meth c Q D aC A kc ks H ls locs cells slots ads hC hS hV hE => ?_⟩
  refine lv_istore hC.1 hC.2.1 d (ja_lv_has hS.1) hn rfl (fun ls' hl' => ?_)
  exact k.2.2 p l e R s m args below meth c Q D aC A kc ks H ls' locs cells slots ads hC ⟨ja_lv_set1 hok hl', hS.2⟩ ⟨hV.1, ja_lvv_set (fun r e => by cases e) hV.2.1, hV.2.2⟩ hE
theorem ja_istore_n {M : ja_Mt} {pc pc' : Nat} {lv : List (Option Value)} {st : List Value} {h : ja_H} {ret : List Value} {hf : ja_H} {n : Fin 4} {x : Int32} (d : ja_At M pc (.istore_n n) 1 pc') (hn : (n : Nat) < M.2.2.1) (hok : ja_ok lv (n : Nat) = true) (k : ja_J M pc' (lv.set (n : Nat) (some (.int x))) st h ret hf) : ja_J M pc lv (.int x :: st) h ret hf := by
  obtain ⟨d, rfl⟩ := d
  refine ⟨k.1, fun v => k.2.1 ⟨v.1, ja_lvv_set (fun r e => by cases e) v.2.1, v.2.2⟩, fun p l e R s m args below meth c Q D aC A kc ks H ls locs cells slots ads hC hS hV hE => ?_⟩
  refine lv_istore_n hC.1 hC.2.1 d rfl (ja_lv_has hS.1) hn rfl (fun ls' hl' => ?_)
  exact k.2.2 p l e R s m args below meth c Q D aC A kc ks H ls' locs cells slots ads hC ⟨ja_lv_set1 hok hl', hS.2⟩ ⟨hV.1, ja_lvv_set (fun r e => by cases e) hV.2.1, hV.2.2⟩ hE
theorem ja_lstore {M : ja_Mt} {pc pc' : Nat} {lv : List (Option Value)} {st : List Value} {h : ja_H} {ret : List Value} {hf : ja_H} {i : Nat} {x : Int64} (d : ja_At M pc (.lstore i) 2 pc') (hn : i + 1 < M.2.2.1) (hok : ja_ok lv i = true) (k : ja_J M pc' ((lv.set i (some (.long x))).set (i + 1) none) st h ret hf) : ja_J M pc lv (.long x :: st) h ret hf := by
  obtain ⟨d, rfl⟩ := d
  refine ⟨k.1, fun v => k.2.1 ⟨v.1, ja_lvv_set (fun r e => by cases e) (ja_lvv_set (fun r e => by cases e) v.2.1), v.2.2⟩, fun p l e R s m args below meth c Q D aC A kc ks H ls locs cells slots ads hC hS hV hE => ?_⟩
  refine lv_lstore hC.1 hC.2.1 d (ja_lv_has hS.1) hn rfl (fun ls' hl' => ?_)
  exact k.2.2 p l e R s m args below meth c Q D aC A kc ks H ls' locs cells slots ads hC ⟨ja_lv_set2 hok hl', hS.2⟩ ⟨hV.1, ja_lvv_set (fun r e => by cases e) (ja_lvv_set (fun r e => by cases e) hV.2.1), hV.2.2⟩ hE
theorem ja_lstore_n {M : ja_Mt} {pc pc' : Nat} {lv : List (Option Value)} {st : List Value} {h : ja_H} {ret : List Value} {hf : ja_H} {n : Fin 4} {x : Int64} (d : ja_At M pc (.lstore_n n) 1 pc') (hn : (n : Nat) + 1 < M.2.2.1) (hok : ja_ok lv (n : Nat) = true) (k : ja_J M pc' ((lv.set (n : Nat) (some (.long x))).set ((n : Nat) + 1) none) st h ret hf) : ja_J M pc lv (.long x :: st) h ret hf := by
  obtain ⟨d, rfl⟩ := d
  refine ⟨k.1, fun v => k.2.1 ⟨v.1, ja_lvv_set (fun r e => by cases e) (ja_lvv_set (fun r e => by cases e) v.2.1), v.2.2⟩, fun p l e R s m args below meth c Q D aC A kc ks H ls locs cells slots ads hC hS hV hE => ?_⟩
  refine lv_lstore_n hC.1 hC.2.1 d rfl (ja_lv_has hS.1) hn rfl (fun ls' hl' => ?_)
  exact k.2.2 p l e R s m args below meth c Q D aC A kc ks H ls' locs cells slots ads hC ⟨ja_lv_set2 hok hl', hS.2⟩ ⟨hV.1, ja_lvv_set (fun r e => by cases e) (ja_lvv_set (fun r e => by cases e) hV.2.1), hV.2.2⟩ hE
theorem ja_astore {M : ja_Mt} {pc pc' : Nat} {lv : List (Option Value)} {st : List Value} {h : ja_H} {ret : List Value} {hf : ja_H} {i : Nat} {x : Nat} (d : ja_At M pc (.astore i) 2 pc') (hn : i < M.2.2.1) (hok : ja_ok lv i = true) (k : ja_J M pc' (lv.set i (some (.ref x))) st h ret hf) : ja_J M pc lv (.ref x :: st) h ret hf := by
  obtain ⟨d, rfl⟩ := d
  refine ⟨k.1, fun v => k.2.1 ⟨v.1, ja_lvv_set (fun r e => by cases e; exact v.2.2.1) v.2.1, v.2.2.2⟩, fun p l e R s m args below meth c Q D aC A kc ks H ls locs cells slots ads hC hS hV hE => ?_⟩
  refine lv_astore hC.1 hC.2.1 d (ja_lv_has hS.1) hn rfl (fun ls' hl' => ?_)
  exact k.2.2 p l e R s m args below meth c Q D aC A kc ks H ls' locs cells slots ads hC ⟨ja_lv_set1 hok hl', hS.2⟩ ⟨hV.1, ja_lvv_set (fun r e => by cases e; exact hV.2.2.1) hV.2.1, hV.2.2.2⟩ hE
theorem ja_astore_n {M : ja_Mt} {pc pc' : Nat} {lv : List (Option Value)} {st : List Value} {h : ja_H} {ret : List Value} {hf : ja_H} {n : Fin 4} {x : Nat} (d : ja_At M pc (.astore_n n) 1 pc') (hn : (n : Nat) < M.2.2.1) (hok : ja_ok lv (n : Nat) = true) (k : ja_J M pc' (lv.set (n : Nat) (some (.ref x))) st h ret hf) : ja_J M pc lv (.ref x :: st) h ret hf := by
  obtain ⟨d, rfl⟩ := d
  refine ⟨k.1, fun v => k.2.1 ⟨v.1, ja_lvv_set (fun r e => by cases e; exact v.2.2.1) v.2.1, v.2.2.2⟩, fun p l e R s m args below meth c Q D aC A kc ks H ls locs cells slots ads hC hS hV hE => ?_⟩
  refine lv_astore_n hC.1 hC.2.1 d rfl (ja_lv_has hS.1) hn rfl (fun ls' hl' => ?_)
  exact k.2.2 p l e R s m args below meth c Q D aC A kc ks H ls' locs cells slots ads hC ⟨ja_lv_set1 hok hl', hS.2⟩ ⟨hV.1, ja_lvv_set (fun r e => by cases e; exact hV.2.2.1) hV.2.1, hV.2.2.2⟩ hE
theorem ja_astoreX {M : ja_Mt} {pc pc' : Nat} {lv : List (Option Value)} {st : List Value} {h : ja_H} {ret : List Value} {hf : ja_H} {i : Nat} {x : Nat} (d : ja_At M pc (.astore i) 2 pc') (hn : i < M.2.2.1) (hok : ja_ok lv i = true) (k : ja_J M pc' (lv.set i (some (.retAddr x))) st h ret hf) : ja_J M pc lv (.retAddr x :: st) h ret hf := by
  obtain ⟨d, rfl⟩ := d
  refine ⟨k.1, fun v => k.2.1 ⟨v.1, ja_lvv_set (fun r e => by cases e) v.2.1, v.2.2⟩, fun p l e R s m args below meth c Q D aC A kc ks H ls locs cells slots ads hC hS hV hE => ?_⟩
  refine lv_astore hC.1 hC.2.1 d (ja_lv_has hS.1) hn rfl (fun ls' hl' => ?_)
  exact k.2.2 p l e R s m args below meth c Q D aC A kc ks H ls' locs cells slots ads hC ⟨ja_lv_set1 hok hl', hS.2⟩ ⟨hV.1, ja_lvv_set (fun r e => by cases e) hV.2.1, hV.2.2⟩ hE
theorem ja_astore_nX {M : ja_Mt} {pc pc' : Nat} {lv : List (Option Value)} {st : List Value} {h : ja_H} {ret : List Value} {hf : ja_H} {n : Fin 4} {x : Nat} (d : ja_At M pc (.astore_n n) 1 pc') (hn : (n : Nat) < M.2.2.1) (hok : ja_ok lv (n : Nat) = true) (k : ja_J M pc' (lv.set (n : Nat) (some (.retAddr x))) st h ret hf) : ja_J M pc lv (.retAddr x :: st) h ret hf := by
  obtain ⟨d, rfl⟩ := d
  refine ⟨k.1, fun v => k.2.1 ⟨v.1, ja_lvv_set (fun r e => by cases e) v.2.1, v.2.2⟩, fun p l e R s m args below meth c Q D aC A kc ks H ls locs cells slots ads hC hS hV hE => ?_⟩
  refine lv_astore_n hC.1 hC.2.1 d rfl (ja_lv_has hS.1) hn rfl (fun ls' hl' => ?_)
  exact k.2.2 p l e R s m args below meth c Q D aC A kc ks H ls' locs cells slots ads hC ⟨ja_lv_set1 hok hl', hS.2⟩ ⟨hV.1, ja_lvv_set (fun r e => by cases e) hV.2.1, hV.2.2⟩ hE
theorem ja_iinc {M : ja_Mt} {pc pc' : Nat} {lv : List (Option Value)} {st : List Value} {h : ja_H} {ret : List Value} {hf : ja_H} {i : Nat} {n : Int} {x v : Int32} (d : ja_At M pc (.iinc i n) 3 pc') (hl : lv[i]? = some (some (.int x))) (hv : x + Int32.ofInt n = v) (hn : i < M.2.2.1) (hok : ja_ok lv i = true) (k : ja_J M pc' (lv.set i (some (.int v))) st h ret hf) : ja_J M pc lv st h ret hf := by
  obtain ⟨d, rfl⟩ := d
  refine ⟨k.1, fun v => k.2.1 ⟨v.1, ja_lvv_set (fun r e => by cases e) v.2.1, v.2.2⟩, fun p l e R s m args below meth c Q D aC A kc ks H ls locs cells slots ads hC hS hV hE => ?_⟩
  obtain ⟨q, hq⟩ := List.mem_iff_getElem?.mp (ja_lp_mem (ads := ads) hl)
  refine lv_iinc hC.1 hC.2.1 d (ja_lv_has hS.1) hq hv hn rfl (fun ls' hl' => ?_)
  exact k.2.2 p l e R s m args below meth c Q D aC A kc ks H ls' locs cells slots ads hC ⟨ja_lv_set1 (x := .int v) hok hl', hS.2⟩ ⟨hV.1, ja_lvv_set (fun r e => by cases e) hV.2.1, hV.2.2⟩ hE
theorem ja_less {M : ja_Mt} {pc : Nat} {lv lv' : List (Option Value)} {st : List Value} {h : ja_H} {ret : List Value} {hf : ja_H} (hl : ∀ (i : Nat) (v : Value), lv'[i]? = some (some v) → lv[i]? = some (some v)) (k : ja_J M pc lv' st h ret hf) : ja_J M pc lv st h ret hf :=
  ⟨k.1, fun v => k.2.1 ⟨v.1, fun i r hi => v.2.1 i r (hl i _ hi), v.2.2⟩, fun p l e R s m args below meth c Q D aC A kc ks H ls locs cells slots ads hC hS hV hE => k.2.2 p l e R s m args below meth c Q D aC A kc ks H ls locs cells slots ads hC ⟨⟨hS.1.1, hS.1.2.1, fun i v hi => hS.1.2.2 i v (hl i v hi)⟩, hS.2⟩ ⟨hV.1, fun i r hi => hV.2.1 i r (hl i _ hi), hV.2.2⟩ hE⟩
theorem ja_iadd {M : ja_Mt} {pc pc' : Nat} {lv : List (Option Value)} {st : List Value} {h : ja_H} {ret : List Value} {hf : ja_H} {x y : Int32} (d : ja_At M pc .iadd 1 pc')  (k : ja_J M pc' lv (.int (x + y) :: st) h ret hf) : ja_J M pc lv (.int y :: .int x :: st) h ret hf := by
  obtain ⟨d, rfl⟩ := d
  exact ⟨k.1, k.2.1, fun p l e R s m args below meth c Q D aC A kc ks H ls locs cells slots ads hC hS hV hE => lv_iadd hC.1 hC.2.1 d  (k.2.2 p l e R s m args below meth c Q D aC A kc ks H ls locs cells slots ads hC hS hV hE)⟩
theorem ja_isub {M : ja_Mt} {pc pc' : Nat} {lv : List (Option Value)} {st : List Value} {h : ja_H} {ret : List Value} {hf : ja_H} {x y : Int32} (d : ja_At M pc .isub 1 pc')  (k : ja_J M pc' lv (.int (x - y) :: st) h ret hf) : ja_J M pc lv (.int y :: .int x :: st) h ret hf := by
  obtain ⟨d, rfl⟩ := d
  exact ⟨k.1, k.2.1, fun p l e R s m args below meth c Q D aC A kc ks H ls locs cells slots ads hC hS hV hE => lv_isub hC.1 hC.2.1 d  (k.2.2 p l e R s m args below meth c Q D aC A kc ks H ls locs cells slots ads hC hS hV hE)⟩
theorem ja_imul {M : ja_Mt} {pc pc' : Nat} {lv : List (Option Value)} {st : List Value} {h : ja_H} {ret : List Value} {hf : ja_H} {x y : Int32} (d : ja_At M pc .imul 1 pc')  (k : ja_J M pc' lv (.int (x * y) :: st) h ret hf) : ja_J M pc lv (.int y :: .int x :: st) h ret hf := by
  obtain ⟨d, rfl⟩ := d
  exact ⟨k.1, k.2.1, fun p l e R s m args below meth c Q D aC A kc ks H ls locs cells slots ads hC hS hV hE => lv_imul hC.1 hC.2.1 d  (k.2.2 p l e R s m args below meth c Q D aC A kc ks H ls locs cells slots ads hC hS hV hE)⟩
theorem ja_iand {M : ja_Mt} {pc pc' : Nat} {lv : List (Option Value)} {st : List Value} {h : ja_H} {ret : List Value} {hf : ja_H} {x y : Int32} (d : ja_At M pc .iand 1 pc')  (k : ja_J M pc' lv (.int (x &&& y) :: st) h ret hf) : ja_J M pc lv (.int y :: .int x :: st) h ret hf := by
  obtain ⟨d, rfl⟩ := d
  exact ⟨k.1, k.2.1, fun p l e R s m args below meth c Q D aC A kc ks H ls locs cells slots ads hC hS hV hE => lv_iand hC.1 hC.2.1 d  (k.2.2 p l e R s m args below meth c Q D aC A kc ks H ls locs cells slots ads hC hS hV hE)⟩
theorem ja_ior {M : ja_Mt} {pc pc' : Nat} {lv : List (Option Value)} {st : List Value} {h : ja_H} {ret : List Value} {hf : ja_H} {x y : Int32} (d : ja_At M pc .ior 1 pc')  (k : ja_J M pc' lv (.int (x ||| y) :: st) h ret hf) : ja_J M pc lv (.int y :: .int x :: st) h ret hf := by
  obtain ⟨d, rfl⟩ := d
  exact ⟨k.1, k.2.1, fun p l e R s m args below meth c Q D aC A kc ks H ls locs cells slots ads hC hS hV hE => lv_ior hC.1 hC.2.1 d  (k.2.2 p l e R s m args below meth c Q D aC A kc ks H ls locs cells slots ads hC hS hV hE)⟩
theorem ja_ixor {M : ja_Mt} {pc pc' : Nat} {lv : List (Option Value)} {st : List Value} {h : ja_H} {ret : List Value} {hf : ja_H} {x y : Int32} (d : ja_At M pc .ixor 1 pc')  (k : ja_J M pc' lv (.int (x ^^^ y) :: st) h ret hf) : ja_J M pc lv (.int y :: .int x :: st) h ret hf := by
  obtain ⟨d, rfl⟩ := d
  exact ⟨k.1, k.2.1, fun p l e R s m args below meth c Q D aC A kc ks H ls locs cells slots ads hC hS hV hE => lv_ixor hC.1 hC.2.1 d  (k.2.2 p l e R s m args below meth c Q D aC A kc ks H ls locs cells slots ads hC hS hV hE)⟩
theorem ja_ishl {M : ja_Mt} {pc pc' : Nat} {lv : List (Option Value)} {st : List Value} {h : ja_H} {ret : List Value} {hf : ja_H} {x y : Int32} (d : ja_At M pc .ishl 1 pc')  (k : ja_J M pc' lv (.int (x <<< (y &&& 31)) :: st) h ret hf) : ja_J M pc lv (.int y :: .int x :: st) h ret hf := by
  obtain ⟨d, rfl⟩ := d
  exact ⟨k.1, k.2.1, fun p l e R s m args below meth c Q D aC A kc ks H ls locs cells slots ads hC hS hV hE => lv_ishl hC.1 hC.2.1 d  (k.2.2 p l e R s m args below meth c Q D aC A kc ks H ls locs cells slots ads hC hS hV hE)⟩
theorem ja_ishr {M : ja_Mt} {pc pc' : Nat} {lv : List (Option Value)} {st : List Value} {h : ja_H} {ret : List Value} {hf : ja_H} {x y : Int32} (d : ja_At M pc .ishr 1 pc')  (k : ja_J M pc' lv (.int (x >>> (y &&& 31)) :: st) h ret hf) : ja_J M pc lv (.int y :: .int x :: st) h ret hf := by
  obtain ⟨d, rfl⟩ := d
  exact ⟨k.1, k.2.1, fun p l e R s m args below meth c Q D aC A kc ks H ls locs cells slots ads hC hS hV hE => lv_ishr hC.1 hC.2.1 d  (k.2.2 p l e R s m args below meth c Q D aC A kc ks H ls locs cells slots ads hC hS hV hE)⟩
theorem ja_idiv {M : ja_Mt} {pc pc' : Nat} {lv : List (Option Value)} {st : List Value} {h : ja_H} {ret : List Value} {hf : ja_H} {x y : Int32} (d : ja_At M pc .idiv 1 pc') (hne : ¬ y = 0) (k : ja_J M pc' lv (.int (x / y) :: st) h ret hf) : ja_J M pc lv (.int y :: .int x :: st) h ret hf := by
  obtain ⟨d, rfl⟩ := d
  exact ⟨k.1, k.2.1, fun p l e R s m args below meth c Q D aC A kc ks H ls locs cells slots ads hC hS hV hE => lv_idiv hC.1 hC.2.1 d hne (k.2.2 p l e R s m args below meth c Q D aC A kc ks H ls locs cells slots ads hC hS hV hE)⟩
theorem ja_irem {M : ja_Mt} {pc pc' : Nat} {lv : List (Option Value)} {st : List Value} {h : ja_H} {ret : List Value} {hf : ja_H} {x y : Int32} (d : ja_At M pc .irem 1 pc') (hne : ¬ y = 0) (k : ja_J M pc' lv (.int (x - x / y * y) :: st) h ret hf) : ja_J M pc lv (.int y :: .int x :: st) h ret hf := by
  obtain ⟨d, rfl⟩ := d
  exact ⟨k.1, k.2.1, fun p l e R s m args below meth c Q D aC A kc ks H ls locs cells slots ads hC hS hV hE => lv_irem hC.1 hC.2.1 d hne (k.2.2 p l e R s m args below meth c Q D aC A kc ks H ls locs cells slots ads hC hS hV hE)⟩
theorem ja_ineg {M : ja_Mt} {pc pc' : Nat} {lv : List (Option Value)} {st : List Value} {h : ja_H} {ret : List Value} {hf : ja_H} {x : Int32} (d : ja_At M pc .ineg 1 pc')  (k : ja_J M pc' lv (.int (-x) :: st) h ret hf) : ja_J M pc lv (.int x :: st) h ret hf := by
  obtain ⟨d, rfl⟩ := d
  exact ⟨k.1, k.2.1, fun p l e R s m args below meth c Q D aC A kc ks H ls locs cells slots ads hC hS hV hE => lv_ineg hC.1 hC.2.1 d  (k.2.2 p l e R s m args below meth c Q D aC A kc ks H ls locs cells slots ads hC hS hV hE)⟩
theorem ja_ladd {M : ja_Mt} {pc pc' : Nat} {lv : List (Option Value)} {st : List Value} {h : ja_H} {ret : List Value} {hf : ja_H} {x y : Int64} (d : ja_At M pc .ladd 1 pc')  (k : ja_J M pc' lv (.long (x + y) :: st) h ret hf) : ja_J M pc lv (.long y :: .long x :: st) h ret hf := by
  obtain ⟨d, rfl⟩ := d
  exact ⟨k.1, k.2.1, fun p l e R s m args below meth c Q D aC A kc ks H ls locs cells slots ads hC hS hV hE => lv_ladd hC.1 hC.2.1 d  (k.2.2 p l e R s m args below meth c Q D aC A kc ks H ls locs cells slots ads hC hS hV hE)⟩
theorem ja_lsub {M : ja_Mt} {pc pc' : Nat} {lv : List (Option Value)} {st : List Value} {h : ja_H} {ret : List Value} {hf : ja_H} {x y : Int64} (d : ja_At M pc .lsub 1 pc')  (k : ja_J M pc' lv (.long (x - y) :: st) h ret hf) : ja_J M pc lv (.long y :: .long x :: st) h ret hf := by
  obtain ⟨d, rfl⟩ := d
  exact ⟨k.1, k.2.1, fun p l e R s m args below meth c Q D aC A kc ks H ls locs cells slots ads hC hS hV hE => lv_lsub hC.1 hC.2.1 d  (k.2.2 p l e R s m args below meth c Q D aC A kc ks H ls locs cells slots ads hC hS hV hE)⟩
theorem ja_lmul {M : ja_Mt} {pc pc' : Nat} {lv : List (Option Value)} {st : List Value} {h : ja_H} {ret : List Value} {hf : ja_H} {x y : Int64} (d : ja_At M pc .lmul 1 pc')  (k : ja_J M pc' lv (.long (x * y) :: st) h ret hf) : ja_J M pc lv (.long y :: .long x :: st) h ret hf := by
  obtain ⟨d, rfl⟩ := d
  exact ⟨k.1, k.2.1, fun p l e R s m args below meth c Q D aC A kc ks H ls locs cells slots ads hC hS hV hE => lv_lmul hC.1 hC.2.1 d  (k.2.2 p l e R s m args below meth c Q D aC A kc ks H ls locs cells slots ads hC hS hV hE)⟩
theorem ja_land {M : ja_Mt} {pc pc' : Nat} {lv : List (Option Value)} {st : List Value} {h : ja_H} {ret : List Value} {hf : ja_H} {x y : Int64} (d : ja_At M pc .land 1 pc')  (k : ja_J M pc' lv (.long (x &&& y) :: st) h ret hf) : ja_J M pc lv (.long y :: .long x :: st) h ret hf := by
  obtain ⟨d, rfl⟩ := d
  exact ⟨k.1, k.2.1, fun p l e R s m args below meth c Q D aC A kc ks H ls locs cells slots ads hC hS hV hE => lv_land hC.1 hC.2.1 d  (k.2.2 p l e R s m args below meth c Q D aC A kc ks H ls locs cells slots ads hC hS hV hE)⟩
theorem ja_lor {M : ja_Mt} {pc pc' : Nat} {lv : List (Option Value)} {st : List Value} {h : ja_H} {ret : List Value} {hf : ja_H} {x y : Int64} (d : ja_At M pc .lor 1 pc')  (k : ja_J M pc' lv (.long (x ||| y) :: st) h ret hf) : ja_J M pc lv (.long y :: .long x :: st) h ret hf := by
  obtain ⟨d, rfl⟩ := d
  exact ⟨k.1, k.2.1, fun p l e R s m args below meth c Q D aC A kc ks H ls locs cells slots ads hC hS hV hE => lv_lor hC.1 hC.2.1 d  (k.2.2 p l e R s m args below meth c Q D aC A kc ks H ls locs cells slots ads hC hS hV hE)⟩
theorem ja_lxor {M : ja_Mt} {pc pc' : Nat} {lv : List (Option Value)} {st : List Value} {h : ja_H} {ret : List Value} {hf : ja_H} {x y : Int64} (d : ja_At M pc .lxor 1 pc')  (k : ja_J M pc' lv (.long (x ^^^ y) :: st) h ret hf) : ja_J M pc lv (.long y :: .long x :: st) h ret hf := by
  obtain ⟨d, rfl⟩ := d
  exact ⟨k.1, k.2.1, fun p l e R s m args below meth c Q D aC A kc ks H ls locs cells slots ads hC hS hV hE => lv_lxor hC.1 hC.2.1 d  (k.2.2 p l e R s m args below meth c Q D aC A kc ks H ls locs cells slots ads hC hS hV hE)⟩
theorem ja_ldiv {M : ja_Mt} {pc pc' : Nat} {lv : List (Option Value)} {st : List Value} {h : ja_H} {ret : List Value} {hf : ja_H} {x y : Int64} (d : ja_At M pc .ldiv 1 pc') (hne : ¬ y = 0) (k : ja_J M pc' lv (.long (x / y) :: st) h ret hf) : ja_J M pc lv (.long y :: .long x :: st) h ret hf := by
  obtain ⟨d, rfl⟩ := d
  exact ⟨k.1, k.2.1, fun p l e R s m args below meth c Q D aC A kc ks H ls locs cells slots ads hC hS hV hE => lv_ldiv hC.1 hC.2.1 d hne (k.2.2 p l e R s m args below meth c Q D aC A kc ks H ls locs cells slots ads hC hS hV hE)⟩
theorem ja_lrem {M : ja_Mt} {pc pc' : Nat} {lv : List (Option Value)} {st : List Value} {h : ja_H} {ret : List Value} {hf : ja_H} {x y : Int64} (d : ja_At M pc .lrem 1 pc') (hne : ¬ y = 0) (k : ja_J M pc' lv (.long (x - x / y * y) :: st) h ret hf) : ja_J M pc lv (.long y :: .long x :: st) h ret hf := by
  obtain ⟨d, rfl⟩ := d
  exact ⟨k.1, k.2.1, fun p l e R s m args below meth c Q D aC A kc ks H ls locs cells slots ads hC hS hV hE => lv_lrem hC.1 hC.2.1 d hne (k.2.2 p l e R s m args below meth c Q D aC A kc ks H ls locs cells slots ads hC hS hV hE)⟩
theorem ja_lneg {M : ja_Mt} {pc pc' : Nat} {lv : List (Option Value)} {st : List Value} {h : ja_H} {ret : List Value} {hf : ja_H} {x : Int64} (d : ja_At M pc .lneg 1 pc')  (k : ja_J M pc' lv (.long (-x) :: st) h ret hf) : ja_J M pc lv (.long x :: st) h ret hf := by
  obtain ⟨d, rfl⟩ := d
  exact ⟨k.1, k.2.1, fun p l e R s m args below meth c Q D aC A kc ks H ls locs cells slots ads hC hS hV hE => lv_lneg hC.1 hC.2.1 d  (k.2.2 p l e R s m args below meth c Q D aC A kc ks H ls locs cells slots ads hC hS hV hE)⟩
theorem ja_i2l {M : ja_Mt} {pc pc' : Nat} {lv : List (Option Value)} {st : List Value} {h : ja_H} {ret : List Value} {hf : ja_H} {x : Int32} (d : ja_At M pc .i2l 1 pc')  (k : ja_J M pc' lv (.long x.toInt64 :: st) h ret hf) : ja_J M pc lv (.int x :: st) h ret hf := by
  obtain ⟨d, rfl⟩ := d
  exact ⟨k.1, k.2.1, fun p l e R s m args below meth c Q D aC A kc ks H ls locs cells slots ads hC hS hV hE => lv_i2l hC.1 hC.2.1 d rfl (k.2.2 p l e R s m args below meth c Q D aC A kc ks H ls locs cells slots ads hC hS hV hE)⟩
theorem ja_l2i {M : ja_Mt} {pc pc' : Nat} {lv : List (Option Value)} {st : List Value} {h : ja_H} {ret : List Value} {hf : ja_H} {x : Int64} (d : ja_At M pc .l2i 1 pc')  (k : ja_J M pc' lv (.int x.toInt32 :: st) h ret hf) : ja_J M pc lv (.long x :: st) h ret hf := by
  obtain ⟨d, rfl⟩ := d
  exact ⟨k.1, k.2.1, fun p l e R s m args below meth c Q D aC A kc ks H ls locs cells slots ads hC hS hV hE => lv_l2i hC.1 hC.2.1 d rfl (k.2.2 p l e R s m args below meth c Q D aC A kc ks H ls locs cells slots ads hC hS hV hE)⟩
theorem ja_i2b {M : ja_Mt} {pc pc' : Nat} {lv : List (Option Value)} {st : List Value} {h : ja_H} {ret : List Value} {hf : ja_H} {x : Int32} (d : ja_At M pc .i2b 1 pc')  (k : ja_J M pc' lv (.int x.toInt8.toInt32 :: st) h ret hf) : ja_J M pc lv (.int x :: st) h ret hf := by
  obtain ⟨d, rfl⟩ := d
  exact ⟨k.1, k.2.1, fun p l e R s m args below meth c Q D aC A kc ks H ls locs cells slots ads hC hS hV hE => lv_i2b hC.1 hC.2.1 d rfl (k.2.2 p l e R s m args below meth c Q D aC A kc ks H ls locs cells slots ads hC hS hV hE)⟩
theorem ja_i2s {M : ja_Mt} {pc pc' : Nat} {lv : List (Option Value)} {st : List Value} {h : ja_H} {ret : List Value} {hf : ja_H} {x : Int32} (d : ja_At M pc .i2s 1 pc')  (k : ja_J M pc' lv (.int x.toInt16.toInt32 :: st) h ret hf) : ja_J M pc lv (.int x :: st) h ret hf := by
  obtain ⟨d, rfl⟩ := d
  exact ⟨k.1, k.2.1, fun p l e R s m args below meth c Q D aC A kc ks H ls locs cells slots ads hC hS hV hE => lv_i2s hC.1 hC.2.1 d rfl (k.2.2 p l e R s m args below meth c Q D aC A kc ks H ls locs cells slots ads hC hS hV hE)⟩
theorem ja_iushr {M : ja_Mt} {pc pc' : Nat} {lv : List (Option Value)} {st : List Value} {h : ja_H} {ret : List Value} {hf : ja_H} {x y : Int32} (d : ja_At M pc .iushr 1 pc')  (k : ja_J M pc' lv (.int (x.toUInt32 >>> (y.toUInt32 &&& Int32.toUInt32 31)).toInt32 :: st) h ret hf) : ja_J M pc lv (.int y :: .int x :: st) h ret hf := by
  obtain ⟨d, rfl⟩ := d
  exact ⟨k.1, k.2.1, fun p l e R s m args below meth c Q D aC A kc ks H ls locs cells slots ads hC hS hV hE => lv_iushr hC.1 hC.2.1 d rfl (k.2.2 p l e R s m args below meth c Q D aC A kc ks H ls locs cells slots ads hC hS hV hE)⟩
theorem ja_lushr {M : ja_Mt} {pc pc' : Nat} {lv : List (Option Value)} {st : List Value} {h : ja_H} {ret : List Value} {hf : ja_H} {x : Int64} {y : Int32} (d : ja_At M pc .lushr 1 pc')  (k : ja_J M pc' lv (.long (x.toUInt64 >>> (y.toInt64.toUInt64 &&& Int64.toUInt64 63)).toInt64 :: st) h ret hf) : ja_J M pc lv (.int y :: .long x :: st) h ret hf := by
  obtain ⟨d, rfl⟩ := d
  exact ⟨k.1, k.2.1, fun p l e R s m args below meth c Q D aC A kc ks H ls locs cells slots ads hC hS hV hE => lv_lushr hC.1 hC.2.1 d rfl (k.2.2 p l e R s m args below meth c Q D aC A kc ks H ls locs cells slots ads hC hS hV hE)⟩
theorem ja_lshl {M : ja_Mt} {pc pc' : Nat} {lv : List (Option Value)} {st : List Value} {h : ja_H} {ret : List Value} {hf : ja_H} {x : Int64} {y : Int32} (d : ja_At M pc .lshl 1 pc')  (k : ja_J M pc' lv (.long (x <<< (y.toInt64 &&& 63)) :: st) h ret hf) : ja_J M pc lv (.int y :: .long x :: st) h ret hf := by
  obtain ⟨d, rfl⟩ := d
  exact ⟨k.1, k.2.1, fun p l e R s m args below meth c Q D aC A kc ks H ls locs cells slots ads hC hS hV hE => lv_lshl hC.1 hC.2.1 d rfl (k.2.2 p l e R s m args below meth c Q D aC A kc ks H ls locs cells slots ads hC hS hV hE)⟩
theorem ja_lshr {M : ja_Mt} {pc pc' : Nat} {lv : List (Option Value)} {st : List Value} {h : ja_H} {ret : List Value} {hf : ja_H} {x : Int64} {y : Int32} (d : ja_At M pc .lshr 1 pc')  (k : ja_J M pc' lv (.long (x >>> (y.toInt64 &&& 63)) :: st) h ret hf) : ja_J M pc lv (.int y :: .long x :: st) h ret hf := by
  obtain ⟨d, rfl⟩ := d
  exact ⟨k.1, k.2.1, fun p l e R s m args below meth c Q D aC A kc ks H ls locs cells slots ads hC hS hV hE => lv_lshr hC.1 hC.2.1 d rfl (k.2.2 p l e R s m args below meth c Q D aC A kc ks H ls locs cells slots ads hC hS hV hE)⟩
theorem ja_dupI {M : ja_Mt} {pc pc' : Nat} {lv : List (Option Value)} {st : List Value} {h : ja_H} {ret : List Value} {hf : ja_H} {x : Int32} (d : ja_At M pc .dup 1 pc')  (k : ja_J M pc' lv (.int x :: .int x :: st) h ret hf) : ja_J M pc lv (.int x :: st) h ret hf := by
  obtain ⟨d, rfl⟩ := d
  exact ⟨k.1, k.2.1, fun p l e R s m args below meth c Q D aC A kc ks H ls locs cells slots ads hC hS hV hE => lv_dup hC.1 hC.2.1 d rfl (k.2.2 p l e R s m args below meth c Q D aC A kc ks H ls locs cells slots ads hC hS hV hE)⟩
theorem ja_dupR {M : ja_Mt} {pc pc' : Nat} {lv : List (Option Value)} {st : List Value} {h : ja_H} {ret : List Value} {hf : ja_H} {x : Nat} (d : ja_At M pc .dup 1 pc') (k : ja_J M pc' lv (.ref x :: .ref x :: st) h ret hf) : ja_J M pc lv (.ref x :: st) h ret hf := by
  obtain ⟨d, rfl⟩ := d
  exact ⟨k.1, fun v => k.2.1 ⟨v.1, v.2.1, v.2.2.1, v.2.2⟩, fun p l e R s m args below meth c Q D aC A kc ks H ls locs cells slots ads hC hS hV hE => lv_dup hC.1 hC.2.1 d rfl (k.2.2 p l e R s m args below meth c Q D aC A kc ks H ls locs cells slots ads hC hS ⟨hV.1, hV.2.1, hV.2.2.1, hV.2.2⟩ hE)⟩
theorem ja_dup2 {M : ja_Mt} {pc pc' : Nat} {lv : List (Option Value)} {st : List Value} {h : ja_H} {ret : List Value} {hf : ja_H} {x : Int32} {a : Nat} (d : ja_At M pc .dup2 1 pc') (k : ja_J M pc' lv (.int x :: .ref a :: .int x :: .ref a :: st) h ret hf) : ja_J M pc lv (.int x :: .ref a :: st) h ret hf := by
  obtain ⟨d, rfl⟩ := d
  exact ⟨k.1, fun v => k.2.1 ⟨v.1, v.2.1, v.2.2.1, v.2.2⟩, fun p l e R s m args below meth c Q D aC A kc ks H ls locs cells slots ads hC hS hV hE => lv_dup2_11 hC.1 hC.2.1 d rfl rfl (k.2.2 p l e R s m args below meth c Q D aC A kc ks H ls locs cells slots ads hC hS ⟨hV.1, hV.2.1, hV.2.2.1, hV.2.2⟩ hE)⟩
theorem ja_popI {M : ja_Mt} {pc pc' : Nat} {lv : List (Option Value)} {st : List Value} {h : ja_H} {ret : List Value} {hf : ja_H} {x : Int32} (d : ja_At M pc .pop 1 pc') (k : ja_J M pc' lv st h ret hf) : ja_J M pc lv (.int x :: st) h ret hf := by
  obtain ⟨d, rfl⟩ := d
  exact ⟨k.1, k.2.1, fun p l e R s m args below meth c Q D aC A kc ks H ls locs cells slots ads hC hS hV hE => lv_pop hC.1 hC.2.1 d rfl (k.2.2 p l e R s m args below meth c Q D aC A kc ks H ls locs cells slots ads hC hS hV hE)⟩
theorem ja_if_eq {M : ja_Mt} {pc pc' : Nat} {lv : List (Option Value)} {st : List Value} {h : ja_H} {ret : List Value} {hf : ja_H} {x : Int32} {off : Int} {tgt : Nat} (d : ja_At M pc (.ifCond .eq off) 3 pc') (ht : (pc : Int) + off = (tgt : Int)) (kt : x = 0 → ja_J M tgt lv st h ret hf) (kf : ¬ x = 0 → ja_J M pc' lv st h ret hf) : ja_J M pc lv (.int x :: st) h ret hf := by
  obtain ⟨d, rfl⟩ := d
  have k : ja_J M tgt lv st h ret hf ∨ ja_J M (pc + 3) lv st h ret hf := by
    by_cases hc : x = 0
    · exact Or.inl (kt hc)
    · exact Or.inr (kf (by first | exact hc | exact Classical.not_not.mp hc))
  exact ⟨k.elim (fun k => k.1) (fun k => k.1), k.elim (fun k => k.2.1) (fun k => k.2.1), fun p l e R s m args below meth c Q D aC A kc ks H ls locs cells slots ads hC hS hV hE => lv_if_eq hC.1 hC.2.1 d ht (fun q => (kt q).2.2 p l e R s m args below meth c Q D aC A kc ks H ls locs cells slots ads hC hS hV hE) (fun q => (kf q).2.2 p l e R s m args below meth c Q D aC A kc ks H ls locs cells slots ads hC hS hV hE)⟩
theorem ja_icmp_eq {M : ja_Mt} {pc pc' : Nat} {lv : List (Option Value)} {st : List Value} {h : ja_H} {ret : List Value} {hf : ja_H} {x y : Int32} {off : Int} {tgt : Nat} (d : ja_At M pc (.if_icmp .eq off) 3 pc') (ht : (pc : Int) + off = (tgt : Int)) (kt : x = y → ja_J M tgt lv st h ret hf) (kf : ¬ x = y → ja_J M pc' lv st h ret hf) : ja_J M pc lv (.int y :: .int x :: st) h ret hf := by
  obtain ⟨d, rfl⟩ := d
  have k : ja_J M tgt lv st h ret hf ∨ ja_J M (pc + 3) lv st h ret hf := by
    by_cases hc : x = y
    · exact Or.inl (kt hc)
    · exact Or.inr (kf (by first | exact hc | exact Classical.not_not.mp hc))
  exact ⟨k.elim (fun k => k.1) (fun k => k.1), k.elim (fun k => k.2.1) (fun k => k.2.1), fun p l e R s m args below meth c Q D aC A kc ks H ls locs cells slots ads hC hS hV hE => lv_icmp_eq hC.1 hC.2.1 d ht (fun q => (kt q).2.2 p l e R s m args below meth c Q D aC A kc ks H ls locs cells slots ads hC hS hV hE) (fun q => (kf q).2.2 p l e R s m args below meth c Q D aC A kc ks H ls locs cells slots ads hC hS hV hE)⟩
theorem ja_if_ne {M : ja_Mt} {pc pc' : Nat} {lv : List (Option Value)} {st : List Value} {h : ja_H} {ret : List Value} {hf : ja_H} {x : Int32} {off : Int} {tgt : Nat} (d : ja_At M pc (.ifCond .ne off) 3 pc') (ht : (pc : Int) + off = (tgt : Int)) (kt : ¬ x = 0 → ja_J M tgt lv st h ret hf) (kf : x = 0 → ja_J M pc' lv st h ret hf) : ja_J M pc lv (.int x :: st) h ret hf := by
  obtain ⟨d, rfl⟩ := d
  have k : ja_J M tgt lv st h ret hf ∨ ja_J M (pc + 3) lv st h ret hf := by
    by_cases hc : ¬ x = 0
    · exact Or.inl (kt hc)
    · exact Or.inr (kf (by first | exact hc | exact Classical.not_not.mp hc))
  exact ⟨k.elim (fun k => k.1) (fun k => k.1), k.elim (fun k => k.2.1) (fun k => k.2.1), fun p l e R s m args below meth c Q D aC A kc ks H ls locs cells slots ads hC hS hV hE => lv_if_ne hC.1 hC.2.1 d ht (fun q => (kt q).2.2 p l e R s m args below meth c Q D aC A kc ks H ls locs cells slots ads hC hS hV hE) (fun q => (kf q).2.2 p l e R s m args below meth c Q D aC A kc ks H ls locs cells slots ads hC hS hV hE)⟩
theorem ja_icmp_ne {M : ja_Mt} {pc pc' : Nat} {lv : List (Option Value)} {st : List Value} {h : ja_H} {ret : List Value} {hf : ja_H} {x y : Int32} {off : Int} {tgt : Nat} (d : ja_At M pc (.if_icmp .ne off) 3 pc') (ht : (pc : Int) + off = (tgt : Int)) (kt : ¬ x = y → ja_J M tgt lv st h ret hf) (kf : x = y → ja_J M pc' lv st h ret hf) : ja_J M pc lv (.int y :: .int x :: st) h ret hf := by
  obtain ⟨d, rfl⟩ := d
  have k : ja_J M tgt lv st h ret hf ∨ ja_J M (pc + 3) lv st h ret hf := by
    by_cases hc : ¬ x = y
    · exact Or.inl (kt hc)
    · exact Or.inr (kf (by first | exact hc | exact Classical.not_not.mp hc))
  exact ⟨k.elim (fun k => k.1) (fun k => k.1), k.elim (fun k => k.2.1) (fun k => k.2.1), fun p l e R s m args below meth c Q D aC A kc ks H ls locs cells slots ads hC hS hV hE => lv_icmp_ne hC.1 hC.2.1 d ht (fun q => (kt q).2.2 p l e R s m args below meth c Q D aC A kc ks H ls locs cells slots ads hC hS hV hE) (fun q => (kf q).2.2 p l e R s m args below meth c Q D aC A kc ks H ls locs cells slots ads hC hS hV hE)⟩
theorem ja_if_lt {M : ja_Mt} {pc pc' : Nat} {lv : List (Option Value)} {st : List Value} {h : ja_H} {ret : List Value} {hf : ja_H} {x : Int32} {off : Int} {tgt : Nat} (d : ja_At M pc (.ifCond .lt off) 3 pc') (ht : (pc : Int) + off = (tgt : Int)) (kt : x < 0 → ja_J M tgt lv st h ret hf) (kf : ¬ x < 0 → ja_J M pc' lv st h ret hf) : ja_J M pc lv (.int x :: st) h ret hf := by
  obtain ⟨d, rfl⟩ := d
  have k : ja_J M tgt lv st h ret hf ∨ ja_J M (pc + 3) lv st h ret hf := by
    by_cases hc : x < 0
    · exact Or.inl (kt hc)
    · exact Or.inr (kf (by first | exact hc | exact Classical.not_not.mp hc))
  exact ⟨k.elim (fun k => k.1) (fun k => k.1), k.elim (fun k => k.2.1) (fun k => k.2.1), fun p l e R s m args below meth c Q D aC A kc ks H ls locs cells slots ads hC hS hV hE => lv_if_lt hC.1 hC.2.1 d ht (fun q => (kt q).2.2 p l e R s m args below meth c Q D aC A kc ks H ls locs cells slots ads hC hS hV hE) (fun q => (kf q).2.2 p l e R s m args below meth c Q D aC A kc ks H ls locs cells slots ads hC hS hV hE)⟩
theorem ja_icmp_lt {M : ja_Mt} {pc pc' : Nat} {lv : List (Option Value)} {st : List Value} {h : ja_H} {ret : List Value} {hf : ja_H} {x y : Int32} {off : Int} {tgt : Nat} (d : ja_At M pc (.if_icmp .lt off) 3 pc') (ht : (pc : Int) + off = (tgt : Int)) (kt : x < y → ja_J M tgt lv st h ret hf) (kf : ¬ x < y → ja_J M pc' lv st h ret hf) : ja_J M pc lv (.int y :: .int x :: st) h ret hf := by
  obtain ⟨d, rfl⟩ := d
  have k : ja_J M tgt lv st h ret hf ∨ ja_J M (pc + 3) lv st h ret hf := by
    by_cases hc : x < y
    · exact Or.inl (kt hc)
    · exact Or.inr (kf (by first | exact hc | exact Classical.not_not.mp hc))
  exact ⟨k.elim (fun k => k.1) (fun k => k.1), k.elim (fun k => k.2.1) (fun k => k.2.1), fun p l e R s m args below meth c Q D aC A kc ks H ls locs cells slots ads hC hS hV hE => lv_icmp_lt hC.1 hC.2.1 d ht (fun q => (kt q).2.2 p l e R s m args below meth c Q D aC A kc ks H ls locs cells slots ads hC hS hV hE) (fun q => (kf q).2.2 p l e R s m args below meth c Q D aC A kc ks H ls locs cells slots ads hC hS hV hE)⟩
theorem ja_if_ge {M : ja_Mt} {pc pc' : Nat} {lv : List (Option Value)} {st : List Value} {h : ja_H} {ret : List Value} {hf : ja_H} {x : Int32} {off : Int} {tgt : Nat} (d : ja_At M pc (.ifCond .ge off) 3 pc') (ht : (pc : Int) + off = (tgt : Int)) (kt : 0 ≤ x → ja_J M tgt lv st h ret hf) (kf : ¬ 0 ≤ x → ja_J M pc' lv st h ret hf) : ja_J M pc lv (.int x :: st) h ret hf := by
  obtain ⟨d, rfl⟩ := d
  have k : ja_J M tgt lv st h ret hf ∨ ja_J M (pc + 3) lv st h ret hf := by
    by_cases hc : 0 ≤ x
    · exact Or.inl (kt hc)
    · exact Or.inr (kf (by first | exact hc | exact Classical.not_not.mp hc))
  exact ⟨k.elim (fun k => k.1) (fun k => k.1), k.elim (fun k => k.2.1) (fun k => k.2.1), fun p l e R s m args below meth c Q D aC A kc ks H ls locs cells slots ads hC hS hV hE => lv_if_ge hC.1 hC.2.1 d ht (fun q => (kt q).2.2 p l e R s m args below meth c Q D aC A kc ks H ls locs cells slots ads hC hS hV hE) (fun q => (kf q).2.2 p l e R s m args below meth c Q D aC A kc ks H ls locs cells slots ads hC hS hV hE)⟩
theorem ja_icmp_ge {M : ja_Mt} {pc pc' : Nat} {lv : List (Option Value)} {st : List Value} {h : ja_H} {ret : List Value} {hf : ja_H} {x y : Int32} {off : Int} {tgt : Nat} (d : ja_At M pc (.if_icmp .ge off) 3 pc') (ht : (pc : Int) + off = (tgt : Int)) (kt : y ≤ x → ja_J M tgt lv st h ret hf) (kf : ¬ y ≤ x → ja_J M pc' lv st h ret hf) : ja_J M pc lv (.int y :: .int x :: st) h ret hf := by
  obtain ⟨d, rfl⟩ := d
  have k : ja_J M tgt lv st h ret hf ∨ ja_J M (pc + 3) lv st h ret hf := by
    by_cases hc : y ≤ x
    · exact Or.inl (kt hc)
    · exact Or.inr (kf (by first | exact hc | exact Classical.not_not.mp hc))
  exact ⟨k.elim (fun k => k.1) (fun k => k.1), k.elim (fun k => k.2.1) (fun k => k.2.1), fun p l e R s m args below meth c Q D aC A kc ks H ls locs cells slots ads hC hS hV hE => lv_icmp_ge hC.1 hC.2.1 d ht (fun q => (kt q).2.2 p l e R s m args below meth c Q D aC A kc ks H ls locs cells slots ads hC hS hV hE) (fun q => (kf q).2.2 p l e R s m args below meth c Q D aC A kc ks H ls locs cells slots ads hC hS hV hE)⟩
theorem ja_if_gt {M : ja_Mt} {pc pc' : Nat} {lv : List (Option Value)} {st : List Value} {h : ja_H} {ret : List Value} {hf : ja_H} {x : Int32} {off : Int} {tgt : Nat} (d : ja_At M pc (.ifCond .gt off) 3 pc') (ht : (pc : Int) + off = (tgt : Int)) (kt : 0 < x → ja_J M tgt lv st h ret hf) (kf : ¬ 0 < x → ja_J M pc' lv st h ret hf) : ja_J M pc lv (.int x :: st) h ret hf := by
  obtain ⟨d, rfl⟩ := d
  have k : ja_J M tgt lv st h ret hf ∨ ja_J M (pc + 3) lv st h ret hf := by
    by_cases hc : 0 < x
    · exact Or.inl (kt hc)
    · exact Or.inr (kf (by first | exact hc | exact Classical.not_not.mp hc))
  exact ⟨k.elim (fun k => k.1) (fun k => k.1), k.elim (fun k => k.2.1) (fun k => k.2.1), fun p l e R s m args below meth c Q D aC A kc ks H ls locs cells slots ads hC hS hV hE => lv_if_gt hC.1 hC.2.1 d ht (fun q => (kt q).2.2 p l e R s m args below meth c Q D aC A kc ks H ls locs cells slots ads hC hS hV hE) (fun q => (kf q).2.2 p l e R s m args below meth c Q D aC A kc ks H ls locs cells slots ads hC hS hV hE)⟩
theorem ja_icmp_gt {M : ja_Mt} {pc pc' : Nat} {lv : List (Option Value)} {st : List Value} {h : ja_H} {ret : List Value} {hf : ja_H} {x y : Int32} {off : Int} {tgt : Nat} (d : ja_At M pc (.if_icmp .gt off) 3 pc') (ht : (pc : Int) + off = (tgt : Int)) (kt : y < x → ja_J M tgt lv st h ret hf) (kf : ¬ y < x → ja_J M pc' lv st h ret hf) : ja_J M pc lv (.int y :: .int x :: st) h ret hf := by
  obtain ⟨d, rfl⟩ := d
  have k : ja_J M tgt lv st h ret hf ∨ ja_J M (pc + 3) lv st h ret hf := by
    by_cases hc : y < x
    · exact Or.inl (kt hc)
    · exact Or.inr (kf (by first | exact hc | exact Classical.not_not.mp hc))
  exact ⟨k.elim (fun k => k.1) (fun k => k.1), k.elim (fun k => k.2.1) (fun k => k.2.1), fun p l e R s m args below meth c Q D aC A kc ks H ls locs cells slots ads hC hS hV hE => lv_icmp_gt hC.1 hC.2.1 d ht (fun q => (kt q).2.2 p l e R s m args below meth c Q D aC A kc ks H ls locs cells slots ads hC hS hV hE) (fun q => (kf q).2.2 p l e R s m args below meth c Q D aC A kc ks H ls locs cells slots ads hC hS hV hE)⟩
theorem ja_if_le {M : ja_Mt} {pc pc' : Nat} {lv : List (Option Value)} {st : List Value} {h : ja_H} {ret : List Value} {hf : ja_H} {x : Int32} {off : Int} {tgt : Nat} (d : ja_At M pc (.ifCond .le off) 3 pc') (ht : (pc : Int) + off = (tgt : Int)) (kt : x ≤ 0 → ja_J M tgt lv st h ret hf) (kf : ¬ x ≤ 0 → ja_J M pc' lv st h ret hf) : ja_J M pc lv (.int x :: st) h ret hf := by
  obtain ⟨d, rfl⟩ := d
  have k : ja_J M tgt lv st h ret hf ∨ ja_J M (pc + 3) lv st h ret hf := by
    by_cases hc : x ≤ 0
    · exact Or.inl (kt hc)
    · exact Or.inr (kf (by first | exact hc | exact Classical.not_not.mp hc))
  exact ⟨k.elim (fun k => k.1) (fun k => k.1), k.elim (fun k => k.2.1) (fun k => k.2.1), fun p l e R s m args below meth c Q D aC A kc ks H ls locs cells slots ads hC hS hV hE => lv_if_le hC.1 hC.2.1 d ht (fun q => (kt q).2.2 p l e R s m args below meth c Q D aC A kc ks H ls locs cells slots ads hC hS hV hE) (fun q => (kf q).2.2 p l e R s m args below meth c Q D aC A kc ks H ls locs cells slots ads hC hS hV hE)⟩
theorem ja_icmp_le {M : ja_Mt} {pc pc' : Nat} {lv : List (Option Value)} {st : List Value} {h : ja_H} {ret : List Value} {hf : ja_H} {x y : Int32} {off : Int} {tgt : Nat} (d : ja_At M pc (.if_icmp .le off) 3 pc') (ht : (pc : Int) + off = (tgt : Int)) (kt : x ≤ y → ja_J M tgt lv st h ret hf) (kf : ¬ x ≤ y → ja_J M pc' lv st h ret hf) : ja_J M pc lv (.int y :: .int x :: st) h ret hf := by
  obtain ⟨d, rfl⟩ := d
  have k : ja_J M tgt lv st h ret hf ∨ ja_J M (pc + 3) lv st h ret hf := by
    by_cases hc : x ≤ y
    · exact Or.inl (kt hc)
    · exact Or.inr (kf (by first | exact hc | exact Classical.not_not.mp hc))
  exact ⟨k.elim (fun k => k.1) (fun k => k.1), k.elim (fun k => k.2.1) (fun k => k.2.1), fun p l e R s m args below meth c Q D aC A kc ks H ls locs cells slots ads hC hS hV hE => lv_icmp_le hC.1 hC.2.1 d ht (fun q => (kt q).2.2 p l e R s m args below meth c Q D aC A kc ks H ls locs cells slots ads hC hS hV hE) (fun q => (kf q).2.2 p l e R s m args below meth c Q D aC A kc ks H ls locs cells slots ads hC hS hV hE)⟩
theorem ja_goto {M : ja_Mt} {pc pc' : Nat} {lv : List (Option Value)} {st : List Value} {h : ja_H} {ret : List Value} {hf : ja_H} {off : Int} {tgt : Nat} (d : ja_At M pc (.goto off) 3 pc') (ht : (pc : Int) + off = (tgt : Int)) (k : ja_J M tgt lv st h ret hf) : ja_J M pc lv st h ret hf :=
  ⟨k.1, k.2.1, fun p l e R s m args below meth c Q D aC A kc ks H ls locs cells slots ads hC hS hV hE => lv_goto hC.1 hC.2.1 d.1 ht (k.2.2 p l e R s m args below meth c Q D aC A kc ks H ls locs cells slots ads hC hS hV hE)⟩
theorem ja_ifnull {M : ja_Mt} {pc pc' : Nat} {lv : List (Option Value)} {st : List Value} {h : ja_H} {ret : List Value} {hf : ja_H} {x : Nat} {off : Int} (d : ja_At M pc (.ifnull off) 3 pc') (k : ja_J M pc' lv st h ret hf) : ja_J M pc lv (.ref x :: st) h ret hf := by
  obtain ⟨d, rfl⟩ := d
  exact ⟨k.1, fun v => k.2.1 ⟨v.1, v.2.1, v.2.2.2⟩, fun p l e R s m args below meth c Q D aC A kc ks H ls locs cells slots ads hC hS hV hE => lv_ifnull hC.1 hC.2.1 d (k.2.2 p l e R s m args below meth c Q D aC A kc ks H ls locs cells slots ads hC hS ⟨hV.1, hV.2.1, hV.2.2.2⟩ hE)⟩
theorem ja_ifnullN {M : ja_Mt} {pc pc' : Nat} {lv : List (Option Value)} {st : List Value} {h : ja_H} {ret : List Value} {hf : ja_H} {off : Int} {tgt : Nat} (d : ja_At M pc (.ifnull off) 3 pc') (ht : (pc : Int) + off = (tgt : Int)) (k : ja_J M tgt lv st h ret hf) : ja_J M pc lv (.null :: st) h ret hf :=
  ⟨k.1, k.2.1, fun p l e R s m args below meth c Q D aC A kc ks H ls locs cells slots ads hC hS hV hE => lv_ifnullN hC.1 hC.2.1 d.1 ht (k.2.2 p l e R s m args below meth c Q D aC A kc ks H ls locs cells slots ads hC hS hV hE)⟩
theorem ja_ifnonnull {M : ja_Mt} {pc pc' : Nat} {lv : List (Option Value)} {st : List Value} {h : ja_H} {ret : List Value} {hf : ja_H} {x : Nat} {off : Int} {tgt : Nat} (d : ja_At M pc (.ifnonnull off) 3 pc') (ht : (pc : Int) + off = (tgt : Int)) (k : ja_J M tgt lv st h ret hf) : ja_J M pc lv (.ref x :: st) h ret hf :=
  ⟨k.1, fun v => k.2.1 ⟨v.1, v.2.1, v.2.2.2⟩, fun p l e R s m args below meth c Q D aC A kc ks H ls locs cells slots ads hC hS hV hE => lv_ifnonnull hC.1 hC.2.1 d.1 ht (k.2.2 p l e R s m args below meth c Q D aC A kc ks H ls locs cells slots ads hC hS ⟨hV.1, hV.2.1, hV.2.2.2⟩ hE)⟩
theorem ja_ifnonnullN {M : ja_Mt} {pc pc' : Nat} {lv : List (Option Value)} {st : List Value} {h : ja_H} {ret : List Value} {hf : ja_H} {off : Int} (d : ja_At M pc (.ifnonnull off) 3 pc') (k : ja_J M pc' lv st h ret hf) : ja_J M pc lv (.null :: st) h ret hf := by
  obtain ⟨d, rfl⟩ := d
  exact ⟨k.1, k.2.1, fun p l e R s m args below meth c Q D aC A kc ks H ls locs cells slots ads hC hS hV hE => lv_ifnonnullN hC.1 hC.2.1 d (k.2.2 p l e R s m args below meth c Q D aC A kc ks H ls locs cells slots ads hC hS hV hE)⟩
theorem ja_lcmp {M : ja_Mt} {pc pc' : Nat} {lv : List (Option Value)} {st : List Value} {h : ja_H} {ret : List Value} {hf : ja_H} {x y : Int64} (d : ja_At M pc .lcmp 1 pc')  (k : ja_J M pc' lv (.int (lg_cmp x y) :: st) h ret hf) : ja_J M pc lv (.long y :: .long x :: st) h ret hf := by
  obtain ⟨d, rfl⟩ := d
  exact ⟨k.1, k.2.1, fun p l e R s m args below meth c Q D aC A kc ks H ls locs cells slots ads hC hS hV hE => W.lcmp hC.1 hC.2.1 d  (k.2.2 p l e R s m args below meth c Q D aC A kc ks H ls locs cells slots ads hC hS hV hE)⟩
theorem ja_lcmp_lt {M : ja_Mt} {pc pc1 pc' tgt : Nat} {off : Int} {lv : List (Option Value)} {st : List Value} {h : ja_H} {ret : List Value} {hf : ja_H} {x y : Int64} (d : ja_At M pc .lcmp 1 pc1) (d2 : ja_At M pc1 (.ifCond .lt off) 3 pc') (ht : (pc1 : Int) + off = (tgt : Int)) (kt : x < y → ja_J M tgt lv st h ret hf) (kf : ¬ x < y → ja_J M pc' lv st h ret hf) : ja_J M pc lv (.long y :: .long x :: st) h ret hf :=
  ja_lcmp d (ja_if_lt d2 ht (fun q => kt ((lg_cmp_lt x y).mp q)) (fun q => kf (fun z => q ((lg_cmp_lt x y).mpr z))))
theorem ja_lcmp_ge {M : ja_Mt} {pc pc1 pc' tgt : Nat} {off : Int} {lv : List (Option Value)} {st : List Value} {h : ja_H} {ret : List Value} {hf : ja_H} {x y : Int64} (d : ja_At M pc .lcmp 1 pc1) (d2 : ja_At M pc1 (.ifCond .ge off) 3 pc') (ht : (pc1 : Int) + off = (tgt : Int)) (kt : y ≤ x → ja_J M tgt lv st h ret hf) (kf : ¬ y ≤ x → ja_J M pc' lv st h ret hf) : ja_J M pc lv (.long y :: .long x :: st) h ret hf :=
  ja_lcmp d (ja_if_ge d2 ht (fun q => kt ((lg_cmp_ge x y).mp q)) (fun q => kf (fun z => q ((lg_cmp_ge x y).mpr z))))
theorem ja_lcmp_gt {M : ja_Mt} {pc pc1 pc' tgt : Nat} {off : Int} {lv : List (Option Value)} {st : List Value} {h : ja_H} {ret : List Value} {hf : ja_H} {x y : Int64} (d : ja_At M pc .lcmp 1 pc1) (d2 : ja_At M pc1 (.ifCond .gt off) 3 pc') (ht : (pc1 : Int) + off = (tgt : Int)) (kt : y < x → ja_J M tgt lv st h ret hf) (kf : ¬ y < x → ja_J M pc' lv st h ret hf) : ja_J M pc lv (.long y :: .long x :: st) h ret hf :=
  ja_lcmp d (ja_if_gt d2 ht (fun q => kt ((lg_cmp_gt x y).mp q)) (fun q => kf (fun z => q ((lg_cmp_gt x y).mpr z))))
theorem ja_lcmp_le {M : ja_Mt} {pc pc1 pc' tgt : Nat} {off : Int} {lv : List (Option Value)} {st : List Value} {h : ja_H} {ret : List Value} {hf : ja_H} {x y : Int64} (d : ja_At M pc .lcmp 1 pc1) (d2 : ja_At M pc1 (.ifCond .le off) 3 pc') (ht : (pc1 : Int) + off = (tgt : Int)) (kt : x ≤ y → ja_J M tgt lv st h ret hf) (kf : ¬ x ≤ y → ja_J M pc' lv st h ret hf) : ja_J M pc lv (.long y :: .long x :: st) h ret hf :=
  ja_lcmp d (ja_if_le d2 ht (fun q => kt ((lg_cmp_le x y).mp q)) (fun q => kf (fun z => q ((lg_cmp_le x y).mpr z))))
theorem ja_lcmp_eq {M : ja_Mt} {pc pc1 pc' tgt : Nat} {off : Int} {lv : List (Option Value)} {st : List Value} {h : ja_H} {ret : List Value} {hf : ja_H} {x y : Int64} (d : ja_At M pc .lcmp 1 pc1) (d2 : ja_At M pc1 (.ifCond .eq off) 3 pc') (ht : (pc1 : Int) + off = (tgt : Int)) (kt : x = y → ja_J M tgt lv st h ret hf) (kf : ¬ x = y → ja_J M pc' lv st h ret hf) : ja_J M pc lv (.long y :: .long x :: st) h ret hf :=
  ja_lcmp d (ja_if_eq d2 ht (fun q => kt ((lg_cmp_eq x y).mp q)) (fun q => kf (fun z => q ((lg_cmp_eq x y).mpr z))))
theorem ja_lcmp_ne {M : ja_Mt} {pc pc1 pc' tgt : Nat} {off : Int} {lv : List (Option Value)} {st : List Value} {h : ja_H} {ret : List Value} {hf : ja_H} {x y : Int64} (d : ja_At M pc .lcmp 1 pc1) (d2 : ja_At M pc1 (.ifCond .ne off) 3 pc') (ht : (pc1 : Int) + off = (tgt : Int)) (kt : ¬ x = y → ja_J M tgt lv st h ret hf) (kf : x = y → ja_J M pc' lv st h ret hf) : ja_J M pc lv (.long y :: .long x :: st) h ret hf :=
  ja_lcmp d (ja_if_ne d2 ht (fun q => kt (fun z => q ((lg_cmp_eq x y).mpr z))) (fun q => kf ((lg_cmp_eq x y).mp q)))
theorem ja_tsIn {M : ja_Mt} {pc pc' : Nat} {lv : List (Option Value)} {st : List Value} {h : ja_H} {ret : List Value} {hf : ja_H} {dflt lo hi : Int} {offs : Array Int} {len : Nat} {x : Int32} {off : Int} {tgt : Nat} (d : ja_At M pc (.tableswitch dflt lo hi offs) len pc') (v : Int32) (hv : x = v) (h1 : ¬ v.toInt < lo) (h2 : ¬ hi < v.toInt) (ho : offs[(v.toInt - lo).toNat]? = some off) (ht : (pc : Int) + off = (tgt : Int)) (k : ja_J M tgt lv st h ret hf) : ja_J M pc lv (.int x :: st) h ret hf := by
  subst hv
  exact ⟨k.1, k.2.1, fun p l e R s m args below meth c Q D aC A kc ks H ls locs cells slots ads hC hS hV hE => lv_tableIn hC.1 hC.2.1 d.1 h1 h2 ho ht (k.2.2 p l e R s m args below meth c Q D aC A kc ks H ls locs cells slots ads hC hS hV hE)⟩
theorem ja_tsOut {M : ja_Mt} {pc pc' : Nat} {lv : List (Option Value)} {st : List Value} {h : ja_H} {ret : List Value} {hf : ja_H} {dflt lo hi : Int} {offs : Array Int} {len : Nat} {x : Int32} {tgt : Nat} (d : ja_At M pc (.tableswitch dflt lo hi offs) len pc') (hx : x.toInt < lo ∨ hi < x.toInt) (ht : (pc : Int) + dflt = (tgt : Int)) (k : ja_J M tgt lv st h ret hf) : ja_J M pc lv (.int x :: st) h ret hf :=
  ⟨k.1, k.2.1, fun p l e R s m args below meth c Q D aC A kc ks H ls locs cells slots ads hC hS hV hE => lv_tableOut hC.1 hC.2.1 d.1 hx ht (k.2.2 p l e R s m args below meth c Q D aC A kc ks H ls locs cells slots ads hC hS hV hE)⟩
theorem ja_lsw {M : ja_Mt} {pc pc' : Nat} {lv : List (Option Value)} {st : List Value} {h : ja_H} {ret : List Value} {hf : ja_H} {dflt : Int} {ps : Array (Int × Int)} {len : Nat} {x : Int32} {off : Int} {tgt : Nat} (d : ja_At M pc (.lookupswitch dflt ps) len pc') (hp : (ps.toList.zip (ps.toList.drop 1)).all (fun (a, next) => a.1 < next.1) = true) (ho : Op.lookupswitch.offset ps.toList dflt x.toInt = off) (ht : (pc : Int) + off = (tgt : Int)) (k : ja_J M tgt lv st h ret hf) : ja_J M pc lv (.int x :: st) h ret hf :=
  ⟨k.1, k.2.1, fun p l e R s m args below meth c Q D aC A kc ks H ls locs cells slots ads hC hS hV hE => lv_lookup hC.1 hC.2.1 d.1 hp ho ht (k.2.2 p l e R s m args below meth c Q D aC A kc ks H ls locs cells slots ads hC hS hV hE)⟩
def ja_F (own : String) (idx ci k kd : Nat) (nest : Option String) : Prop := ∃ (C : String) (T : u_T) (N : Nat), vwCl[ci]? = some (C, T, N) ∧ k < N ∧ ja_kk ci k = kd ∧ (∀ w ∈ u_ws C T N, w ∈ ja_all) ∧ match nest with
  | none => Cond.fieldLink own idx (T k).1 (T k).2.1 (T k).2.2.1 ∈ ja_all
  | some host => (own, idx, (T k).1, (T k).2.1, (T k).2.2.1, host) ∈ ja_nfl
theorem ja_nf_of {ci : Nat} {C : String} {T : u_T} {N : Nat} (hc : vwCl[ci]? = some (C, T, N)) : ja_nf ci = N := by
  simp [ja_nf, hc]
theorem ja_getV {M : ja_Mt} {pc pc' : Nat} {lv : List (Option Value)} {st : List Value} {h : ja_H} {ret : List Value} {hf : ja_H} {idx ci kf kd i : Nat} {nest : Option String} {v : Value} (F : ja_F M.1 idx ci kf kd nest) (hs : h.1[i]? = some (.inl ci)) (hv : ∀ ads, ja_fv ads h i kf kd = ja_cv ads v) (hvv : ja_V h lv (.ref i :: st) → ja_vs h.1.length (v :: st)) (d : ja_At M pc (.getfield idx) 3 pc') (k : ja_J M pc' lv (v :: st) h ret hf) : ja_J M pc lv (.ref i :: st) h ret hf := by
  obtain ⟨d, rfl⟩ := d
  refine ⟨k.1, fun q => k.2.1 ⟨q.1, q.2.1, hvv q⟩, fun p l e R s m args below meth c Q D aC A kc ks H ls locs cells slots ads hC hS hV hE => ?_⟩
  obtain ⟨C, T, N, hc, hk, hkd, hin, hl⟩ := F
  have hk2 := k.2.2 p l e R s m args below meth c Q D aC A kc ks H ls locs cells slots ads hC hS ⟨hV.1, hV.2.1, hvv hV⟩ hE
  have hg : (ja_fs ads h i ci)[kf]? = some (ja_cv ads v) := by
    rw [ja_fs_get (by rw [ja_nf_of hc]; exact hk), hkd, hv ads]
  cases nest with
  | none => exact va_get hC.1 hC.2.1 hC.2.2.2.2.1 hin hC.2.2.2.1 hC.2.2.2.2.2.1 hS.2.1 i (ja_wl_obj hs) hc kf hk (hC.2.2.2.2.1 _ hl) (fun _ h9 => h9) hg d hk2
  | some host => exact va_getN (host := host) hC.1 hC.2.1 hC.2.2.2.2.1 hin hC.2.2.2.1 hC.2.2.2.2.2.1 hS.2.1 i (ja_wl_obj hs) hc kf hk (va_Nw.use rfl (hC.2.2.2.2.2.2.1.1 _ hl)) (fun _ h9 => h9) hg d hk2
theorem ja_getI {M : ja_Mt} {pc pc' : Nat} {lv : List (Option Value)} {st : List Value} {h : ja_H} {ret : List Value} {hf : ja_H} {idx ci kf i : Nat} {nest : Option String} (F : ja_F M.1 idx ci kf 0 nest) (hs : h.1[i]? = some (.inl ci)) (d : ja_At M pc (.getfield idx) 3 pc') (k : ja_J M pc' lv (.int (h.2.1 i kf) :: st) h ret hf) : ja_J M pc lv (.ref i :: st) h ret hf :=
  ja_getV (v := .int (h.2.1 i kf)) F hs (fun _ => rfl) (fun q => q.2.2.2) d k
theorem ja_getL {M : ja_Mt} {pc pc' : Nat} {lv : List (Option Value)} {st : List Value} {h : ja_H} {ret : List Value} {hf : ja_H} {idx ci kf i : Nat} {nest : Option String} (F : ja_F M.1 idx ci kf 1 nest) (hs : h.1[i]? = some (.inl ci)) (d : ja_At M pc (.getfield idx) 3 pc') (k : ja_J M pc' lv (.long (h.2.2.1 i kf) :: st) h ret hf) : ja_J M pc lv (.ref i :: st) h ret hf :=
  ja_getV (v := .long (h.2.2.1 i kf)) F hs (fun _ => rfl) (fun q => q.2.2.2) d k
theorem ja_getR {M : ja_Mt} {pc pc' : Nat} {lv : List (Option Value)} {st : List Value} {h : ja_H} {ret : List Value} {hf : ja_H} {idx ci kf i r : Nat} {nest : Option String} (F : ja_F M.1 idx ci kf 2 nest) (hs : h.1[i]? = some (.inl ci)) (hr : h.2.2.2.1 i kf = some r) (d : ja_At M pc (.getfield idx) 3 pc') (k : ja_J M pc' lv (.ref r :: st) h ret hf) : ja_J M pc lv (.ref i :: st) h ret hf :=
  ja_getV (v := .ref r) F hs (fun ads => by simp [ja_fv, hr, ja_cv, va_rf]) (fun q => ⟨q.1 _ _ _ hr, q.2.2.2⟩) d k
def ja_FP (ci k : Nat) (ty : FieldType) (fin : Bool) : Prop := ∃ (C : String) (T : u_T) (N : Nat), vwCl[ci]? = some (C, T, N) ∧ (∀ k, k < N → parseFieldDescriptor (T k).2.2.1 = some (ja_ty ci k)) ∧ (∀ a, a < N → ∀ b, b < N → a ≠ b → (T a).2.1 ≠ (T b).2.1) ∧ parseFieldDescriptor (T k).2.2.1 = some ty ∧ (T k).2.2.2 = fin ∧ (T k).1 = C
theorem ja_putV {M : ja_Mt} {pc pc' : Nat} {lv : List (Option Value)} {st : List Value} {h : ja_H} {ret : List Value} {hf : ja_H} {idx ci kf kd i : Nat} {nest : Option String} {ty : FieldType} {v : Value} {h' : ja_H} (F : ja_F M.1 idx ci kf kd nest) (P : ja_FP ci kf ty false) (hs : h.1[i]? = some (.inl ci)) (hn : ∀ ads, narrow ty (ja_cv ads v) = ja_cv ads v) (hfit : ∀ ads, fits ty (ja_cv ads v) = true) (h1 : h'.1 = h.1) (h5 : h'.2.2.2.2 = h.2.2.2.2) (hw : ∀ aC ads, (ja_wl aC ads h).set i (ads i, .inr (ci, (ja_fs ads h i ci).set kf (ja_cv ads v))) = ja_wl aC ads h') (hvv : ja_V h lv (v :: .ref i :: st) → ja_V h' lv st) (d : ja_At M pc (.putfield idx) 3 pc') (k : ja_J M pc' lv st h' ret hf) : ja_J M pc lv (v :: .ref i :: st) h ret hf := by
  obtain ⟨d, rfl⟩ := d
  have e1 : ja_nc h' = ja_nc h := by simp [ja_nc, h1, h5]
  have e2 : ja_ns h' = ja_ns h := by simp [ja_ns, h1, h5]
  refine ⟨by rw [← e1, ← e2, ← h1]; exact k.1, fun q => k.2.1 (hvv q), fun p l e R s m args below meth c Q D aC A kc ks H ls locs cells slots ads hC hS hV hE => ?_⟩
  obtain ⟨C, T, N, hc, hk, hkd, hin, hl⟩ := F
  obtain ⟨C', T', N', hc', hty, hnm, hd, hfin, -⟩ := P
  cases hc.symm.trans hc'
  have hlen : kf < (ja_fs ads h i ci).length := by rw [ja_fs_len, ja_nf_of hc]; exact hk
  have fin : ∀ (H1 : Heap) (locs1 : List Loc), va_P D vwCl ((ja_wl aC ads h).set i (ads i, .inr (ci, (ja_fs ads h i ci).set kf (ja_cv ads v)))) H1 → va_D A ((ja_wl aC ads h).set i (ads i, .inr (ci, (ja_fs ads h i ci).set kf (ja_cv ads v)))) → va_S A s.heap H1 locs1 → W p l e R s m args below meth c H1 locs1 cells slots Q (F0 m (pc + 3) ls (st.map (ja_cv ads))) := by
    intro H1 locs1 hP hD hSS
    rw [hw aC ads] at hP hD
    exact k.2.2 p l e R s m args below meth c Q D aC A kc ks H1 ls locs1 cells slots ads hC ⟨hS.1, hP, hD, hSS, by rw [e1]; exact hS.2.2.2.2.1, by rw [e2]; exact hS.2.2.2.2.2⟩ (hvv hV) (by rw [h1]; exact hE)
  cases nest with
  | none => exact va_put hC.1 hC.2.1 hC.2.2.2.2.1 hin (ja_ty ci) hty hnm hC.2.2.2.1 hC.2.2.2.2.2.1 hS.2.1 hS.2.2.1 hS.2.2.2.1 i (ja_wl_obj hs) hc kf hk (hC.2.2.2.2.1 _ hl) (fun _ h9 => h9) hfin hd (hn ads) (hfit ads) hlen d fin
  | some host => exact va_putN (host := host) hC.1 hC.2.1 hC.2.2.2.2.1 hin (ja_ty ci) hty hnm hC.2.2.2.1 hC.2.2.2.2.2.1 hS.2.1 hS.2.2.1 hS.2.2.2.1 i (ja_wl_obj hs) hc kf hk (va_Nw.use rfl (hC.2.2.2.2.2.2.1.1 _ hl)) (fun _ h9 => h9) hfin hd (hn ads) (hfit ads) hlen d fin
theorem ja_ce_setI {aC : Nat → ClassId} {ads : Nat → Nat} {h : ja_H} {i k c : Nat} {x : Int32} (hs : h.1[i]? = some (.inl c)) (hk : ja_kk c k = 0) : ja_ce aC ads (ja_sI h i k x) i = .inr (c, (ja_fs ads h i c).set k (.int x)) := by
  rw [ja_fs_setI hk]
  simp [ja_ce, ja_sI, hs]
theorem ja_ce_setL {aC : Nat → ClassId} {ads : Nat → Nat} {h : ja_H} {i k c : Nat} {x : Int64} (hs : h.1[i]? = some (.inl c)) (hk : ja_kk c k = 1) : ja_ce aC ads (ja_sL h i k x) i = .inr (c, (ja_fs ads h i c).set k (.long x)) := by
  rw [ja_fs_setL hk]
  simp [ja_ce, ja_sL, hs]
theorem ja_ce_setR {aC : Nat → ClassId} {ads : Nat → Nat} {h : ja_H} {i k c : Nat} {x : Option Nat} (hs : h.1[i]? = some (.inl c)) (hk : ja_kk c k = 2) : ja_ce aC ads (ja_sR h i k x) i = .inr (c, (ja_fs ads h i c).set k (va_rf (x.map ads))) := by
  rw [ja_fs_setR hk]
  simp [ja_ce, ja_sR, hs]
theorem ja_putI {M : ja_Mt} {pc pc' : Nat} {lv : List (Option Value)} {st : List Value} {h : ja_H} {ret : List Value} {hf : ja_H} {idx ci kf i : Nat} {nest : Option String} {ty : FieldType} {x : Int32} (F : ja_F M.1 idx ci kf 0 nest) (P : ja_FP ci kf ty false) (hs : h.1[i]? = some (.inl ci)) (hn : narrow ty (.int x) = .int x) (hfit : fits ty (.int x) = true) (d : ja_At M pc (.putfield idx) 3 pc') (k : ja_J M pc' lv st (ja_sI h i kf x) ret hf) : ja_J M pc lv (.int x :: .ref i :: st) h ret hf :=
  ja_putV (h' := ja_sI h i kf x) F P hs (fun _ => hn) (fun _ => hfit) rfl rfl (fun _ _ => ja_wl_setI (ja_lt hs) (ja_ce_setI hs (by obtain ⟨_, _, _, _, _, q, _⟩ := F; exact q))) (fun q => ⟨q.1, q.2.1, q.2.2.2⟩) d k
theorem ja_putL {M : ja_Mt} {pc pc' : Nat} {lv : List (Option Value)} {st : List Value} {h : ja_H} {ret : List Value} {hf : ja_H} {idx ci kf i : Nat} {nest : Option String} {ty : FieldType} {x : Int64} (F : ja_F M.1 idx ci kf 1 nest) (P : ja_FP ci kf ty false) (hs : h.1[i]? = some (.inl ci)) (hn : narrow ty (.long x) = .long x) (hfit : fits ty (.long x) = true) (d : ja_At M pc (.putfield idx) 3 pc') (k : ja_J M pc' lv st (ja_sL h i kf x) ret hf) : ja_J M pc lv (.long x :: .ref i :: st) h ret hf :=
  ja_putV (h' := ja_sL h i kf x) F P hs (fun _ => hn) (fun _ => hfit) rfl rfl (fun _ _ => ja_wl_setL (ja_lt hs) (ja_ce_setL hs (by obtain ⟨_, _, _, _, _, q, _⟩ := F; exact q))) (fun q => ⟨q.1, q.2.1, q.2.2.2⟩) d k
theorem ja_putF {M : ja_Mt} {pc pc' : Nat} {lv : List (Option Value)} {st : List Value} {h : ja_H} {ret : List Value} {hf : ja_H} {idx ci kf i r : Nat} {ty : FieldType} (F : ja_F M.1 idx ci kf 2 none) (P : ja_FP ci kf ty true) (hown : (vwCl[ci]?).map (fun q => q.1) = some M.1) (hini : M.2.2.2.2.1 = true) (hs : h.1[i]? = some (.inl ci)) (hn : ∀ a : Nat, narrow ty (.ref a) = .ref a) (hfit : ∀ a : Nat, fits ty (.ref a) = true) (d : ja_At M pc (.putfield idx) 3 pc') (k : ja_J M pc' lv st (ja_sR h i kf (some r)) ret hf) : ja_J M pc lv (.ref r :: .ref i :: st) h ret hf := by
  obtain ⟨d, rfl⟩ := d
  have hv : ∀ {lv st}, ja_V h lv (.ref r :: .ref i :: st) → ja_V (ja_sR h i kf (some r)) lv st := by
    intro lv st q
    refine ⟨fun a b z hz => ?_, q.2.1, q.2.2.2.2⟩
    show z < h.1.length
    simp only [ja_sR, ja_u] at hz
    split at hz
    · cases hz; exact q.2.2.1
    · exact q.1 a b z hz
  refine ⟨k.1, fun q => k.2.1 (hv q), fun p l e R s m args below meth c Q D aC A kc ks H ls locs cells slots ads hC hS hV hE => ?_⟩
  obtain ⟨C, T, N, hc, hk, hkd, hin, hl⟩ := F
  obtain ⟨C', T', N', hc', hty, hnm, hd, hfin, hC'⟩ := P
  cases hc.symm.trans hc'
  have hlen : kf < (ja_fs ads h i ci).length := by rw [ja_fs_len, ja_nf_of hc]; exact hk
  have hC1 : (T kf).1 = M.1 := by
    rw [hc] at hown
    rw [hC']
    exact Option.some.inj hown
  refine va_putF (v := .ref (ads r)) hC.1 hC.2.1 hC.2.2.2.2.1 hin (ja_ty ci) hty hnm hC.2.2.2.1 hC.2.2.2.2.2.1 hS.2.1 hS.2.2.1 hS.2.2.2.1 i (ja_wl_obj hs) hc kf hk (hC.2.2.2.2.1 _ hl) (fun _ h9 => h9) hfin (hC.2.2.2.2.2.2.2.2.2.1 hini) hC1 hd (hn _) (hfit _) hlen d (fun H1 locs1 hP hD hSS => ?_)
  have ee : (ja_wl aC ads h).set i (ads i, .inr (ci, (ja_fs ads h i ci).set kf (.ref (ads r)))) = ja_wl aC ads (ja_sR h i kf (some r)) := ja_wl_setR (ja_lt hs) (ja_ce_setR hs hkd)
  rw [ee] at hP hD
  exact k.2.2 p l e R s m args below meth c Q D aC A kc ks H1 ls locs1 cells slots ads hC ⟨hS.1, hP, hD, hSS, hS.2.2.2.2.1, hS.2.2.2.2.2⟩ (hv hV) hE
theorem ja_iald {M : ja_Mt} {pc pc' : Nat} {lv : List (Option Value)} {st : List Value} {h : ja_H} {ret : List Value} {hf : ja_H} {i n : Nat} {x : Int32} (hs : h.1[i]? = some (.inr (0, n))) (hin : vp_in x n) (d : ja_At M pc .iaload 1 pc') (k : ja_J M pc' lv (.int (h.2.1 i x.toNatClampNeg) :: st) h ret hf) : ja_J M pc lv (.int x :: .ref i :: st) h ret hf := by
  obtain ⟨d, rfl⟩ := d
  refine ⟨k.1, fun q => k.2.1 ⟨q.1, q.2.1, q.2.2.2⟩, fun p l e R s m args below meth c Q D aC A kc ks H ls locs cells slots ads hC hS hV hE => ?_⟩
  have h2 := k.2.2 p l e R s m args below meth c Q D aC A kc ks H ls locs cells slots ads hC hS ⟨hV.1, hV.2.1, hV.2.2.2⟩ hE
  exact va_iald hC.1 hC.2.1 hC.2.2.2.2.2.1 hS.2.1 i 0 (ja_wl_arr hs) rfl hin d h2
theorem ja_lald {M : ja_Mt} {pc pc' : Nat} {lv : List (Option Value)} {st : List Value} {h : ja_H} {ret : List Value} {hf : ja_H} {i n : Nat} {x : Int32} (hs : h.1[i]? = some (.inr (1, n))) (hin : vp_in x n) (d : ja_At M pc .laload 1 pc') (k : ja_J M pc' lv (.long (h.2.2.1 i x.toNatClampNeg) :: st) h ret hf) : ja_J M pc lv (.int x :: .ref i :: st) h ret hf := by
  obtain ⟨d, rfl⟩ := d
  refine ⟨k.1, fun q => k.2.1 ⟨q.1, q.2.1, q.2.2.2⟩, fun p l e R s m args below meth c Q D aC A kc ks H ls locs cells slots ads hC hS hV hE => ?_⟩
  have h2 := k.2.2 p l e R s m args below meth c Q D aC A kc ks H ls locs cells slots ads hC hS ⟨hV.1, hV.2.1, hV.2.2.2⟩ hE
  exact va_lald hC.1 hC.2.1 hC.2.2.2.2.2.1 hS.2.1 i 1 (ja_wl_arr hs) rfl hin d h2
theorem ja_zald {M : ja_Mt} {pc pc' : Nat} {lv : List (Option Value)} {st : List Value} {h : ja_H} {ret : List Value} {hf : ja_H} {i n : Nat} {x : Int32} (hs : h.1[i]? = some (.inr (2, n))) (hin : vp_in x n) (d : ja_At M pc .baload 1 pc') (k : ja_J M pc' lv (.int (h.2.1 i x.toNatClampNeg) :: st) h ret hf) : ja_J M pc lv (.int x :: .ref i :: st) h ret hf := by
  obtain ⟨d, rfl⟩ := d
  refine ⟨k.1, fun q => k.2.1 ⟨q.1, q.2.1, q.2.2.2⟩, fun p l e R s m args below meth c Q D aC A kc ks H ls locs cells slots ads hC hS hV hE => ?_⟩
  have h2 := k.2.2 p l e R s m args below meth c Q D aC A kc ks H ls locs cells slots ads hC hS ⟨hV.1, hV.2.1, hV.2.2.2⟩ hE
  exact va_zald hC.1 hC.2.1 hC.2.2.2.2.2.1 hS.2.1 i 2 (ja_wl_arr hs) rfl hin d h2
theorem ja_bald {M : ja_Mt} {pc pc' : Nat} {lv : List (Option Value)} {st : List Value} {h : ja_H} {ret : List Value} {hf : ja_H} {i n : Nat} {x : Int32} (hs : h.1[i]? = some (.inr (3, n))) (hin : vp_in x n) (d : ja_At M pc .baload 1 pc') (k : ja_J M pc' lv (.int (h.2.1 i x.toNatClampNeg) :: st) h ret hf) : ja_J M pc lv (.int x :: .ref i :: st) h ret hf := by
  obtain ⟨d, rfl⟩ := d
  refine ⟨k.1, fun q => k.2.1 ⟨q.1, q.2.1, q.2.2.2⟩, fun p l e R s m args below meth c Q D aC A kc ks H ls locs cells slots ads hC hS hV hE => ?_⟩
  have h2 := k.2.2 p l e R s m args below meth c Q D aC A kc ks H ls locs cells slots ads hC hS ⟨hV.1, hV.2.1, hV.2.2.2⟩ hE
  exact va_bald hC.1 hC.2.1 hC.2.2.2.2.2.1 hS.2.1 i 3 (ja_wl_arr hs) rfl hin d h2
theorem ja_aald {M : ja_Mt} {pc pc' : Nat} {lv : List (Option Value)} {st : List Value} {h : ja_H} {ret : List Value} {hf : ja_H} {i n r : Nat} {x : Int32} (hs : h.1[i]? = some (.inr (4, n))) (hin : vp_in x n) (hr : h.2.2.2.1 i x.toNatClampNeg = some r) (d : ja_At M pc .aaload 1 pc') (k : ja_J M pc' lv (.ref r :: st) h ret hf) : ja_J M pc lv (.int x :: .ref i :: st) h ret hf := by
  obtain ⟨d, rfl⟩ := d
  refine ⟨k.1, fun q => k.2.1 ⟨q.1, q.2.1, q.1 _ _ _ hr, q.2.2.2⟩, fun p l e R s m args below meth c Q D aC A kc ks H ls locs cells slots ads hC hS hV hE => ?_⟩
  have h2 := k.2.2 p l e R s m args below meth c Q D aC A kc ks H ls locs cells slots ads hC hS ⟨hV.1, hV.2.1, hV.1 _ _ _ hr, hV.2.2.2⟩ hE
  refine va_aldq hC.1 hC.2.1 hC.2.2.2.2.2.1 hS.2.1 i 4 (ja_wl_arr hs) rfl hin d ?_
  rw [hr]
  exact h2
theorem ja_aaldN {M : ja_Mt} {pc pc' : Nat} {lv : List (Option Value)} {st : List Value} {h : ja_H} {ret : List Value} {hf : ja_H} {i n : Nat} {x : Int32} (hs : h.1[i]? = some (.inr (4, n))) (hin : vp_in x n) (hr : h.2.2.2.1 i x.toNatClampNeg = none) (d : ja_At M pc .aaload 1 pc') (k : ja_J M pc' lv (.null :: st) h ret hf) : ja_J M pc lv (.int x :: .ref i :: st) h ret hf := by
  obtain ⟨d, rfl⟩ := d
  refine ⟨k.1, fun q => k.2.1 ⟨q.1, q.2.1, q.2.2.2⟩, fun p l e R s m args below meth c Q D aC A kc ks H ls locs cells slots ads hC hS hV hE => ?_⟩
  have h2 := k.2.2 p l e R s m args below meth c Q D aC A kc ks H ls locs cells slots ads hC hS ⟨hV.1, hV.2.1, hV.2.2.2⟩ hE
  refine va_aldq hC.1 hC.2.1 hC.2.2.2.2.2.1 hS.2.1 i 4 (ja_wl_arr hs) rfl hin d ?_
  rw [hr]
  exact h2
theorem ja_iast {M : ja_Mt} {pc pc' : Nat} {lv : List (Option Value)} {st : List Value} {h : ja_H} {ret : List Value} {hf : ja_H} {i n : Nat} {x : Int32} {y : Int32} (hs : h.1[i]? = some (.inr (0, n))) (hin : vp_in x n) (d : ja_At M pc .iastore 1 pc') (k : ja_J M pc' lv st (ja_sI h i x.toNatClampNeg y) ret hf) : ja_J M pc lv (.int y :: .int x :: .ref i :: st) h ret hf := by
  obtain ⟨d, rfl⟩ := d
  refine ⟨k.1, fun q => k.2.1 ⟨q.1, q.2.1, q.2.2.2⟩, fun p l e_1 R s m args below meth c Q D aC A kc ks H ls locs cells slots ads hC hS hV hE => ?_⟩
  refine va_iast hC.1 hC.2.1 hC.2.2.2.2.2.1 hS.2.1 hS.2.2.1 hS.2.2.2.1 i 0 (ja_wl_arr hs) rfl hin d (fun H1 locs1 hP hD hSS => ?_)
  have e := ja_wl_setI (aC := aC) (ads := ads) (h := h) (i := i) (k := x.toNatClampNeg) (x := y) (ja_lt hs) (by simp only [ja_ce, ja_sI, hs, ja_ar, ja_u_upd]; rfl)
  rw [e] at hP hD
  exact k.2.2 p l e_1 R s m args below meth c Q D aC A kc ks H1 ls locs1 cells slots ads hC ⟨hS.1, hP, hD, hSS, hS.2.2.2.2.1, hS.2.2.2.2.2⟩ ⟨hV.1, hV.2.1, hV.2.2.2⟩ hE
theorem ja_last {M : ja_Mt} {pc pc' : Nat} {lv : List (Option Value)} {st : List Value} {h : ja_H} {ret : List Value} {hf : ja_H} {i n : Nat} {x : Int32} {y : Int64} (hs : h.1[i]? = some (.inr (1, n))) (hin : vp_in x n) (d : ja_At M pc .lastore 1 pc') (k : ja_J M pc' lv st (ja_sL h i x.toNatClampNeg y) ret hf) : ja_J M pc lv (.long y :: .int x :: .ref i :: st) h ret hf := by
  obtain ⟨d, rfl⟩ := d
  refine ⟨k.1, fun q => k.2.1 ⟨q.1, q.2.1, q.2.2.2⟩, fun p l e_1 R s m args below meth c Q D aC A kc ks H ls locs cells slots ads hC hS hV hE => ?_⟩
  refine va_last hC.1 hC.2.1 hC.2.2.2.2.2.1 hS.2.1 hS.2.2.1 hS.2.2.2.1 i 1 (ja_wl_arr hs) rfl hin d (fun H1 locs1 hP hD hSS => ?_)
  have e := ja_wl_setL (aC := aC) (ads := ads) (h := h) (i := i) (k := x.toNatClampNeg) (x := y) (ja_lt hs) (by simp only [ja_ce, ja_sL, hs, ja_ar, ja_u_updL]; rfl)
  rw [e] at hP hD
  exact k.2.2 p l e_1 R s m args below meth c Q D aC A kc ks H1 ls locs1 cells slots ads hC ⟨hS.1, hP, hD, hSS, hS.2.2.2.2.1, hS.2.2.2.2.2⟩ ⟨hV.1, hV.2.1, hV.2.2.2⟩ hE
theorem ja_zast {M : ja_Mt} {pc pc' : Nat} {lv : List (Option Value)} {st : List Value} {h : ja_H} {ret : List Value} {hf : ja_H} {i n : Nat} {x : Int32} {y : Int32} (hs : h.1[i]? = some (.inr (2, n))) (hin : vp_in x n) (d : ja_At M pc .bastore 1 pc') (k : ja_J M pc' lv st (ja_sI h i x.toNatClampNeg (vp_nar .boolean y)) ret hf) : ja_J M pc lv (.int y :: .int x :: .ref i :: st) h ret hf := by
  obtain ⟨d, rfl⟩ := d
  refine ⟨k.1, fun q => k.2.1 ⟨q.1, q.2.1, q.2.2.2⟩, fun p l e_1 R s m args below meth c Q D aC A kc ks H ls locs cells slots ads hC hS hV hE => ?_⟩
  refine va_zast hC.1 hC.2.1 hC.2.2.2.2.2.1 hS.2.1 hS.2.2.1 hS.2.2.2.1 i 2 (ja_wl_arr hs) rfl hin d (fun H1 locs1 hP hD hSS => ?_)
  have e := ja_wl_setI (aC := aC) (ads := ads) (h := h) (i := i) (k := x.toNatClampNeg) (x := (vp_nar .boolean y)) (ja_lt hs) (by simp only [ja_ce, ja_sI, hs, ja_ar, ja_u_upd]; rfl)
  rw [e] at hP hD
  exact k.2.2 p l e_1 R s m args below meth c Q D aC A kc ks H1 ls locs1 cells slots ads hC ⟨hS.1, hP, hD, hSS, hS.2.2.2.2.1, hS.2.2.2.2.2⟩ ⟨hV.1, hV.2.1, hV.2.2.2⟩ hE
theorem ja_bast {M : ja_Mt} {pc pc' : Nat} {lv : List (Option Value)} {st : List Value} {h : ja_H} {ret : List Value} {hf : ja_H} {i n : Nat} {x : Int32} {y : Int32} (hs : h.1[i]? = some (.inr (3, n))) (hin : vp_in x n) (d : ja_At M pc .bastore 1 pc') (k : ja_J M pc' lv st (ja_sI h i x.toNatClampNeg (vp_nar .byte y)) ret hf) : ja_J M pc lv (.int y :: .int x :: .ref i :: st) h ret hf := by
  obtain ⟨d, rfl⟩ := d
  refine ⟨k.1, fun q => k.2.1 ⟨q.1, q.2.1, q.2.2.2⟩, fun p l e_1 R s m args below meth c Q D aC A kc ks H ls locs cells slots ads hC hS hV hE => ?_⟩
  refine va_bast hC.1 hC.2.1 hC.2.2.2.2.2.1 hS.2.1 hS.2.2.1 hS.2.2.2.1 i 3 (ja_wl_arr hs) rfl hin d (fun H1 locs1 hP hD hSS => ?_)
  have e := ja_wl_setI (aC := aC) (ads := ads) (h := h) (i := i) (k := x.toNatClampNeg) (x := (vp_nar .byte y)) (ja_lt hs) (by simp only [ja_ce, ja_sI, hs, ja_ar, ja_u_upd]; rfl)
  rw [e] at hP hD
  exact k.2.2 p l e_1 R s m args below meth c Q D aC A kc ks H1 ls locs1 cells slots ads hC ⟨hS.1, hP, hD, hSS, hS.2.2.2.2.1, hS.2.2.2.2.2⟩ ⟨hV.1, hV.2.1, hV.2.2.2⟩ hE
end
section
theorem ja_end {M : ja_Mt} {pc : Nat} {lv : List (Option Value)} {st : List Value} {h : ja_H} {ret : List Value} {hf : ja_H} (e1 : st.map (ja_cv (fun i => i)) = ja_os (fun i => i) ret) (e2 : h = hf) (hst : ∀ ads, st.map (ja_cv ads) = ja_os ads ret) (hv : ja_vs h.1.length st → ja_vs h.1.length ret) (hr : ja_rt M pc ret) : ja_J M pc lv st h ret hf := by
  subst e2
  refine ⟨⟨Nat.le_refl _, Nat.le_refl _, Nat.le_refl _⟩, fun v => ⟨v.1, fun i r hi => by simp at hi, hv v.2.2⟩, fun p l e R s m args below meth c Q D aC A kc ks H ls locs cells slots ads hC hS hV hE => ?_⟩
  rw [hst ads]
  exact hE pc H ls locs cells slots ads hr hS.1.1 (fun _ _ => rfl) hS.2.1 hS.2.2.1 hS.2.2.2.1 hS.2.2.2.2.1 hS.2.2.2.2.2
theorem ja_return {M : ja_Mt} {pc pc' : Nat} {lv : List (Option Value)} {h hf : ja_H} (d : ja_At M pc .return_ 1 pc') (hm : M.2.2.2.2.2.1 = none) (e : h = hf) : ja_J M pc lv [] h [] hf :=
  ja_end rfl e (fun _ => rfl) (fun q => q) ⟨d.1, hm⟩
theorem ja_ireturn {M : ja_Mt} {pc pc' : Nat} {lv : List (Option Value)} {h hf : ja_H} {x y : Int32} {ty : FieldType} (d : ja_At M pc .ireturn 1 pc') (hm : M.2.2.2.2.2.1 = some ty) (hn : narrow ty (.int y) = .int y) (e1 : x = y) (e : h = hf) : ja_J M pc lv [.int x] h [.int y] hf := by
  subst e1
  exact ja_end rfl e (fun _ => rfl) (fun q => q) ⟨d.1, ty, hm, hn⟩
theorem ja_lreturn {M : ja_Mt} {pc pc' : Nat} {lv : List (Option Value)} {h hf : ja_H} {x y : Int64} (d : ja_At M pc .lreturn 1 pc') (hm : M.2.2.2.2.2.1 = some .long) (e1 : x = y) (e : h = hf) : ja_J M pc lv [.long x] h [.long y] hf := by
  subst e1
  exact ja_end rfl e (fun _ => rfl) (fun q => q) ⟨d.1, hm⟩
theorem ja_throw {M : ja_Mt} {pc : Nat} {lv : List (Option Value)} {h hf : ja_H} (e : h = hf) : ja_J M pc lv [] h [.retAddr pc] hf :=
  ja_end rfl e (fun _ => rfl) (fun q => q) rfl
def ja_ex (ads : Nat → Nat) (n q : Nat) : Nat → Nat := fun i => if i = n then q else ads i
theorem ja_ex_lt {ads : Nat → Nat} {n q i : Nat} (h : i < n) : ja_ex ads n q i = ads i := if_neg (by omega)
theorem ja_ex_at {ads : Nat → Nat} {n q : Nat} : ja_ex ads n q n = q := if_pos rfl
theorem ja_ce_congr2 {aC : Nat → ClassId} {ads ads' : Nat → Nat} {h h' : ja_H} {i : Nat} (hl : h'.1[i]? = h.1[i]?) (h1 : h'.2.1 i = h.2.1 i) (h2 : h'.2.2.1 i = h.2.2.1 i) (h3 : h'.2.2.2.1 i = h.2.2.2.1 i) (ha : ∀ k r, h.2.2.2.1 i k = some r → ads' r = ads r) : ja_ce aC ads' h' i = ja_ce aC ads h i := by
  have em : ∀ k, (h.2.2.2.1 i k).map ads' = (h.2.2.2.1 i k).map ads := by
    intro k
    cases hk : h.2.2.2.1 i k with
    | none => rfl
    | some r => simp only [Option.map]; rw [ha k r hk]
  have e1 : ∀ c, ja_fs ads' h' i c = ja_fs ads h i c := by
    intro c
    simp only [ja_fs]
    apply List.map_congr_left
    intro k _
    simp only [ja_fv, h1, h2, h3, em]
  have e2 : ∀ t n, ja_ar ads' h' i t n = ja_ar ads h i t n := by
    intro t n
    simp only [ja_ar, h1, h2, h3, em]
  simp only [ja_ce, hl]
  cases h.1[i]? with
  | none => rfl
  | some z => cases z with
    | inl c => simp only [e1]
    | inr q => simp only [e2]
theorem ja_wl_nw {aC : Nat → ClassId} {ads : Nat → Nat} {h : ja_H} {z : ja_S} {q : Nat} (hv : ∀ i k r, h.2.2.2.1 i k = some r → r < h.1.length) : ja_wl aC (ja_ex ads h.1.length q) (ja_nw h z) = ja_wl aC ads h ++ [(q, ja_ce aC (ja_ex ads h.1.length q) (ja_nw h z) h.1.length)] := by
  simp only [ja_wl]
  rw [show (ja_nw h z).1.length = h.1.length + 1 by simp [ja_nw], List.range_succ, List.map_append]
  congr 1
  · apply List.map_congr_left
    intro i hi
    have hi := List.mem_range.mp hi
    have hne : ¬ i = h.1.length := by omega
    rw [ja_ex_lt hi, ja_ce_congr2 (h := h) (ads := ads) (by simp [ja_nw, List.getElem?_append_left hi]) (by funext b; simp [ja_nw, hne]) (by funext b; simp [ja_nw, hne]) (by funext b; simp [ja_nw, hne]) (fun k r hr => ja_ex_lt (hv i k r hr))]
  · simp [ja_ex_at]
theorem ja_nw_len {h : ja_H} {z : ja_S} : (ja_nw h z).1.length = h.1.length + 1 := by simp [ja_nw]
theorem ja_nw_nc {h : ja_H} {z : ja_S} : ja_nc (ja_nw h z) = ja_nc h + 1 := by simp [ja_nc, ja_nw]; omega
theorem ja_nw_ns {h : ja_H} {z : ja_S} : ja_ns (ja_nw h z) = ja_ns h + ja_sl z := by simp [ja_ns, ja_nw]; omega
theorem ja_nw_V {h : ja_H} {z : ja_S} {lv : List (Option Value)} {st : List Value} (v : ja_V h lv st) : ja_V (ja_nw h z) lv (.ref h.1.length :: st) := by
  have e : (ja_nw h z).1.length = h.1.length + 1 := ja_nw_len
  refine ⟨fun i k r hr => ?_, fun i r hi => ?_, ?_, ?_⟩
  · simp only [ja_nw] at hr
    split at hr
    · cases hr
    · have := v.1 i k r hr
      omega
  · have := v.2.1 i r hi
    omega
  · show h.1.length < _
    omega
  · exact ja_vs_mono (by omega) v.2.2
theorem ja_made {M : ja_Mt} {pc' : Nat} {lv : List (Option Value)} {st : List Value} {h : ja_H} {ret : List Value} {hf : ja_H} {z : ja_S} (k : ja_J M pc' lv (.ref h.1.length :: st) (ja_nw h z) ret hf)
    (p : Program) (l : Launch) (e : Env) (R : Room) (s : State) (m : MethodId) (args : Array Value) (below : List Frame) (meth : Method) (c : Code) (Q : State → Prop) (D : va_G) (aC : Nat → ClassId) (A : Nat → Prop) (kc ks : Nat) (H H1 : Heap) (ls : Array Slot) (locs : List Loc) (cells slots q : Nat) (ads : Nat → Nat)
    (hC : ja_Cx M p l R s m args meth c D aC A kc ks hf) (hS : ja_St M s D aC A kc ks H ls locs cells slots ads lv h) (hV : ja_V h lv st) (hE : ja_Ex M p l e R s m args below meth c Q D aC A kc ks ads h.1.length ret hf)
    (hP : va_P D vwCl (ja_wl aC ads h ++ [(q, ja_ce aC (ja_ex ads h.1.length q) (ja_nw h z) h.1.length)]) H1) (hD : va_D A (ja_wl aC ads h ++ [(q, ja_ce aC (ja_ex ads h.1.length q) (ja_nw h z) h.1.length)])) (hSS : va_S A s.heap H1 locs) :
    W p l e R s m args below meth c H1 locs (cells + 1) (slots + ja_sl z) Q (F0 m pc' ls (.ref q :: st.map (ja_cv ads))) := by
  have ha : ∀ i, i < h.1.length → ja_ex ads h.1.length q i = ads i := fun i hi => ja_ex_lt hi
  rw [← ja_wl_nw hV.1] at hP hD
  have h1 := k.2.2 p l e R s m args below meth c Q D aC A kc ks H1 ls locs (cells + 1) (slots + ja_sl z) (ja_ex ads h.1.length q) hC ⟨ja_lv_ads ha hV.2.1 hS.1, hP, hD, hSS, by rw [ja_nw_nc]; have := hS.2.2.2.2.1; omega, by rw [ja_nw_ns]; have := hS.2.2.2.2.2; omega⟩ (ja_nw_V hV)
    (fun pc H ls locs cells slots ads' q1 q2 q3 q4 q5 q6 q7 q8 => hE pc H ls locs cells slots ads' q1 q2 (fun i hi => (q3 i (by rw [ja_nw_len]; omega)).trans (ha i hi)) q4 q5 q6 q7 q8)
  have e1 : (Value.ref h.1.length :: st).map (ja_cv (ja_ex ads h.1.length q)) = .ref q :: st.map (ja_cv ads) := by
    rw [List.map_cons, ja_cv_map ha hV.2.2]
    simp only [ja_cv, ja_ex_at]
  rw [e1] at h1
  exact h1
def ja_GN (own : String) (idx ci : Nat) : Prop := ∃ (C : String) (T : u_T) (N : Nat), vwCl[ci]? = some (C, T, N) ∧ (∀ w ∈ u_ws C T N, w ∈ ja_all) ∧ (∀ k, k < N → parseFieldDescriptor (T k).2.2.1 = some (ja_ty ci k)) ∧ Cond.classLink own idx C ∈ ja_all ∧ Cond.instantiable C N ∈ ja_all ∧ Cond.initialized C ∈ ja_all ∧ ∀ k, k < N → ja_kk ci k ≠ 3
def ja_f0 (c : Nat) : List Value := (List.range (ja_nf c)).map (fun k => defaultValue (ja_ty c k))
theorem ja_fv0 {ads : Nat → Nat} {h : ja_H} {z : ja_S} {k : Nat} {t : FieldType} (hk : ja_kd t ≠ 3) : ja_fv ads (ja_nw h z) h.1.length k (ja_kd t) = defaultValue t := by
  cases t <;> simp [ja_kd] at hk <;> simp [ja_kd, ja_fv, ja_nw, defaultValue, va_rf]
theorem ja_new {M : ja_Mt} {pc pc' : Nat} {lv : List (Option Value)} {st : List Value} {h : ja_H} {ret : List Value} {hf : ja_H} {idx ci : Nat} (g : ja_GN M.1 idx ci) (d : ja_At M pc (.new idx) 3 pc') (k : ja_J M pc' lv (.ref h.1.length :: st) (ja_nw h (.inl ci)) ret hf) : ja_J M pc lv st h ret hf := by
  obtain ⟨d, rfl⟩ := d
  have k1 := k.1
  rw [ja_nw_nc, ja_nw_ns, ja_nw_len] at k1
  refine ⟨⟨by omega, by omega, by omega⟩, fun v => k.2.1 (ja_nw_V v), fun p l e R s m args below meth c Q D aC A kc ks H ls locs cells slots ads hC hS hV hE => ?_⟩
  obtain ⟨C, T, N, hc, hin, hty, hcl, hins, hini, hkk⟩ := g
  have eN : ja_sl (.inl ci) = N := by show ja_nf ci = N; exact ja_nf_of hc
  have hr := hC.2.2.2.2.2.2.2.2.2.2.1
  have ef : ∀ q, ja_ce aC (ja_ex ads h.1.length q) (ja_nw h (.inl ci)) h.1.length = .inr (ci, ja_f0 ci) := by
    intro q
    have e1 : (ja_nw h (.inl ci)).1[h.1.length]? = some (.inl ci) := by simp [ja_nw]
    simp only [ja_ce, e1]
    congr 2
    simp only [ja_fs, ja_f0]
    apply List.map_congr_left
    intro j hj
    exact ja_fv0 (hkk j (by have := List.mem_range.mp hj; rw [ja_nf_of hc] at this; exact this))
  refine va_new (ci := ci) (fs := ja_f0 ci) hC.1 hC.2.1 hC.2.2.2.2.1 hin (ja_ty ci) hty hC.2.2.2.1 (hC.2.2.2.2.1 _ hcl) (hC.2.2.2.2.1 _ hins) (hC.2.2.2.2.1 _ hini) hC.2.2.2.2.2.1 hS.2.1 hS.2.2.1 hS.2.2.2.1 hC.2.2.2.2.2.2.2.1 hc (fun j hj => ?_) (by have := hS.2.2.2.2.1; omega) (by have := hS.2.2.2.2.2; omega) d (fun q H1 hP hD hSS => ?_)
  · simp [vp_V, ja_f0, List.getD, ja_nf_of hc, hj]
  · rw [← ef q] at hP hD
    have h1 := ja_made k p l e R s m args below meth c Q D aC A kc ks H H1 ls locs cells slots q ads hC hS hV hE hP hD hSS
    rw [eN] at h1
    exact h1
def ja_a0 (t n : Nat) : vp_A := match t with
  | 1 => (n, .inr (.inl (fun _ => 0)))
  | 4 => (n, .inr (.inr (.inr (.inr (fun _ => none)))))
  | _ => (n, .inl (fun _ => 0))
theorem ja_ce_a0 {aC : Nat → ClassId} {ads : Nat → Nat} {h : ja_H} {t n : Nat} : ja_ce aC ads (ja_nw h (.inr (t, n))) h.1.length = .inl (aC t, ja_a0 t n) := by
  have e1 : (ja_nw h (.inr (t, n))).1[h.1.length]? = some (.inr (t, n)) := by simp [ja_nw]
  simp only [ja_ce, e1]
  congr 2
  simp only [ja_ar, ja_a0]
  split <;> simp [ja_nw]
theorem ja_newa {M : ja_Mt} {pc pc' : Nat} {lv : List (Option Value)} {st : List Value} {h : ja_H} {ret : List Value} {hf : ja_H} {x : Int32} (t n : Nat) (ty : ArrayType) (hty : newarray.typeOf ty = ja_at t) (ht : t < 4) (hcl : Cond.arrayClass (ja_at t) ∈ ja_all) (hx : ¬ x < 0) (hxn : x.toNatClampNeg = n) (hn : n ≤ 16777216) (d : ja_At M pc (.newarray ty) 2 pc') (k : ja_J M pc' lv (.ref h.1.length :: st) (ja_nw h (.inr (t, n))) ret hf) : ja_J M pc lv (.int x :: st) h ret hf := by
  obtain ⟨d, rfl⟩ := d
  have k1 := k.1
  rw [ja_nw_nc, ja_nw_ns, ja_nw_len] at k1
  refine ⟨⟨by omega, by omega, by omega⟩, fun v => k.2.1 (ja_nw_V v), fun p l e R s m args below meth c Q D aC A kc ks H ls locs cells slots ads hC hS hV hE => ?_⟩
  have hr := hC.2.2.2.2.2.2.2.2.2.2.1
  have hK := hC.2.2.2.2.2.1
  have eN : ja_sl (.inr (t, n)) = n := rfl
  have htt : (ja_tys aC)[t]? = some (aC t, ja_at t) := by
    rcases (show t = 0 ∨ t = 1 ∨ t = 2 ∨ t = 3 by omega) with rfl | rfl | rfl | rfl <;> rfl
  have hcA : ∀ cA, va_K D vwCl (ja_tys aC ++ [(cA, ja_at t)]) s → cA = aC t := by
    intro cA h9
    have a1 := (h9.2 5 (cA, ja_at t) rfl).2
    have a2 := (hK.2 t _ htt).2
    rcases (show t = 0 ∨ t = 1 ∨ t = 2 ∨ t = 3 by omega) with rfl | rfl | rfl | rfl <;> exact Option.some.inj (a1.symm.trans a2)
  refine va_newa (ty := ja_at t) (a0 := ja_a0 t n) (N' := n) hC.1 hC.2.1 (by rw [hty]; exact hC.2.2.2.2.1 _ hcl) hty hK hS.2.1 hS.2.2.1 hS.2.2.2.1 hC.2.2.2.2.2.2.2.1 (fun cA => ?_) hx hxn ?_ (by have := hS.2.2.2.2.1; omega) (by have := hS.2.2.2.2.2; omega) d (fun q cA H1 hK1 hP hD hSS => ?_)
  · rcases (show t = 0 ∨ t = 1 ∨ t = 2 ∨ t = 3 by omega) with rfl | rfl | rfl | rfl <;> rfl
  · rcases (show t = 0 ∨ t = 1 ∨ t = 2 ∨ t = 3 by omega) with rfl | rfl | rfl | rfl <;> simp [ja_at, componentBytes] <;> omega
  · rw [hcA cA hK1, ← ja_ce_a0 (h := h) (ads := ja_ex ads h.1.length q)] at hP hD
    exact ja_made k p l e R s m args below meth c Q D aC A kc ks H H1 ls locs cells slots q ads hC hS ⟨hV.1, hV.2.1, hV.2.2⟩ hE hP hD hSS
theorem ja_newq {M : ja_Mt} {pc pc' : Nat} {lv : List (Option Value)} {st : List Value} {h : ja_H} {ret : List Value} {hf : ja_H} {x : Int32} (n : Nat) {idx : Nat} (hcl : Cond.classLink M.1 idx ja_elem ∈ ja_all) (hx : ¬ x < 0) (hxn : x.toNatClampNeg = n) (hn : n ≤ 16777216) (d : ja_At M pc (.anewarray idx) 3 pc') (k : ja_J M pc' lv (.ref h.1.length :: st) (ja_nw h (.inr (4, n))) ret hf) : ja_J M pc lv (.int x :: st) h ret hf := by
  obtain ⟨d, rfl⟩ := d
  have k1 := k.1
  rw [ja_nw_nc, ja_nw_ns, ja_nw_len] at k1
  refine ⟨⟨by omega, by omega, by omega⟩, fun v => k.2.1 (ja_nw_V v), fun p l e R s m args below meth c Q D aC A kc ks H ls locs cells slots ads hC hS hV hE => ?_⟩
  have hr := hC.2.2.2.2.2.2.2.2.2.2.1
  have hK := hC.2.2.2.2.2.1
  have eN : ja_sl (.inr (4, n)) = n := rfl
  have hcA : ∀ cA, va_K D vwCl (ja_tys aC ++ [(cA, .object ja_elem)]) s → cA = aC 4 := by
    intro cA h9
    obtain ⟨_, _, _, _, _, a1⟩ := (h9.2 5 (cA, .object ja_elem) rfl).2
    obtain ⟨_, _, _, _, _, a2⟩ := (hK.2 4 (aC 4, .object ja_elem) rfl).2
    exact Option.some.inj (a1.symm.trans a2)
  refine va_newq (N' := n) hC.1 hC.2.1 hC.2.2.2.1 (hC.2.2.2.2.1 _ hcl) hC.2.2.2.2.2.2.1.2.2 hK hS.2.1 hS.2.2.1 hS.2.2.2.1 hC.2.2.2.2.2.2.2.1 hx hxn (by omega) (by have := hS.2.2.2.2.1; omega) (by have := hS.2.2.2.2.2; omega) d (fun q cA H1 hK1 hP hD hSS => ?_)
  rw [hcA cA hK1] at hP hD
  have e9 := ja_ce_a0 (aC := aC) (h := h) (ads := ja_ex ads h.1.length q) (t := 4) (n := n)
  simp only [ja_a0] at e9
  rw [← e9] at hP hD
  exact ja_made k p l e R s m args below meth c Q D aC A kc ks H H1 ls locs cells slots q ads hC hS ⟨hV.1, hV.2.1, hV.2.2⟩ hE hP hD hSS
theorem ja_aast {M : ja_Mt} {pc pc' : Nat} {lv : List (Option Value)} {st : List Value} {h : ja_H} {ret : List Value} {hf : ja_H} {i n ci r : Nat} {x : Int32} (hs : h.1[i]? = some (.inr (4, n))) (hr : h.1[r]? = some (.inl ci)) (hci : (vwCl[ci]?).map (fun q => q.1) = some ja_elem) (hin : vp_in x n) (d : ja_At M pc .aastore 1 pc') (k : ja_J M pc' lv st (ja_sR h i x.toNatClampNeg (some r)) ret hf) : ja_J M pc lv (.ref r :: .int x :: .ref i :: st) h ret hf := by
  obtain ⟨d, rfl⟩ := d
  have hv : ∀ {lv st}, ja_V h lv (.ref r :: .int x :: .ref i :: st) → ja_V (ja_sR h i x.toNatClampNeg (some r)) lv st := by
    intro lv st q
    refine ⟨fun a b z hz => ?_, q.2.1, q.2.2.2.2⟩
    show z < h.1.length
    simp only [ja_sR, ja_u] at hz
    split at hz
    · cases hz; exact q.2.2.1
    · exact q.1 a b z hz
  refine ⟨k.1, fun q => k.2.1 (hv q), fun p l e R s m args below meth c Q D aC A kc ks H ls locs cells slots ads hC hS hV hE => ?_⟩
  cases hcc : vwCl[ci]? with
  | none => rw [hcc] at hci; cases hci
  | some rr =>
    rw [hcc] at hci
    have h9 : rr.1 = ja_elem := Option.some.inj hci
    refine va_astq (r := rr) hC.1 hC.2.1 hC.2.2.2.2.2.1 hS.2.1 hS.2.2.1 hS.2.2.2.1 i 4 r ci (ja_wl_arr hs) (by rw [h9]; rfl) (ja_wl_obj hr) hcc hin d (fun H1 locs1 hP hD hSS => ?_)
    have e1 := ja_wl_setR (aC := aC) (ads := ads) (h := h) (i := i) (k := x.toNatClampNeg) (x := some r) (y := .inl (aC 4, n, .inr (.inr (.inr (.inr (va_up (fun j => (h.2.2.2.1 i j).map ads) x.toNatClampNeg (some (ads r)))))))) (ja_lt hs) (by
      simp only [ja_ce, ja_sR, hs, ja_ar]
      congr 7
      funext b
      simp only [ja_u, va_up]
      by_cases hb : b = x.toNatClampNeg <;> simp [hb])
    rw [e1] at hP hD
    exact k.2.2 p l e R s m args below meth c Q D aC A kc ks H1 ls locs1 cells slots ads hC ⟨hS.1, hP, hD, hSS, hS.2.2.2.2.1, hS.2.2.2.2.2⟩ (hv hV) hE
def ja_rm (d : Nat × Nat) (c n : Nat) : Room := { frames := d.1, cells := c, slots := n, locals := d.2 }
def ja_ws (y : MethodName) (bytes : ByteArray) (maxL : Nat) (rt : Option FieldType) : List Cond := Cond.code y bytes maxL rt :: ja_all
def ja_B (D : va_G) (aC : Nat → ClassId) (ads : Nat → Nat) (h : ja_H) (sz : Nat) : State → Prop := fun U => U.heap.size = sz ∧ va_P D vwCl (ja_wl aC ads h) U.heap ∧ va_K D vwCl (ja_tys aC) U ∧ ja_N U ∧ va_D (fun _ => True) (ja_wl aC ads h) ∧ ja_Zx (va_A (ja_wl aC ads h) sz) U
def ja_Q (D : va_G) (aC : Nat → ClassId) (ads : Nat → Nat) (sz : Nat) (h : ja_H) (ret : List Value) (hf : ja_H) : Array Value → State → Outcome → State → Prop := fun _ st oc t =>
  (∃ ads' : Nat → Nat, (∀ i, i < h.1.length → ads' i = ads i) ∧ oc = .returned (ret.map (ja_cv ads')).head? ∧ va_P D vwCl (ja_wl aC ads' hf) t.heap ∧ va_D (va_A (ja_wl aC ads h) sz) (ja_wl aC ads' hf)) ∧ va_F (va_A (ja_wl aC ads h) sz) st t
def ja_M (d : Nat × Nat) (y : MethodName) (bytes : ByteArray) (maxL : Nat) (rt : Option FieldType) (args : List Value) (h : ja_H) (ret : List Value) (hf : ja_H) : Prop :=
  (ja_nc h ≤ ja_nc hf ∧ ja_ns h ≤ ja_ns hf ∧ h.1.length ≤ hf.1.length) ∧ (ja_V h [] args → ja_V hf [] ret) ∧ ret.length ≤ 1 ∧
  ∀ (l : Launch) (D : va_G) (aC : Nat → ClassId) (ads : Nat → Nat) (sz : Nat), l.stackTraces = false → ja_V h [] args →
    Met l y (ja_ws y bytes maxL rt) (ja_rm d (ja_nc hf - ja_nc h) (ja_ns hf - ja_ns h)) (va_Pc (args.map (ja_cv ads)) (ja_B D aC ads h sz)) (ja_Q D aC ads sz h ret hf) (ja_nc hf - ja_nc h) (ja_ns hf - ja_ns h) (va_A (ja_wl aC ads h) sz)
def ja_fl (args : List Value) : List (Option Value) := args.flatMap (fun v => if v.category = 2 then [some v, none] else [some v])
def ja_l0 (args : List Value) (n : Nat) : List (Option Value) := ja_fl args ++ List.replicate (n - (ja_fl args).length) none
theorem ja_fl_mem {ads : Nat → Nat} {args : List Value} : ∀ (off i : Nat) (v : Value), (ja_fl args)[i]? = some (some v) → (off + i, ja_cv ads v) ∈ lv_args off (args.map (ja_cv ads)) := by
  induction args with
  | nil => intro off i v hi; simp [ja_fl] at hi
  | cons a t ih =>
    intro off i v hi
    have e : ja_fl (a :: t) = (if a.category = 2 then [some a, none] else [some a]) ++ ja_fl t := by simp [ja_fl]
    rw [e] at hi
    simp only [List.map_cons, lv_args, ja_cv_cat]
    by_cases h2 : a.category = 2
    · rw [if_pos h2] at hi ⊢
      match i with
      | 0 => simp at hi; subst hi; exact List.mem_cons_self
      | 1 => simp at hi
      | j + 2 =>
        have hj : (ja_fl t)[j]? = some (some v) := by simpa using hi
        have := ih (off + 2) j v hj
        rw [show off + (j + 2) = off + 2 + j by omega]
        exact List.mem_cons_of_mem _ this
    · rw [if_neg h2] at hi ⊢
      match i with
      | 0 => simp at hi; subst hi; exact List.mem_cons_self
      | j + 1 =>
        have hj : (ja_fl t)[j]? = some (some v) := by simpa using hi
        have := ih (off + 1) j v hj
        rw [show off + (j + 1) = off + 1 + j by omega]
        exact List.mem_cons_of_mem _ this
theorem ja_l0_in {args : List Value} {n i : Nat} {v : Value} (hi : (ja_l0 args n)[i]? = some (some v)) : (ja_fl args)[i]? = some (some v) := by
  simp only [ja_l0, List.getElem?_append] at hi
  split at hi
  · exact hi
  · rw [List.getElem?_replicate] at hi
    split at hi <;> cases hi
theorem ja_fl_args {args : List Value} {v : Value} (h : some v ∈ ja_fl args) : v ∈ args := by
  simp only [ja_fl, List.mem_flatMap] at h
  obtain ⟨a, ha, hb⟩ := h
  split at hb <;> simp at hb <;> subst hb <;> exact ha
theorem ja_sl_len {ads ads' : Nat → Nat} {vs : List Value} : (lg_sl (vs.map (ja_cv ads))).length = (lg_sl (vs.map (ja_cv ads'))).length := by
  induction vs with
  | nil => rfl
  | cons a t ih =>
    simp only [List.map_cons, lg_sl, List.flatMap_cons, List.length_append] at ih ⊢
    have e : ∀ ad : Nat → Nat, (if (ja_cv ad a).category = 2 then [Slot.val (ja_cv ad a), Slot.second] else [Slot.val (ja_cv ad a)]).length = if a.category = 2 then 2 else 1 := by
      intro ad
      rw [ja_cv_cat]
      split <;> rfl
    rw [e ads, e ads', ih]
theorem ja_M_of {d : Nat × Nat} {y : MethodName} {bytes : ByteArray} {maxL : Nat} {rt : Option FieldType} {args : List Value} {h : ja_H} {ret : List Value} {hf : ja_H} (ini : Bool) (lv : List (Option Value)) (hlv : ja_l0 args maxL = lv) (hy : plainName y.cls = true) (hini : ini = true → y.name = "<init>") (hlen : (lg_sl (args.map (ja_cv (fun i => i)))).length ≤ maxL) (hno : ∀ k, ret ≠ [.retAddr k]) (hret : ret.length ≤ 1) (hj : ja_J (y.cls, bytes, maxL, d, ini, rt, none, none) 0 lv [] h ret hf) : ja_M d y bytes maxL rt args h ret hf := by
  subst hlv
  have hlvv : ja_V h [] args → ja_V h (ja_l0 args maxL) [] := fun v => ⟨v.1, fun i r hi => ja_vs_iff.mp v.2.2 r (ja_fl_args (List.mem_of_getElem? (ja_l0_in hi))), trivial⟩
  refine ⟨hj.1, fun v => hj.2.1 (hlvv v), hret, fun l D aC ads sz htr hV => ?_⟩
  refine Met.ofW (cc := bytes) (maxL := maxL) (ret := rt) hy rfl ?_
  intro p e s m args' below meth c s₁ B hml hv
  obtain ⟨rfl, hsz, hP, hK, hN, hD0, hZ⟩ := hv
  subst hsz
  have hts0 := atoms_spec (ws := ja_ws y bytes maxL rt) B.pre
  have hD := hD0.self (sz := s.heap.size)
  have hlen2 : (lg_sl (args.map (ja_cv ads))).length ≤ maxL := by
    have := ja_sl_len (ads := ads) (ads' := fun i => i) (vs := args)
    omega
  rw [lg_entry_eq]
  have hl := lv_entry (args.map (ja_cv ads)) hlen2
  refine hj.2.2 p l e _ s m _ below meth c _ D aC (va_A (ja_wl aC ads h) s.heap.size) (ja_nc h) (ja_ns h) s.heap _ [] 0 0 ads
    ⟨B.exec, B.bytes, hml, findClass_of_methodNamed B.named, fun w hw => hts0 w (List.mem_cons_of_mem _ hw), hK, hN, fun q hq => Or.inr hq, ⟨Nat.le_refl _, Nat.le_refl _⟩, fun hi => ((name_of_methodNamed B.named B.method).1).trans (hini hi), ⟨?_, ?_⟩, fun b L xs hq => (by cases hq), fun hh hq => (by cases hq), hZ, htr⟩
    ⟨⟨hl.1, hl.2.1, fun i v hi => hl.2.2 (i, ja_cv ads v) (by have := ja_fl_mem (ads := ads) 0 i v (ja_l0_in hi); rwa [Nat.zero_add] at this)⟩, hP, hD, va_S.rf, Nat.zero_add _, Nat.zero_add _⟩ (hlvv hV) ?_
  · show ja_nc hf ≤ (ja_nc hf - ja_nc h) + ja_nc h
    have := hj.1
    omega
  · show ja_ns hf ≤ (ja_ns hf - ja_ns h) + ja_ns h
    have := hj.1
    omega
  · intro pc H ls locs cells slots ads' hrt hls ha hP' hD' hS' hc hs
    have ec : cells = ja_nc hf - ja_nc h := by omega
    have es : slots = ja_ns hf - ja_ns h := by omega
    subst ec
    subst es
    have post : ∀ t : State, t.heap = H → s.WarmedH t.vm → ja_Q D aC ads s.heap.size h ret hf (args.map (ja_cv ads)).toArray s (.returned (ret.map (ja_cv ads')).head?) t := fun t ht hW => ⟨⟨ads', ha, rfl, by rw [ht]; exact hP', hD'⟩, hS'.F ht⟩
    match ret, hrt, hno, post with
    | [], hrt, _, post => exact W.vret B.exec B.bytes (B.returns.trans hrt.2) post hS'.2.2 hrt.1 B.notSynchronized
    | [.int v], hrt, _, post =>
      obtain ⟨h1, ty, h2, h3⟩ := hrt
      exact W.zret B.exec B.bytes (B.returns.trans h2) h3 post hS'.2.2 h1 B.notSynchronized
    | [.long v], hrt, _, post => exact W.lret B.exec B.bytes (B.returns.trans hrt.2) post hS'.2.2 hrt.1 B.notSynchronized
    | [.retAddr k], _, hno, _ => exact absurd rfl (hno k)
def ja_G (own : String) (idx : Nat) (y : MethodName) (bytes : ByteArray) (maxL : Nat) (rt : Option FieldType) (n : Nat) (nest : Option String) : Prop := Cond.code y bytes maxL rt ∈ ja_all ∧ Cond.initialized y.cls ∈ ja_all ∧ (y.cls ≠ "java/lang/invoke/MethodHandle" ∧ y.cls ≠ "java/lang/invoke/VarHandle" ∧ (parseMethodDescriptor y.desc).map (fun d => d.parameters.length) = some n) ∧ match nest with
  | none => Cond.methodLink own idx y ∈ ja_all
  | some host => (own, idx, y, host) ∈ ja_nml
theorem ja_goodIn {y : MethodName} {bytes : ByteArray} {maxL : Nat} {rt : Option FieldType} (h : Cond.code y bytes maxL rt ∈ ja_all) : GoodIn ja_all (ja_ws y bytes maxL rt) := by
  intro w hw
  rcases List.mem_cons.mp hw with rfl | hw
  · exact ⟨h, good_of_word (ja_all_good _ h)⟩
  · exact ⟨hw, good_of_word (ja_all_good _ hw)⟩
theorem ja_Zx_call {M : ja_Mt} {p : Program} {l : Launch} {R : Room} {s : State} {m : MethodId} {args : Array Value} {meth : Method} {c : Code} {D : va_G} {aC : Nat → ClassId} {A : Nat → Prop} {kc ks : Nat} {hf h : ja_H} {H : Heap} {ls : Array Slot} {locs : List Loc} {cells slots : Nat} {ads : Nat → Nat} {lv : List (Option Value)} {U : State} (hC : ja_Cx M p l R s m args meth c D aC A kc ks hf) (hS : ja_St M s D aC A kc ks H ls locs cells slots ads lv h) (hU : U.heap = H) (hW : s.WarmedH U.vm) : ja_Zx (va_A (ja_wl aC ads h) H.size) U := by
  intro V hV hs hq
  refine hC.2.2.2.2.2.2.2.2.2.2.2.2.2.1 V (State.WarmedH.trans hW hV) ?_ ?_
  · have := hS.2.2.2.1.1
    rw [hU] at hs
    omega
  · intro q h1 h2
    have h3 : ¬ va_A (ja_wl aC ads h) H.size q := by
      intro h9
      rcases h9 with ⟨k9, e9, hk9⟩ | h9
      · exact h2 (hS.2.2.1.2 _ _ hk9)
      · exact h2 (hC.2.2.2.2.2.2.2.1 q (Nat.le_trans hS.2.2.2.1.1 h9))
    rw [hq q (by rw [hU]; exact Nat.lt_of_lt_of_le h1 hS.2.2.2.1.1) h3, hU]
    exact hS.2.2.2.1.2.1 q h1 h2
theorem ja_blind {args : List Value} {D : va_G} {aC : Nat → ClassId} {ads : Nat → Nat} {h : ja_H} {sz : Nat} : FrameBlind (va_Pc args (ja_B D aC ads h sz)) := by
  intro a U g mk q
  obtain ⟨q0, q1, qP, qK, qN, qD, qZ⟩ := q
  exact ⟨q0, q1, qP, va_K.moved (u := U) (U := U.calling g mk a) (Vm.Alike.refl U.vm) qK, ja_N.same (u := U) (U := U.calling g mk a) rfl qN, qD, qZ⟩
theorem ja_core {M : ja_Mt} {pc maxL : Nat} {d0 : Nat × Nat} {lv : List (Option Value)} {st as rv : List Value} {h h1 : ja_H} {ret : List Value} {hf : ja_H} {y : MethodName} {bytes : ByteArray} {rt : Option FieldType} (hM : ja_M d0 y bytes maxL rt as h rv h1) (k : ja_J M (pc + 3) lv (rv ++ st) h1 ret hf)
    {p : Program} {l : Launch} {e : Env} {R : Room} {s : State} {m : MethodId} {args a : Array Value} {below : List Frame} {meth : Method} {c : Code} {Q : State → Prop} {D : va_G} {aC : Nat → ClassId} {A : Nat → Prop} {kc ks : Nat} {H : Heap} {ls : Array Slot} {locs : List Loc} {cells slots : Nat} {ads : Nat → Nat} {st0 : List Value}
    (hC : ja_Cx M p l R s m args meth c D aC A kc ks hf) (hS : ja_St M s D aC A kc ks H ls locs cells slots ads lv h) (hVl : ja_V h lv st) (hVa : ja_V h [] as) (hE : ja_Ex M p l e R s m args below meth c Q D aC A kc ks ads h.1.length ret hf)
    (hr : va_Run p l e R s m args below meth c H locs cells slots (ja_nc h1 - ja_nc h) (ja_ns h1 - ja_ns h) (F0 m pc ls st0) (st.map (ja_cv ads)) (ja_Q D aC ads H.size h rv h1 a) (va_A (ja_wl aC ads h) H.size)) :
    W p l e R s m args below meth c H locs cells slots Q (F0 m pc ls st0) := by
  intro T hT X
  obtain ⟨v, st₀, t, T', L, h0, X', hL, e1, e2, ⟨⟨ads', ha, hv, hP1, hD1⟩, hz, hk⟩, stp⟩ := hr T hT X
  cases hv
  rw [h0] at hz hk
  obtain ⟨m1, m2, m3⟩ := hM.1
  have hA := hC.2.2.2.2.2.2.2.1
  have hF : ∀ q, va_A (ja_wl aC ads h) H.size q → A q := by
    intro q hq
    rcases hq with ⟨k9, e9, hk9⟩ | hq
    · exact hS.2.2.1.2 _ _ hk9
    · exact hA q (Nat.le_trans hS.2.2.2.1.1 hq)
  have hV1 := hM.2.1 hVa
  have hVn : ja_V h1 lv (rv ++ st) := ⟨hV1.1, fun i r hi => Nat.lt_of_lt_of_le (hVl.2.1 i r hi) m3, ja_vs_app.mpr ⟨hV1.2.2, ja_vs_mono m3 hVl.2.2⟩⟩
  have hw := k.2.2 p l e R s m args below meth c Q D aC A kc ks T'.heap ls (locs ++ L) (cells + (ja_nc h1 - ja_nc h)) (slots + (ja_ns h1 - ja_ns h)) ads' hC
    ⟨ja_lv_ads ha hVl.2.1 hS.1, by rw [e1]; exact hP1, hD1.weaken (fun _ q _ h9 => hF q.1 h9), ⟨Nat.le_trans hS.2.2.2.1.1 (by rw [e1]; exact hz), fun q g1 g2 => by
      rw [e1, hk q (Nat.lt_of_lt_of_le g1 hS.2.2.2.1.1) (fun z => g2 (hF q z))]
      exact hS.2.2.2.1.2.1 q g1 g2, fun q hq => by
      rcases List.mem_append.mp hq with h9 | h9
      · exact hS.2.2.2.1.2.2 q h9
      · exact hF _ (hL q h9)⟩, by have := hS.2.2.2.2.1; omega, by have := hS.2.2.2.2.2; omega⟩ hVn
    (fun pc H ls locs cells slots ads'' q1 q2 q3 q4 q5 q6 q7 q8 => hE pc H ls locs cells slots ads'' q1 q2 (fun i hi => (q3 i (by omega)).trans (ha i hi)) q4 q5 q6 q7 q8)
  have e3 : (rv ++ st).map (ja_cv ads') = (rv.map (ja_cv ads')).head?.toList ++ st.map (ja_cv ads) := by
    rw [List.map_append, ja_cv_map ha hVl.2.2]
    congr 1
    match rv, hM.2.2.1 with
    | [], _ => rfl
    | [_], _ => rfl
    | _ :: _ :: _, h9 => simp at h9
  rw [e3] at hw
  obtain ⟨t2, a1, b1⟩ := hw T' rfl X'
  exact ⟨t2, stp t2 a1, b1⟩
theorem ja_callV {M : ja_Mt} {pc pc' : Nat} {lv : List (Option Value)} {st : List Value} {h : ja_H} {ret : List Value} {hf : ja_H} {idx maxL : Nat} {d0 : Nat × Nat} {y : MethodName} {bytes : ByteArray} {rt : Option FieldType} {nest : Option String} {stk as rv : List Value} {h1 : ja_H} {i ci : Nat} (g : ja_G M.1 idx y bytes maxL rt as.length nest) (hin : Cond.instanceMethod y ∈ ja_all) (hsel : Cond.selects y.cls y y ∈ ja_all) (hci : (vwCl[ci]?).map (fun q => q.1) = some y.cls) (hs : h.1[i]? = some (.inl ci)) (hd : d0.1 + 1 ≤ M.2.2.2.1.1 ∧ 8 + (maxL + 11) + d0.2 ≤ M.2.2.2.1.2) (hM : ja_M d0 y bytes maxL rt (.ref i :: as) h rv h1) (hst : stk = as.reverse ++ .ref i :: st) (hw : (st.map Value.category).sum ≤ 8) (d : ja_At M pc (.invokevirtual idx) 3 pc') (k : ja_J M pc' lv (rv ++ st) h1 ret hf) : ja_J M pc lv stk h ret hf := by
  obtain ⟨d, rfl⟩ := d
  subst hst
  obtain ⟨m1, m2, m3⟩ := hM.1
  obtain ⟨k1, k2, k3⟩ := k.1
  have va : ja_V h lv (as.reverse ++ .ref i :: st) → ja_V h [] (.ref i :: as) ∧ ja_V h lv st := by
    intro q
    have q2 := ja_vs_app.mp q.2.2
    exact ⟨⟨q.1, fun i r hi => by simp at hi, ⟨q2.2.1, ja_vs_rev.mp q2.1⟩⟩, q.1, q.2.1, q2.2.2⟩
  have vn : ja_V h lv (as.reverse ++ .ref i :: st) → ja_V h1 lv (rv ++ st) := by
    intro q
    have q1 := hM.2.1 (va q).1
    exact ⟨q1.1, fun i r hi => Nat.lt_of_lt_of_le (q.2.1 i r hi) m3, ja_vs_app.mpr ⟨q1.2.2, ja_vs_mono m3 (va q).2.2.2⟩⟩
  refine ⟨⟨by omega, by omega, by omega⟩, fun q => k.2.1 (vn q), fun p l e R s m args below meth c Q D aC A kc ks H ls locs cells slots ads hC hS hV hE => ?_⟩
  have hM4 := hM.2.2.2 l D aC ads H.size hC.2.2.2.2.2.2.2.2.2.2.2.2.2.2 (va hV).1
  have hR := hC.2.2.2.2.2.2.2.2.1
  have hrm := hC.2.2.2.2.2.2.2.2.2.2.1
  have hts := hC.2.2.2.2.1
  have hcc := hS.2.2.2.2.1
  have hss := hS.2.2.2.2.2
  obtain ⟨gc, gi, gd, gl⟩ := g
  have hRR : (ja_rm d0 (ja_nc h1 - ja_nc h) (ja_ns h1 - ja_ns h)).frames + 1 ≤ R.frames ∧ 8 + (maxL + 11) + (ja_rm d0 (ja_nc h1 - ja_nc h) (ja_ns h1 - ja_ns h)).locals ≤ R.locals := by
    show d0.1 + 1 ≤ R.frames ∧ 8 + (maxL + 11) + d0.2 ≤ R.locals
    omega
  have hroom : cells + (ja_nc h1 - ja_nc h) ≤ R.cells ∧ slots + (ja_ns h1 - ja_ns h) ≤ R.slots := by omega
  have hpc : ∀ U : State, U.heap = H → s.WarmedH U.vm → va_Pc ((.ref i :: as).map (ja_cv ads)) (ja_B D aC ads h H.size) ((.ref i :: as).map (ja_cv ads)).toArray U := fun U hU hW => ⟨rfl, by rw [hU], by rw [hU]; exact hS.2.1, va_K.moved hW.alike hC.2.2.2.2.2.1, hC.2.2.2.2.2.2.1.warm hW, hS.2.2.1.weaken (fun _ _ _ _ => trivial), ja_Zx_call hC hS hU hW⟩
  have hlen : (as.map (ja_cv ads)).length = as.length := List.length_map _
  have hwt : 2 * (F0 m pc ls ((as.reverse ++ .ref i :: st).map (ja_cv ads))).monitorRoom + ((st.map (ja_cv ads)).map fun v => v.category).sum ≤ 8 := by rw [ja_cv_sum]; show 2 * 0 + _ ≤ 8; omega
  have hstk : (as.reverse ++ .ref i :: st).map (ja_cv ads) = (as.map (ja_cv ads)).reverse ++ .ref (ads i) :: st.map (ja_cv ads) := by simp [ja_cv]
  refine ja_core (a := ((.ref i :: as).map (ja_cv ads)).toArray) hM k hC hS (va hV).2 (va hV).1 hE ?_
  have hrecv : ∃ cellB : Cell, H[ads i]? = some cellB ∧ cellB.vm.isStatics = false ∧ s.vm.findClass y.cls = some cellB.cls := by
    cases hq : vwCl[ci]? with
    | none => rw [hq] at hci; cases hci
    | some q9 =>
      rw [hq] at hci
      obtain ⟨cl, a1, a2, a3⟩ := va_recv hC.2.2.2.2.2.1 hS.2.1 hq (ja_wl_obj hs)
      exact ⟨cl, a1, a2, by rw [← Option.some.inj hci]; exact a3⟩
  cases nest with
  | none => exact va_runV (As := as.map (ja_cv ads)) (rest := st.map (ja_cv ads)) (b := ads i) ⟨hC.1, hC.2.1, hC.2.2.1, hC.2.2.2.1, hts⟩ hM4 ⟨callB_of as.length hts (ja_goodIn gc) rfl rfl rfl (hts _ gi) (hts _ gl) gd hRR, hts _ hin, hts _ hsel⟩ ⟨ja_blind, hrecv, hpc⟩ rfl hlen hS.1.1 hstk hwt d hroom
  | some host => exact va_runVN (As := as.map (ja_cv ads)) (rest := st.map (ja_cv ads)) (b := ads i) ⟨hC.1, hC.2.1, hC.2.2.1, hC.2.2.2.1, hts⟩ hM4 ⟨va_cnB (host := host) as.length hts (ja_goodIn gc) rfl rfl rfl (hC.2.2.2.2.2.2.1.2.1 _ gl) (hts _ gi) gd hRR, hts _ hin, hts _ hsel⟩ ⟨ja_blind, hrecv, hpc⟩ rfl hlen hS.1.1 hstk hwt d hroom
theorem ja_callS {M : ja_Mt} {pc pc' : Nat} {lv : List (Option Value)} {st : List Value} {h : ja_H} {ret : List Value} {hf : ja_H} {idx maxL : Nat} {d0 : Nat × Nat} {y : MethodName} {bytes : ByteArray} {rt : Option FieldType} {nest : Option String} {stk as rv : List Value} {h1 : ja_H}  (g : ja_G M.1 idx y bytes maxL rt as.length nest) (hst9 : Cond.static y ∈ ja_all) (hd : d0.1 + 1 ≤ M.2.2.2.1.1 ∧ 8 + (maxL + 11) + d0.2 ≤ M.2.2.2.1.2) (hM : ja_M d0 y bytes maxL rt as h rv h1) (hst : stk = as.reverse ++ st) (hw : (st.map Value.category).sum ≤ 8) (d : ja_At M pc (.invokestatic idx) 3 pc') (k : ja_J M pc' lv (rv ++ st) h1 ret hf) : ja_J M pc lv stk h ret hf := by
  obtain ⟨d, rfl⟩ := d
  subst hst
  obtain ⟨m1, m2, m3⟩ := hM.1
  obtain ⟨k1, k2, k3⟩ := k.1
  have va : ja_V h lv (as.reverse ++ st) → ja_V h [] as ∧ ja_V h lv st := by
    intro q
    have q2 := ja_vs_app.mp q.2.2
    exact ⟨⟨q.1, fun i r hi => by simp at hi, ja_vs_rev.mp q2.1⟩, q.1, q.2.1, q2.2⟩
  have vn : ja_V h lv (as.reverse ++ st) → ja_V h1 lv (rv ++ st) := by
    intro q
    have q1 := hM.2.1 (va q).1
    exact ⟨q1.1, fun i r hi => Nat.lt_of_lt_of_le (q.2.1 i r hi) m3, ja_vs_app.mpr ⟨q1.2.2, ja_vs_mono m3 (va q).2.2.2⟩⟩
  refine ⟨⟨by omega, by omega, by omega⟩, fun q => k.2.1 (vn q), fun p l e R s m args below meth c Q D aC A kc ks H ls locs cells slots ads hC hS hV hE => ?_⟩
  have hM4 := hM.2.2.2 l D aC ads H.size hC.2.2.2.2.2.2.2.2.2.2.2.2.2.2 (va hV).1
  have hR := hC.2.2.2.2.2.2.2.2.1
  have hrm := hC.2.2.2.2.2.2.2.2.2.2.1
  have hts := hC.2.2.2.2.1
  have hcc := hS.2.2.2.2.1
  have hss := hS.2.2.2.2.2
  obtain ⟨gc, gi, gd, gl⟩ := g
  have hRR : (ja_rm d0 (ja_nc h1 - ja_nc h) (ja_ns h1 - ja_ns h)).frames + 1 ≤ R.frames ∧ 8 + (maxL + 11) + (ja_rm d0 (ja_nc h1 - ja_nc h) (ja_ns h1 - ja_ns h)).locals ≤ R.locals := by
    show d0.1 + 1 ≤ R.frames ∧ 8 + (maxL + 11) + d0.2 ≤ R.locals
    omega
  have hroom : cells + (ja_nc h1 - ja_nc h) ≤ R.cells ∧ slots + (ja_ns h1 - ja_ns h) ≤ R.slots := by omega
  have hpc : ∀ U : State, U.heap = H → s.WarmedH U.vm → va_Pc (as.map (ja_cv ads)) (ja_B D aC ads h H.size) (as.map (ja_cv ads)).toArray U := fun U hU hW => ⟨rfl, by rw [hU], by rw [hU]; exact hS.2.1, va_K.moved hW.alike hC.2.2.2.2.2.1, hC.2.2.2.2.2.2.1.warm hW, hS.2.2.1.weaken (fun _ _ _ _ => trivial), ja_Zx_call hC hS hU hW⟩
  have hlen : (as.map (ja_cv ads)).length = as.length := List.length_map _
  have hwt : 2 * (F0 m pc ls ((as.reverse ++ st).map (ja_cv ads))).monitorRoom + ((st.map (ja_cv ads)).map fun v => v.category).sum ≤ 8 := by rw [ja_cv_sum]; show 2 * 0 + _ ≤ 8; omega
  have hstk : (as.reverse ++ st).map (ja_cv ads) = (as.map (ja_cv ads)).reverse ++ st.map (ja_cv ads) := by simp [ja_cv]
  refine ja_core (a := (as.map (ja_cv ads)).toArray) hM k hC hS (va hV).2 (va hV).1 hE ?_
  cases nest with
  | none => exact va_runS (As := as.map (ja_cv ads)) (rest := st.map (ja_cv ads)) ⟨hC.1, hC.2.1, hC.2.2.1, hC.2.2.2.1, hts⟩ hM4 ⟨callB_of as.length hts (ja_goodIn gc) rfl rfl rfl (hts _ gi) (hts _ gl) gd hRR, hts _ hst9⟩ ⟨ja_blind, hpc⟩ rfl hlen hS.1.1 hstk hwt d hroom
  | some host => exact va_runSN (As := as.map (ja_cv ads)) (rest := st.map (ja_cv ads)) ⟨hC.1, hC.2.1, hC.2.2.1, hC.2.2.2.1, hts⟩ hM4 ⟨va_cnB (host := host) as.length hts (ja_goodIn gc) rfl rfl rfl (hC.2.2.2.2.2.2.1.2.1 _ gl) (hts _ gi) gd hRR, hts _ hst9, trivial⟩ ⟨ja_blind, hpc⟩ rfl hlen hS.1.1 hstk hwt d hroom
theorem ja_callI {M : ja_Mt} {pc pc' : Nat} {lv : List (Option Value)} {st : List Value} {h : ja_H} {ret : List Value} {hf : ja_H} {idx maxL : Nat} {d0 : Nat × Nat} {y : MethodName} {bytes : ByteArray} {rt : Option FieldType} {nest : Option String} {stk as rv : List Value} {h1 : ja_H} {i : Nat} (g : ja_G M.1 idx y bytes maxL rt as.length nest) (hin : Cond.instanceMethod y ∈ ja_all) (hyi : y.name = "<init>") (hrt : rt = none) (hd : d0.1 + 1 ≤ M.2.2.2.1.1 ∧ 8 + (maxL + 11) + d0.2 ≤ M.2.2.2.1.2) (hM : ja_M d0 y bytes maxL rt (.ref i :: as) h rv h1) (hst : stk = as.reverse ++ .ref i :: st) (hw : (st.map Value.category).sum ≤ 8) (d : ja_At M pc (.invokespecial idx) 3 pc') (k : ja_J M pc' lv (rv ++ st) h1 ret hf) : ja_J M pc lv stk h ret hf := by
  obtain ⟨d, rfl⟩ := d
  subst hst
  subst hrt
  obtain ⟨m1, m2, m3⟩ := hM.1
  obtain ⟨k1, k2, k3⟩ := k.1
  have va : ja_V h lv (as.reverse ++ .ref i :: st) → ja_V h [] (.ref i :: as) ∧ ja_V h lv st := by
    intro q
    have q2 := ja_vs_app.mp q.2.2
    exact ⟨⟨q.1, fun i r hi => by simp at hi, ⟨q2.2.1, ja_vs_rev.mp q2.1⟩⟩, q.1, q.2.1, q2.2.2⟩
  have vn : ja_V h lv (as.reverse ++ .ref i :: st) → ja_V h1 lv (rv ++ st) := by
    intro q
    have q1 := hM.2.1 (va q).1
    exact ⟨q1.1, fun i r hi => Nat.lt_of_lt_of_le (q.2.1 i r hi) m3, ja_vs_app.mpr ⟨q1.2.2, ja_vs_mono m3 (va q).2.2.2⟩⟩
  refine ⟨⟨by omega, by omega, by omega⟩, fun q => k.2.1 (vn q), fun p l e R s m args below meth c Q D aC A kc ks H ls locs cells slots ads hC hS hV hE => ?_⟩
  have hM4 := hM.2.2.2 l D aC ads H.size hC.2.2.2.2.2.2.2.2.2.2.2.2.2.2 (va hV).1
  have hR := hC.2.2.2.2.2.2.2.2.1
  have hrm := hC.2.2.2.2.2.2.2.2.2.2.1
  have hts := hC.2.2.2.2.1
  have hcc := hS.2.2.2.2.1
  have hss := hS.2.2.2.2.2
  obtain ⟨gc, gi, gd, gl⟩ := g
  have hRR : (ja_rm d0 (ja_nc h1 - ja_nc h) (ja_ns h1 - ja_ns h)).frames + 1 ≤ R.frames ∧ 8 + (maxL + 11) + (ja_rm d0 (ja_nc h1 - ja_nc h) (ja_ns h1 - ja_ns h)).locals ≤ R.locals := by
    show d0.1 + 1 ≤ R.frames ∧ 8 + (maxL + 11) + d0.2 ≤ R.locals
    omega
  have hroom : cells + (ja_nc h1 - ja_nc h) ≤ R.cells ∧ slots + (ja_ns h1 - ja_ns h) ≤ R.slots := by omega
  have hpc : ∀ U : State, U.heap = H → s.WarmedH U.vm → va_Pc ((.ref i :: as).map (ja_cv ads)) (ja_B D aC ads h H.size) ((.ref i :: as).map (ja_cv ads)).toArray U := fun U hU hW => ⟨rfl, by rw [hU], by rw [hU]; exact hS.2.1, va_K.moved hW.alike hC.2.2.2.2.2.1, hC.2.2.2.2.2.2.1.warm hW, hS.2.2.1.weaken (fun _ _ _ _ => trivial), ja_Zx_call hC hS hU hW⟩
  have hlen : (as.map (ja_cv ads)).length = as.length := List.length_map _
  have hwt : 2 * (F0 m pc ls ((as.reverse ++ .ref i :: st).map (ja_cv ads))).monitorRoom + ((st.map (ja_cv ads)).map fun v => v.category).sum ≤ 8 := by rw [ja_cv_sum]; show 2 * 0 + _ ≤ 8; omega
  have hstk : (as.reverse ++ .ref i :: st).map (ja_cv ads) = (as.map (ja_cv ads)).reverse ++ .ref (ads i) :: st.map (ja_cv ads) := by simp [ja_cv]
  refine ja_core (a := ((.ref i :: as).map (ja_cv ads)).toArray) hM k hC hS (va hV).2 (va hV).1 hE ?_
  cases nest with
  | none => exact va_runI (As := as.map (ja_cv ads)) (rest := st.map (ja_cv ads)) (b := ads i) ⟨hC.1, hC.2.1, hC.2.2.1, hC.2.2.2.1, hts⟩ hM4 ⟨callB_of as.length hts (ja_goodIn gc) rfl rfl rfl (hts _ gi) (hts _ gl) gd hRR, hyi, hts _ hin⟩ ⟨ja_blind, hpc⟩ rfl hlen hS.1.1 hstk hwt d hroom
  | some host => exact va_runIN (As := as.map (ja_cv ads)) (rest := st.map (ja_cv ads)) (b := ads i) ⟨hC.1, hC.2.1, hC.2.2.1, hC.2.2.2.1, hts⟩ hM4 ⟨va_cnB (host := host) as.length hts (ja_goodIn gc) rfl rfl rfl (hC.2.2.2.2.2.2.1.2.1 _ gl) (hts _ gi) gd hRR, hyi, hts _ hin⟩ ⟨ja_blind, hpc⟩ rfl hlen hS.1.1 hstk hwt d hroom
theorem ja_objInit {M : ja_Mt} {pc pc' : Nat} {lv : List (Option Value)} {st : List Value} {h : ja_H} {ret : List Value} {hf : ja_H} {idx i : Nat} (hl : Cond.methodLink M.1 idx objectInit ∈ ja_all) (hin : Cond.instanceMethod objectInit ∈ ja_all) (hcd : Cond.code objectInit ⟨#[0xb1]⟩ 1 none ∈ ja_all) (hd : 1 ≤ M.2.2.2.1.1 ∧ 20 ≤ M.2.2.2.1.2) (hw : (st.map Value.category).sum ≤ 8) (d : ja_At M pc (.invokespecial idx) 3 pc') (k : ja_J M pc' lv st h ret hf) : ja_J M pc lv (.ref i :: st) h ret hf := by
  obtain ⟨d, rfl⟩ := d
  refine ⟨k.1, fun q => k.2.1 ⟨q.1, q.2.1, q.2.2.2⟩, fun p l e R s m args below meth c Q D aC A kc ks H ls locs cells slots ads hC hS hV hE => ?_⟩
  have hR := hC.2.2.2.2.2.2.2.2.1
  refine W.objInit hC.1 hC.2.1 hC.2.2.2.1 (hC.2.2.2.2.1 _ hl) (hC.2.2.2.2.1 _ hin) (hC.2.2.2.2.1 _ hcd) (g := F0 m pc ls (.ref (ads i) :: st.map (ja_cv ads))) rfl (hS.1.1.trans hC.2.2.1.symm) rfl d (by omega) ?_ ?_
  · rw [ja_cv_sum]
    show 2 * 0 + _ + 12 ≤ _
    omega
  · exact k.2.2 p l e R s m args below meth c Q D aC A kc ks H ls locs cells slots ads hC hS ⟨hV.1, hV.2.1, hV.2.2.2⟩ hE
end
section
def ja_D {α : Type} (g : α → List Value × ja_H) (M : ja_Mt) (pc : Nat) (lv : List (Option Value)) (st : List Value) (h : ja_H) (r : Option α) : Prop := ∀ o, r = some o → ja_J M pc lv st h (g o).1 (g o).2
def ja_gV (h : ja_H) : List Value × ja_H := ([], h)
def ja_gI (o : Int32 × ja_H) : List Value × ja_H := ([.int o.1], o.2)
def ja_gL (o : Int64 × ja_H) : List Value × ja_H := ([.long o.1], o.2)
def ja_gX (o : List Value × ja_H) : List Value × ja_H := o
theorem ja_fu_ex : ∃ n : Nat, n = 2000 := ⟨2000, rfl⟩
noncomputable def ja_fu : Nat := Classical.choose ja_fu_ex
theorem ja_fu_eq : ja_fu = 2000 := Classical.choose_spec ja_fu_ex
def ja_lo {β : Type} (B : β → β) (z : β) : Nat → β
  | 0 => z
  | n + 1 => B (ja_lo B z n)
section JD
variable {α β : Type}
def jl (x : β) (K : β → Option α) : Option α := K x
def jf_I (h : ja_H) (i c k : Nat) (K : Int32 → Option α) : Option α := if h.1[i]? = some (.inl c) then K (h.2.1 i k) else none
def jf_L (h : ja_H) (i c k : Nat) (K : Int64 → Option α) : Option α := if h.1[i]? = some (.inl c) then K (h.2.2.1 i k) else none
def jf_R (h : ja_H) (i c k : Nat) (K : Nat → Option α) : Option α := if h.1[i]? = some (.inl c) then (h.2.2.2.1 i k).bind K else none
def jp_I (h : ja_H) (i c k : Nat) (x : Int32) (K : ja_H → Option α) : Option α := if h.1[i]? = some (.inl c) then K (ja_sI h i k x) else none
def jp_Z (h : ja_H) (i c k : Nat) (x : Int32) (K : ja_H → Option α) : Option α := if h.1[i]? = some (.inl c) ∧ (x = 0 ∨ x = 1) then K (ja_sI h i k x) else none
def jp_L (h : ja_H) (i c k : Nat) (x : Int64) (K : ja_H → Option α) : Option α := if h.1[i]? = some (.inl c) then K (ja_sL h i k x) else none
def jp_R (h : ja_H) (i c k : Nat) (x : Nat) (K : ja_H → Option α) : Option α := if h.1[i]? = some (.inl c) then K (ja_sR h i k (some x)) else none
def jn (h : ja_H) (i t : Nat) : Option Nat := match h.1[i]? with
  | some (.inr q) => if q.1 = t then some q.2 else none
  | _ => none
abbrev jx (x : Int32) (n : Nat) : Prop := ¬ (x < 0 ∨ n ≤ x.toNatClampNeg)
def ja_in (h : ja_H) (i t : Nat) (x : Int32) (r : Option α) : Option α := (jn h i t).bind (fun n => if jx x n then r else none)
def je_I (h : ja_H) (i t : Nat) (x : Int32) (K : Int32 → Option α) : Option α := ja_in h i t x (K (h.2.1 i x.toNatClampNeg))
def je_L (h : ja_H) (i : Nat) (x : Int32) (K : Int64 → Option α) : Option α := ja_in h i 1 x (K (h.2.2.1 i x.toNatClampNeg))
def je_R (h : ja_H) (i : Nat) (x : Int32) (K : Nat → Option α) : Option α := ja_in h i 4 x ((h.2.2.2.1 i x.toNatClampNeg).bind K)
def je_N (h : ja_H) (i : Nat) (x : Int32) (A B : Option α) : Option α := ja_in h i 4 x (if h.2.2.2.1 i x.toNatClampNeg = none then A else B)
def js_I (h : ja_H) (i : Nat) (x y : Int32) (K : ja_H → Option α) : Option α := ja_in h i 0 x (K (ja_sI h i x.toNatClampNeg y))
def js_Z (h : ja_H) (i : Nat) (x y : Int32) (K : ja_H → Option α) : Option α := ja_in h i 2 x (K (ja_sI h i x.toNatClampNeg (vp_nar .boolean y)))
def js_B (h : ja_H) (i : Nat) (x y : Int32) (K : ja_H → Option α) : Option α := ja_in h i 3 x (K (ja_sI h i x.toNatClampNeg (vp_nar .byte y)))
def js_L (h : ja_H) (i : Nat) (x : Int32) (y : Int64) (K : ja_H → Option α) : Option α := ja_in h i 1 x (K (ja_sL h i x.toNatClampNeg y))
def js_R (h : ja_H) (i c : Nat) (x : Int32) (r : Nat) (K : ja_H → Option α) : Option α := ja_in h i 4 x (if h.1[r]? = some (.inl c) then K (ja_sR h i x.toNatClampNeg (some r)) else none)
def jg_n (h : ja_H) (i t : Nat) (K : Int32 → Option α) : Option α := (jn h i t).bind (fun n => K (Int32.ofNat n))
def jw_O (h : ja_H) (c : Nat) (K : Nat → ja_H → Option α) : Option α := K h.1.length (ja_nw h (.inl c))
def jw_A (h : ja_H) (t : Nat) (x : Int32) (K : Nat → ja_H → Option α) : Option α := if ¬ x < 0 ∧ x.toNatClampNeg ≤ 16777216 then K h.1.length (ja_nw h (.inr (t, x.toNatClampNeg))) else none
def jz_I (y : Int32) (r : Option α) : Option α := if y = 0 then none else r
def jz_L (y : Int64) (r : Option α) : Option α := if y = 0 then none else r
def jb (x : Int32) (r : Option α) : Option α := if x = 0 ∨ x = 1 then r else none
def jk (h : ja_H) (i c : Nat) (r : Option α) : Option α := if h.1[i]? = some (.inl c) then r else none
def jc_V (r : Option ja_H) (K : ja_H → Option α) : Option α := r.bind K
def jc_I (r : Option (Int32 × ja_H)) (K : Int32 → ja_H → Option α) : Option α := r.bind (fun o => K o.1 o.2)
def jc_L (r : Option (Int64 × ja_H)) (K : Int64 → ja_H → Option α) : Option α := r.bind (fun o => K o.1 o.2)
def jsw (x : Int32) : List Int32 → List (Option α) → Option α → Option α
  | v :: vs, a :: as, d => if x = v then a else jsw x vs as d
  | _, _, d => d
def ja_cpI (h : ja_H) (a b sp dp n : Nat) : ja_H := (h.1, fun c k => if c = b then va_cpy (h.2.1 a) (h.2.1 b) sp dp n k else h.2.1 c k, h.2.2)
def ja_cpL (h : ja_H) (a b sp dp n : Nat) : ja_H := (h.1, h.2.1, fun c k => if c = b then va_cpy (h.2.2.1 a) (h.2.2.1 b) sp dp n k else h.2.2.1 c k, h.2.2.2)
def jy_ok (h : ja_H) (t a b : Nat) (sp dp n : Int32) (r : Option α) : Option α := (jn h a t).bind (fun n0 => (jn h b t).bind (fun n1 => if ¬ sp < 0 ∧ ¬ dp < 0 ∧ ¬ n < 0 ∧ sp.toNatClampNeg + n.toNatClampNeg ≤ n0 ∧ dp.toNatClampNeg + n.toNatClampNeg ≤ n1 then r else none))
def jy_I (h : ja_H) (a : Nat) (sp : Int32) (b : Nat) (dp n : Int32) (K : ja_H → Option α) : Option α := jy_ok h 0 a b sp dp n (K (ja_cpI h a b sp.toNatClampNeg dp.toNatClampNeg n.toNatClampNeg))
def jy_L (h : ja_H) (a : Nat) (sp : Int32) (b : Nat) (dp n : Int32) (K : ja_H → Option α) : Option α := jy_ok h 1 a b sp dp n (K (ja_cpL h a b sp.toNatClampNeg dp.toNatClampNeg n.toNatClampNeg))
end JD
theorem jn_some {h : ja_H} {i t n : Nat} (e : jn h i t = some n) : h.1[i]? = some (.inr (t, n)) := by
  unfold jn at e
  split at e
  · next q hq =>
    split at e
    · next ht => cases e; rw [hq, ← ht]
    · cases e
  · cases e
theorem ja_in_some {α : Type} {h : ja_H} {i t : Nat} {x : Int32} {r : Option α} {o : α} (e : ja_in h i t x r = some o) : ∃ n, h.1[i]? = some (.inr (t, n)) ∧ vp_in x n ∧ r = some o := by
  unfold ja_in at e
  obtain ⟨n, h1, h2⟩ := Option.bind_eq_some_iff.mp e
  split at h2
  · next hx => exact ⟨n, jn_some h1, hx, h2⟩
  · cases h2
def ja_le : List (Option Value) → List (Option Value) → Prop
  | [], _ => True
  | none :: t, _ :: u => ja_le t u
  | some v :: t, w :: u => w = some v ∧ ja_le t u
  | _ :: _, [] => False
theorem ja_le_get : ∀ (a b : List (Option Value)), ja_le a b → ∀ (i : Nat) (v : Value), a[i]? = some (some v) → b[i]? = some (some v)
  | [], _, _, i, v, h => by simp at h
  | none :: t, [], hl, i, v, h => by cases hl
  | some _ :: t, [], hl, i, v, h => by cases hl
  | none :: t, w :: u, hl, 0, v, h => by simp at h
  | none :: t, w :: u, hl, i + 1, v, h => by
    have := ja_le_get t u hl i v (by simpa using h)
    simpa using this
  | some z :: t, w :: u, hl, 0, v, h => by
    have h1 : w = some z := hl.1
    simp at h
    subst h1 h
    simp
  | some z :: t, w :: u, hl, i + 1, v, h => by
    have := ja_le_get t u hl.2 i v (by simpa using h)
    simpa using this
theorem jd_less {α : Type} {g : α → List Value × ja_H} {M : ja_Mt} {pc : Nat} {lv lv' : List (Option Value)} {st : List Value} {h : ja_H} {r : Option α} (k : ja_D g M pc lv' st h r) (hl : ja_le lv' lv) : ja_D g M pc lv st h r :=
  fun o e => ja_less (ja_le_get _ _ hl) (k o e)
theorem jd_iconst {α : Type} {g : α → List Value × ja_H} {M : ja_Mt} {pc pc' : Nat} {lv : List (Option Value)} {st : List Value} {h : ja_H} {r : Option α} {n : Int} (v : Int32) (d : ja_At M pc (.iconst n) 1 pc') (hv : Int32.ofInt n = v) (k : ja_D g M pc' lv (.int v :: st) h r) : ja_D g M pc lv (st) h r := fun o e => ja_iconst d hv (k o e)
theorem jd_bipush {α : Type} {g : α → List Value × ja_H} {M : ja_Mt} {pc pc' : Nat} {lv : List (Option Value)} {st : List Value} {h : ja_H} {r : Option α} {n : Int} (v : Int32) (d : ja_At M pc (.bipush n) 2 pc') (hv : (Int8.ofInt n).toInt32 = v) (k : ja_D g M pc' lv (.int v :: st) h r) : ja_D g M pc lv (st) h r := fun o e => ja_bipush d hv (k o e)
theorem jd_sipush {α : Type} {g : α → List Value × ja_H} {M : ja_Mt} {pc pc' : Nat} {lv : List (Option Value)} {st : List Value} {h : ja_H} {r : Option α} {n : Int} (v : Int32) (d : ja_At M pc (.sipush n) 3 pc') (hv : (Int16.ofInt n).toInt32 = v) (k : ja_D g M pc' lv (.int v :: st) h r) : ja_D g M pc lv (st) h r := fun o e => ja_sipush d hv (k o e)
theorem jd_lconst {α : Type} {g : α → List Value × ja_H} {M : ja_Mt} {pc pc' : Nat} {lv : List (Option Value)} {st : List Value} {h : ja_H} {r : Option α} {n : Fin 2} (v : Int64) (d : ja_At M pc (.lconst n) 1 pc') (hv : Int64.ofNat (n : Nat) = v) (k : ja_D g M pc' lv (.long v :: st) h r) : ja_D g M pc lv (st) h r := fun o e => ja_lconst d hv (k o e)
theorem jd_ldc {α : Type} {g : α → List Value × ja_H} {M : ja_Mt} {pc pc' : Nat} {lv : List (Option Value)} {st : List Value} {h : ja_H} {r : Option α} {index : Nat} {v : Int32} (d : ja_At M pc (.ldc index) 2 pc') (hc : Cond.constant M.1 index v ∈ ja_all) (k : ja_D g M pc' lv (.int v :: st) h r) : ja_D g M pc lv (st) h r := fun o e => ja_ldc d hc (k o e)
theorem jd_ldcw {α : Type} {g : α → List Value × ja_H} {M : ja_Mt} {pc pc' : Nat} {lv : List (Option Value)} {st : List Value} {h : ja_H} {r : Option α} {index : Nat} {v : Int32} (d : ja_At M pc (.ldc_w index) 3 pc') (hc : Cond.constant M.1 index v ∈ ja_all) (k : ja_D g M pc' lv (.int v :: st) h r) : ja_D g M pc lv (st) h r := fun o e => ja_ldcw d hc (k o e)
theorem jd_ldc2 {α : Type} {g : α → List Value × ja_H} {M : ja_Mt} {pc pc' : Nat} {lv : List (Option Value)} {st : List Value} {h : ja_H} {r : Option α} {index : Nat} {v : Int64} (d : ja_At M pc (.ldc2_w index) 3 pc') (hc : Cond.constantLong M.1 index v ∈ ja_all) (k : ja_D g M pc' lv (.long v :: st) h r) : ja_D g M pc lv (st) h r := fun o e => ja_ldc2 d hc (k o e)
theorem jd_iload {α : Type} {g : α → List Value × ja_H} {M : ja_Mt} {pc pc' : Nat} {lv : List (Option Value)} {st : List Value} {h : ja_H} {r : Option α} {i : Nat} {x : Int32} (d : ja_At M pc (.iload i) 2 pc') (hl : lv[i]? = some (some (.int x))) (k : ja_D g M pc' lv (.int x :: st) h r) : ja_D g M pc lv (st) h r := fun o e => ja_iload d hl (k o e)
theorem jd_iload_n {α : Type} {g : α → List Value × ja_H} {M : ja_Mt} {pc pc' : Nat} {lv : List (Option Value)} {st : List Value} {h : ja_H} {r : Option α} {n : Fin 4} {x : Int32} (d : ja_At M pc (.iload_n n) 1 pc') (hl : lv[(n : Nat)]? = some (some (.int x))) (k : ja_D g M pc' lv (.int x :: st) h r) : ja_D g M pc lv (st) h r := fun o e => ja_iload_n d hl (k o e)
theorem jd_lload {α : Type} {g : α → List Value × ja_H} {M : ja_Mt} {pc pc' : Nat} {lv : List (Option Value)} {st : List Value} {h : ja_H} {r : Option α} {i : Nat} {x : Int64} (d : ja_At M pc (.lload i) 2 pc') (hl : lv[i]? = some (some (.long x))) (k : ja_D g M pc' lv (.long x :: st) h r) : ja_D g M pc lv (st) h r := fun o e => ja_lload d hl (k o e)
theorem jd_lload_n {α : Type} {g : α → List Value × ja_H} {M : ja_Mt} {pc pc' : Nat} {lv : List (Option Value)} {st : List Value} {h : ja_H} {r : Option α} {n : Fin 4} {x : Int64} (d : ja_At M pc (.lload_n n) 1 pc') (hl : lv[(n : Nat)]? = some (some (.long x))) (k : ja_D g M pc' lv (.long x :: st) h r) : ja_D g M pc lv (st) h r := fun o e => ja_lload_n d hl (k o e)
theorem jd_aload {α : Type} {g : α → List Value × ja_H} {M : ja_Mt} {pc pc' : Nat} {lv : List (Option Value)} {st : List Value} {h : ja_H} {r : Option α} {i : Nat} {x : Nat} (d : ja_At M pc (.aload i) 2 pc') (hl : lv[i]? = some (some (.ref x))) (k : ja_D g M pc' lv (.ref x :: st) h r) : ja_D g M pc lv (st) h r := fun o e => ja_aload d hl (k o e)
theorem jd_aload_n {α : Type} {g : α → List Value × ja_H} {M : ja_Mt} {pc pc' : Nat} {lv : List (Option Value)} {st : List Value} {h : ja_H} {r : Option α} {n : Fin 4} {x : Nat} (d : ja_At M pc (.aload_n n) 1 pc') (hl : lv[(n : Nat)]? = some (some (.ref x))) (k : ja_D g M pc' lv (.ref x :: st) h r) : ja_D g M pc lv (st) h r := fun o e => ja_aload_n d hl (k o e)
theorem jd_iadd {α : Type} {g : α → List Value × ja_H} {M : ja_Mt} {pc pc' : Nat} {lv : List (Option Value)} {st : List Value} {h : ja_H} {r : Option α} {x y : Int32} (d : ja_At M pc .iadd 1 pc')  (k : ja_D g M pc' lv (.int (x + y) :: st) h r) : ja_D g M pc lv (.int y :: .int x :: st) h r := fun o e => ja_iadd d  (k o e)
theorem jd_isub {α : Type} {g : α → List Value × ja_H} {M : ja_Mt} {pc pc' : Nat} {lv : List (Option Value)} {st : List Value} {h : ja_H} {r : Option α} {x y : Int32} (d : ja_At M pc .isub 1 pc')  (k : ja_D g M pc' lv (.int (x - y) :: st) h r) : ja_D g M pc lv (.int y :: .int x :: st) h r := fun o e => ja_isub d  (k o e)
theorem jd_imul {α : Type} {g : α → List Value × ja_H} {M : ja_Mt} {pc pc' : Nat} {lv : List (Option Value)} {st : List Value} {h : ja_H} {r : Option α} {x y : Int32} (d : ja_At M pc .imul 1 pc')  (k : ja_D g M pc' lv (.int (x * y) :: st) h r) : ja_D g M pc lv (.int y :: .int x :: st) h r := fun o e => ja_imul d  (k o e)
theorem jd_iand {α : Type} {g : α → List Value × ja_H} {M : ja_Mt} {pc pc' : Nat} {lv : List (Option Value)} {st : List Value} {h : ja_H} {r : Option α} {x y : Int32} (d : ja_At M pc .iand 1 pc')  (k : ja_D g M pc' lv (.int (x &&& y) :: st) h r) : ja_D g M pc lv (.int y :: .int x :: st) h r := fun o e => ja_iand d  (k o e)
theorem jd_ior {α : Type} {g : α → List Value × ja_H} {M : ja_Mt} {pc pc' : Nat} {lv : List (Option Value)} {st : List Value} {h : ja_H} {r : Option α} {x y : Int32} (d : ja_At M pc .ior 1 pc')  (k : ja_D g M pc' lv (.int (x ||| y) :: st) h r) : ja_D g M pc lv (.int y :: .int x :: st) h r := fun o e => ja_ior d  (k o e)
theorem jd_ixor {α : Type} {g : α → List Value × ja_H} {M : ja_Mt} {pc pc' : Nat} {lv : List (Option Value)} {st : List Value} {h : ja_H} {r : Option α} {x y : Int32} (d : ja_At M pc .ixor 1 pc')  (k : ja_D g M pc' lv (.int (x ^^^ y) :: st) h r) : ja_D g M pc lv (.int y :: .int x :: st) h r := fun o e => ja_ixor d  (k o e)
theorem jd_ishl {α : Type} {g : α → List Value × ja_H} {M : ja_Mt} {pc pc' : Nat} {lv : List (Option Value)} {st : List Value} {h : ja_H} {r : Option α} {x y : Int32} (d : ja_At M pc .ishl 1 pc')  (k : ja_D g M pc' lv (.int (x <<< (y &&& 31)) :: st) h r) : ja_D g M pc lv (.int y :: .int x :: st) h r := fun o e => ja_ishl d  (k o e)
theorem jd_ishr {α : Type} {g : α → List Value × ja_H} {M : ja_Mt} {pc pc' : Nat} {lv : List (Option Value)} {st : List Value} {h : ja_H} {r : Option α} {x y : Int32} (d : ja_At M pc .ishr 1 pc')  (k : ja_D g M pc' lv (.int (x >>> (y &&& 31)) :: st) h r) : ja_D g M pc lv (.int y :: .int x :: st) h r := fun o e => ja_ishr d  (k o e)
theorem jd_ladd {α : Type} {g : α → List Value × ja_H} {M : ja_Mt} {pc pc' : Nat} {lv : List (Option Value)} {st : List Value} {h : ja_H} {r : Option α} {x y : Int64} (d : ja_At M pc .ladd 1 pc')  (k : ja_D g M pc' lv (.long (x + y) :: st) h r) : ja_D g M pc lv (.long y :: .long x :: st) h r := fun o e => ja_ladd d  (k o e)
theorem jd_lsub {α : Type} {g : α → List Value × ja_H} {M : ja_Mt} {pc pc' : Nat} {lv : List (Option Value)} {st : List Value} {h : ja_H} {r : Option α} {x y : Int64} (d : ja_At M pc .lsub 1 pc')  (k : ja_D g M pc' lv (.long (x - y) :: st) h r) : ja_D g M pc lv (.long y :: .long x :: st) h r := fun o e => ja_lsub d  (k o e)
theorem jd_lmul {α : Type} {g : α → List Value × ja_H} {M : ja_Mt} {pc pc' : Nat} {lv : List (Option Value)} {st : List Value} {h : ja_H} {r : Option α} {x y : Int64} (d : ja_At M pc .lmul 1 pc')  (k : ja_D g M pc' lv (.long (x * y) :: st) h r) : ja_D g M pc lv (.long y :: .long x :: st) h r := fun o e => ja_lmul d  (k o e)
theorem jd_land {α : Type} {g : α → List Value × ja_H} {M : ja_Mt} {pc pc' : Nat} {lv : List (Option Value)} {st : List Value} {h : ja_H} {r : Option α} {x y : Int64} (d : ja_At M pc .land 1 pc')  (k : ja_D g M pc' lv (.long (x &&& y) :: st) h r) : ja_D g M pc lv (.long y :: .long x :: st) h r := fun o e => ja_land d  (k o e)
theorem jd_lor {α : Type} {g : α → List Value × ja_H} {M : ja_Mt} {pc pc' : Nat} {lv : List (Option Value)} {st : List Value} {h : ja_H} {r : Option α} {x y : Int64} (d : ja_At M pc .lor 1 pc')  (k : ja_D g M pc' lv (.long (x ||| y) :: st) h r) : ja_D g M pc lv (.long y :: .long x :: st) h r := fun o e => ja_lor d  (k o e)
theorem jd_lxor {α : Type} {g : α → List Value × ja_H} {M : ja_Mt} {pc pc' : Nat} {lv : List (Option Value)} {st : List Value} {h : ja_H} {r : Option α} {x y : Int64} (d : ja_At M pc .lxor 1 pc')  (k : ja_D g M pc' lv (.long (x ^^^ y) :: st) h r) : ja_D g M pc lv (.long y :: .long x :: st) h r := fun o e => ja_lxor d  (k o e)
theorem jd_ineg {α : Type} {g : α → List Value × ja_H} {M : ja_Mt} {pc pc' : Nat} {lv : List (Option Value)} {st : List Value} {h : ja_H} {r : Option α} {x : Int32} (d : ja_At M pc .ineg 1 pc')  (k : ja_D g M pc' lv (.int (-x) :: st) h r) : ja_D g M pc lv (.int x :: st) h r := fun o e => ja_ineg d  (k o e)
theorem jd_lneg {α : Type} {g : α → List Value × ja_H} {M : ja_Mt} {pc pc' : Nat} {lv : List (Option Value)} {st : List Value} {h : ja_H} {r : Option α} {x : Int64} (d : ja_At M pc .lneg 1 pc')  (k : ja_D g M pc' lv (.long (-x) :: st) h r) : ja_D g M pc lv (.long x :: st) h r := fun o e => ja_lneg d  (k o e)
theorem jd_i2l {α : Type} {g : α → List Value × ja_H} {M : ja_Mt} {pc pc' : Nat} {lv : List (Option Value)} {st : List Value} {h : ja_H} {r : Option α} {x : Int32} (d : ja_At M pc .i2l 1 pc')  (k : ja_D g M pc' lv (.long x.toInt64 :: st) h r) : ja_D g M pc lv (.int x :: st) h r := fun o e => ja_i2l d  (k o e)
theorem jd_l2i {α : Type} {g : α → List Value × ja_H} {M : ja_Mt} {pc pc' : Nat} {lv : List (Option Value)} {st : List Value} {h : ja_H} {r : Option α} {x : Int64} (d : ja_At M pc .l2i 1 pc')  (k : ja_D g M pc' lv (.int x.toInt32 :: st) h r) : ja_D g M pc lv (.long x :: st) h r := fun o e => ja_l2i d  (k o e)
theorem jd_i2b {α : Type} {g : α → List Value × ja_H} {M : ja_Mt} {pc pc' : Nat} {lv : List (Option Value)} {st : List Value} {h : ja_H} {r : Option α} {x : Int32} (d : ja_At M pc .i2b 1 pc')  (k : ja_D g M pc' lv (.int x.toInt8.toInt32 :: st) h r) : ja_D g M pc lv (.int x :: st) h r := fun o e => ja_i2b d  (k o e)
theorem jd_i2s {α : Type} {g : α → List Value × ja_H} {M : ja_Mt} {pc pc' : Nat} {lv : List (Option Value)} {st : List Value} {h : ja_H} {r : Option α} {x : Int32} (d : ja_At M pc .i2s 1 pc')  (k : ja_D g M pc' lv (.int x.toInt16.toInt32 :: st) h r) : ja_D g M pc lv (.int x :: st) h r := fun o e => ja_i2s d  (k o e)
theorem jd_iushr {α : Type} {g : α → List Value × ja_H} {M : ja_Mt} {pc pc' : Nat} {lv : List (Option Value)} {st : List Value} {h : ja_H} {r : Option α} {x y : Int32} (d : ja_At M pc .iushr 1 pc')  (k : ja_D g M pc' lv (.int (x.toUInt32 >>> (y.toUInt32 &&& Int32.toUInt32 31)).toInt32 :: st) h r) : ja_D g M pc lv (.int y :: .int x :: st) h r := fun o e => ja_iushr d  (k o e)
theorem jd_lushr {α : Type} {g : α → List Value × ja_H} {M : ja_Mt} {pc pc' : Nat} {lv : List (Option Value)} {st : List Value} {h : ja_H} {r : Option α} {x : Int64} {y : Int32} (d : ja_At M pc .lushr 1 pc')  (k : ja_D g M pc' lv (.long (x.toUInt64 >>> (y.toInt64.toUInt64 &&& Int64.toUInt64 63)).toInt64 :: st) h r) : ja_D g M pc lv (.int y :: .long x :: st) h r := fun o e => ja_lushr d  (k o e)
theorem jd_lshl {α : Type} {g : α → List Value × ja_H} {M : ja_Mt} {pc pc' : Nat} {lv : List (Option Value)} {st : List Value} {h : ja_H} {r : Option α} {x : Int64} {y : Int32} (d : ja_At M pc .lshl 1 pc')  (k : ja_D g M pc' lv (.long (x <<< (y.toInt64 &&& 63)) :: st) h r) : ja_D g M pc lv (.int y :: .long x :: st) h r := fun o e => ja_lshl d  (k o e)
theorem jd_lshr {α : Type} {g : α → List Value × ja_H} {M : ja_Mt} {pc pc' : Nat} {lv : List (Option Value)} {st : List Value} {h : ja_H} {r : Option α} {x : Int64} {y : Int32} (d : ja_At M pc .lshr 1 pc')  (k : ja_D g M pc' lv (.long (x >>> (y.toInt64 &&& 63)) :: st) h r) : ja_D g M pc lv (.int y :: .long x :: st) h r := fun o e => ja_lshr d  (k o e)
theorem jd_dupI {α : Type} {g : α → List Value × ja_H} {M : ja_Mt} {pc pc' : Nat} {lv : List (Option Value)} {st : List Value} {h : ja_H} {r : Option α} {x : Int32} (d : ja_At M pc .dup 1 pc')  (k : ja_D g M pc' lv (.int x :: .int x :: st) h r) : ja_D g M pc lv (.int x :: st) h r := fun o e => ja_dupI d  (k o e)
theorem jd_dupR {α : Type} {g : α → List Value × ja_H} {M : ja_Mt} {pc pc' : Nat} {lv : List (Option Value)} {st : List Value} {h : ja_H} {r : Option α} {x : Nat} (d : ja_At M pc .dup 1 pc')  (k : ja_D g M pc' lv (.ref x :: .ref x :: st) h r) : ja_D g M pc lv (.ref x :: st) h r := fun o e => ja_dupR d  (k o e)
theorem jd_dup2 {α : Type} {g : α → List Value × ja_H} {M : ja_Mt} {pc pc' : Nat} {lv : List (Option Value)} {st : List Value} {h : ja_H} {r : Option α} {x : Int32} {a : Nat} (d : ja_At M pc .dup2 1 pc')  (k : ja_D g M pc' lv (.int x :: .ref a :: .int x :: .ref a :: st) h r) : ja_D g M pc lv (.int x :: .ref a :: st) h r := fun o e => ja_dup2 d  (k o e)
theorem jd_popI {α : Type} {g : α → List Value × ja_H} {M : ja_Mt} {pc pc' : Nat} {lv : List (Option Value)} {st : List Value} {h : ja_H} {r : Option α} {x : Int32} (d : ja_At M pc .pop 1 pc')  (k : ja_D g M pc' lv (st) h r) : ja_D g M pc lv (.int x :: st) h r := fun o e => ja_popI d  (k o e)
theorem jd_idiv {α : Type} {g : α → List Value × ja_H} {M : ja_Mt} {pc pc' : Nat} {lv : List (Option Value)} {st : List Value} {h : ja_H} {r : Option α} {x y : Int32} (d : ja_At M pc .idiv 1 pc') (k : ja_D g M pc' lv (.int (x / y) :: st) h r) : ja_D g M pc lv (.int y :: .int x :: st) h (jz_I y r) := by
  intro o e
  unfold jz_I at e
  split at e
  · cases e
  · next hy => exact ja_idiv d hy (k o e)
theorem jd_irem {α : Type} {g : α → List Value × ja_H} {M : ja_Mt} {pc pc' : Nat} {lv : List (Option Value)} {st : List Value} {h : ja_H} {r : Option α} {x y : Int32} (d : ja_At M pc .irem 1 pc') (k : ja_D g M pc' lv (.int (x - x / y * y) :: st) h r) : ja_D g M pc lv (.int y :: .int x :: st) h (jz_I y r) := by
  intro o e
  unfold jz_I at e
  split at e
  · cases e
  · next hy => exact ja_irem d hy (k o e)
theorem jd_ldiv {α : Type} {g : α → List Value × ja_H} {M : ja_Mt} {pc pc' : Nat} {lv : List (Option Value)} {st : List Value} {h : ja_H} {r : Option α} {x y : Int64} (d : ja_At M pc .ldiv 1 pc') (k : ja_D g M pc' lv (.long (x / y) :: st) h r) : ja_D g M pc lv (.long y :: .long x :: st) h (jz_L y r) := by
  intro o e
  unfold jz_L at e
  split at e
  · cases e
  · next hy => exact ja_ldiv d hy (k o e)
theorem jd_lrem {α : Type} {g : α → List Value × ja_H} {M : ja_Mt} {pc pc' : Nat} {lv : List (Option Value)} {st : List Value} {h : ja_H} {r : Option α} {x y : Int64} (d : ja_At M pc .lrem 1 pc') (k : ja_D g M pc' lv (.long (x - x / y * y) :: st) h r) : ja_D g M pc lv (.long y :: .long x :: st) h (jz_L y r) := by
  intro o e
  unfold jz_L at e
  split at e
  · cases e
  · next hy => exact ja_lrem d hy (k o e)
theorem jd_istore {α : Type} {g : α → List Value × ja_H} {M : ja_Mt} {pc pc' : Nat} {lv : List (Option Value)} {st : List Value} {h : ja_H} {i : Nat} {x : Int32} {K : Int32 → Option α} (lv' : Int32 → List (Option Value)) (d : ja_At M pc (.istore i) 2 pc') (hn : i < M.2.2.1) (hok : ja_ok lv i = true) (hl : ∀ y, lv.set i (some (.int y)) = lv' y) (k : ∀ y, ja_D g M pc' (lv' y) st h (K y)) : ja_D g M pc lv (.int x :: st) h (jl x K) := fun o e => ja_istore d hn hok (by rw [hl x]; exact k x o e)
theorem jd_istore_n {α : Type} {g : α → List Value × ja_H} {M : ja_Mt} {pc pc' : Nat} {lv : List (Option Value)} {st : List Value} {h : ja_H} {n : Fin 4} {x : Int32} {K : Int32 → Option α} (lv' : Int32 → List (Option Value)) (d : ja_At M pc (.istore_n n) 1 pc') (hn : (n : Nat) < M.2.2.1) (hok : ja_ok lv (n : Nat) = true) (hl : ∀ y, lv.set (n : Nat) (some (.int y)) = lv' y) (k : ∀ y, ja_D g M pc' (lv' y) st h (K y)) : ja_D g M pc lv (.int x :: st) h (jl x K) := fun o e => ja_istore_n d hn hok (by rw [hl x]; exact k x o e)
theorem jd_lstore {α : Type} {g : α → List Value × ja_H} {M : ja_Mt} {pc pc' : Nat} {lv : List (Option Value)} {st : List Value} {h : ja_H} {i : Nat} {x : Int64} {K : Int64 → Option α} (lv' : Int64 → List (Option Value)) (d : ja_At M pc (.lstore i) 2 pc') (hn : i + 1 < M.2.2.1) (hok : ja_ok lv i = true) (hl : ∀ y, (lv.set i (some (.long y))).set (i + 1) none = lv' y) (k : ∀ y, ja_D g M pc' (lv' y) st h (K y)) : ja_D g M pc lv (.long x :: st) h (jl x K) := fun o e => ja_lstore d hn hok (by rw [hl x]; exact k x o e)
theorem jd_lstore_n {α : Type} {g : α → List Value × ja_H} {M : ja_Mt} {pc pc' : Nat} {lv : List (Option Value)} {st : List Value} {h : ja_H} {n : Fin 4} {x : Int64} {K : Int64 → Option α} (lv' : Int64 → List (Option Value)) (d : ja_At M pc (.lstore_n n) 1 pc') (hn : (n : Nat) + 1 < M.2.2.1) (hok : ja_ok lv (n : Nat) = true) (hl : ∀ y, (lv.set (n : Nat) (some (.long y))).set ((n : Nat) + 1) none = lv' y) (k : ∀ y, ja_D g M pc' (lv' y) st h (K y)) : ja_D g M pc lv (.long x :: st) h (jl x K) := fun o e => ja_lstore_n d hn hok (by rw [hl x]; exact k x o e)
theorem jd_astore {α : Type} {g : α → List Value × ja_H} {M : ja_Mt} {pc pc' : Nat} {lv : List (Option Value)} {st : List Value} {h : ja_H} {i : Nat} {x : Nat} {K : Nat → Option α} (lv' : Nat → List (Option Value)) (d : ja_At M pc (.astore i) 2 pc') (hn : i < M.2.2.1) (hok : ja_ok lv i = true) (hl : ∀ y, lv.set i (some (.ref y)) = lv' y) (k : ∀ y, ja_D g M pc' (lv' y) st h (K y)) : ja_D g M pc lv (.ref x :: st) h (jl x K) := fun o e => ja_astore d hn hok (by rw [hl x]; exact k x o e)
theorem jd_astore_n {α : Type} {g : α → List Value × ja_H} {M : ja_Mt} {pc pc' : Nat} {lv : List (Option Value)} {st : List Value} {h : ja_H} {n : Fin 4} {x : Nat} {K : Nat → Option α} (lv' : Nat → List (Option Value)) (d : ja_At M pc (.astore_n n) 1 pc') (hn : (n : Nat) < M.2.2.1) (hok : ja_ok lv (n : Nat) = true) (hl : ∀ y, lv.set (n : Nat) (some (.ref y)) = lv' y) (k : ∀ y, ja_D g M pc' (lv' y) st h (K y)) : ja_D g M pc lv (.ref x :: st) h (jl x K) := fun o e => ja_astore_n d hn hok (by rw [hl x]; exact k x o e)
theorem jd_iinc {α : Type} {g : α → List Value × ja_H} {M : ja_Mt} {pc pc' : Nat} {lv : List (Option Value)} {st : List Value} {h : ja_H} {i : Nat} {n : Int} {x c : Int32} {K : Int32 → Option α} (lv' : Int32 → List (Option Value)) (d : ja_At M pc (.iinc i n) 3 pc') (hc : Int32.ofInt n = c) (hx : lv[i]? = some (some (.int x))) (hn : i < M.2.2.1) (hok : ja_ok lv i = true) (hl : ∀ y, lv.set i (some (.int y)) = lv' y) (k : ∀ y, ja_D g M pc' (lv' y) st h (K y)) : ja_D g M pc lv st h (jl (x + c) K) := fun o e => ja_iinc d hx (by rw [hc]) hn hok (by rw [hl]; exact k _ o e)
theorem jd_if_eq {α : Type} {g : α → List Value × ja_H} {M : ja_Mt} {pc pc' : Nat} {lv : List (Option Value)} {st : List Value} {h : ja_H} {x : Int32} {off : Int} (tgt : Nat) {A B : Option α} (d : ja_At M pc (.ifCond .eq off) 3 pc') (ht : (pc : Int) + off = (tgt : Int)) (kt : ja_D g M tgt lv st h A) (kf : ja_D g M pc' lv st h B) : ja_D g M pc lv (.int x :: st) h (if x = 0 then A else B) := fun o e => ja_if_eq d ht (fun q => kt o (by rw [if_pos q] at e; exact e)) (fun q => kf o (by rw [if_neg q] at e; exact e))
theorem jd_icmp_eq {α : Type} {g : α → List Value × ja_H} {M : ja_Mt} {pc pc' : Nat} {lv : List (Option Value)} {st : List Value} {h : ja_H} {x y : Int32} {off : Int} (tgt : Nat) {A B : Option α} (d : ja_At M pc (.if_icmp .eq off) 3 pc') (ht : (pc : Int) + off = (tgt : Int)) (kt : ja_D g M tgt lv st h A) (kf : ja_D g M pc' lv st h B) : ja_D g M pc lv (.int y :: .int x :: st) h (if x = y then A else B) := fun o e => ja_icmp_eq d ht (fun q => kt o (by rw [if_pos q] at e; exact e)) (fun q => kf o (by rw [if_neg q] at e; exact e))
theorem jd_lcmp_eq {α : Type} {g : α → List Value × ja_H} {M : ja_Mt} {pc pc' : Nat} {lv : List (Option Value)} {st : List Value} {h : ja_H} {pc1 : Nat} {x y : Int64} {off : Int} (tgt : Nat) {A B : Option α} (d : ja_At M pc .lcmp 1 pc1) (d2 : ja_At M pc1 (.ifCond .eq off) 3 pc') (ht : (pc1 : Int) + off = (tgt : Int)) (kt : ja_D g M tgt lv st h A) (kf : ja_D g M pc' lv st h B) : ja_D g M pc lv (.long y :: .long x :: st) h (if x = y then A else B) := fun o e => ja_lcmp_eq d d2 ht (fun q => kt o (by rw [if_pos q] at e; exact e)) (fun q => kf o (by rw [if_neg q] at e; exact e))
theorem jd_if_lt {α : Type} {g : α → List Value × ja_H} {M : ja_Mt} {pc pc' : Nat} {lv : List (Option Value)} {st : List Value} {h : ja_H} {x : Int32} {off : Int} (tgt : Nat) {A B : Option α} (d : ja_At M pc (.ifCond .lt off) 3 pc') (ht : (pc : Int) + off = (tgt : Int)) (kt : ja_D g M tgt lv st h A) (kf : ja_D g M pc' lv st h B) : ja_D g M pc lv (.int x :: st) h (if x < 0 then A else B) := fun o e => ja_if_lt d ht (fun q => kt o (by rw [if_pos q] at e; exact e)) (fun q => kf o (by rw [if_neg q] at e; exact e))
theorem jd_icmp_lt {α : Type} {g : α → List Value × ja_H} {M : ja_Mt} {pc pc' : Nat} {lv : List (Option Value)} {st : List Value} {h : ja_H} {x y : Int32} {off : Int} (tgt : Nat) {A B : Option α} (d : ja_At M pc (.if_icmp .lt off) 3 pc') (ht : (pc : Int) + off = (tgt : Int)) (kt : ja_D g M tgt lv st h A) (kf : ja_D g M pc' lv st h B) : ja_D g M pc lv (.int y :: .int x :: st) h (if x < y then A else B) := fun o e => ja_icmp_lt d ht (fun q => kt o (by rw [if_pos q] at e; exact e)) (fun q => kf o (by rw [if_neg q] at e; exact e))
theorem jd_lcmp_lt {α : Type} {g : α → List Value × ja_H} {M : ja_Mt} {pc pc' : Nat} {lv : List (Option Value)} {st : List Value} {h : ja_H} {pc1 : Nat} {x y : Int64} {off : Int} (tgt : Nat) {A B : Option α} (d : ja_At M pc .lcmp 1 pc1) (d2 : ja_At M pc1 (.ifCond .lt off) 3 pc') (ht : (pc1 : Int) + off = (tgt : Int)) (kt : ja_D g M tgt lv st h A) (kf : ja_D g M pc' lv st h B) : ja_D g M pc lv (.long y :: .long x :: st) h (if x < y then A else B) := fun o e => ja_lcmp_lt d d2 ht (fun q => kt o (by rw [if_pos q] at e; exact e)) (fun q => kf o (by rw [if_neg q] at e; exact e))
theorem jd_if_ge {α : Type} {g : α → List Value × ja_H} {M : ja_Mt} {pc pc' : Nat} {lv : List (Option Value)} {st : List Value} {h : ja_H} {x : Int32} {off : Int} (tgt : Nat) {A B : Option α} (d : ja_At M pc (.ifCond .ge off) 3 pc') (ht : (pc : Int) + off = (tgt : Int)) (kt : ja_D g M tgt lv st h A) (kf : ja_D g M pc' lv st h B) : ja_D g M pc lv (.int x :: st) h (if 0 ≤ x then A else B) := fun o e => ja_if_ge d ht (fun q => kt o (by rw [if_pos q] at e; exact e)) (fun q => kf o (by rw [if_neg q] at e; exact e))
theorem jd_icmp_ge {α : Type} {g : α → List Value × ja_H} {M : ja_Mt} {pc pc' : Nat} {lv : List (Option Value)} {st : List Value} {h : ja_H} {x y : Int32} {off : Int} (tgt : Nat) {A B : Option α} (d : ja_At M pc (.if_icmp .ge off) 3 pc') (ht : (pc : Int) + off = (tgt : Int)) (kt : ja_D g M tgt lv st h A) (kf : ja_D g M pc' lv st h B) : ja_D g M pc lv (.int y :: .int x :: st) h (if y ≤ x then A else B) := fun o e => ja_icmp_ge d ht (fun q => kt o (by rw [if_pos q] at e; exact e)) (fun q => kf o (by rw [if_neg q] at e; exact e))
theorem jd_lcmp_ge {α : Type} {g : α → List Value × ja_H} {M : ja_Mt} {pc pc' : Nat} {lv : List (Option Value)} {st : List Value} {h : ja_H} {pc1 : Nat} {x y : Int64} {off : Int} (tgt : Nat) {A B : Option α} (d : ja_At M pc .lcmp 1 pc1) (d2 : ja_At M pc1 (.ifCond .ge off) 3 pc') (ht : (pc1 : Int) + off = (tgt : Int)) (kt : ja_D g M tgt lv st h A) (kf : ja_D g M pc' lv st h B) : ja_D g M pc lv (.long y :: .long x :: st) h (if y ≤ x then A else B) := fun o e => ja_lcmp_ge d d2 ht (fun q => kt o (by rw [if_pos q] at e; exact e)) (fun q => kf o (by rw [if_neg q] at e; exact e))
theorem jd_if_gt {α : Type} {g : α → List Value × ja_H} {M : ja_Mt} {pc pc' : Nat} {lv : List (Option Value)} {st : List Value} {h : ja_H} {x : Int32} {off : Int} (tgt : Nat) {A B : Option α} (d : ja_At M pc (.ifCond .gt off) 3 pc') (ht : (pc : Int) + off = (tgt : Int)) (kt : ja_D g M tgt lv st h A) (kf : ja_D g M pc' lv st h B) : ja_D g M pc lv (.int x :: st) h (if 0 < x then A else B) := fun o e => ja_if_gt d ht (fun q => kt o (by rw [if_pos q] at e; exact e)) (fun q => kf o (by rw [if_neg q] at e; exact e))
theorem jd_icmp_gt {α : Type} {g : α → List Value × ja_H} {M : ja_Mt} {pc pc' : Nat} {lv : List (Option Value)} {st : List Value} {h : ja_H} {x y : Int32} {off : Int} (tgt : Nat) {A B : Option α} (d : ja_At M pc (.if_icmp .gt off) 3 pc') (ht : (pc : Int) + off = (tgt : Int)) (kt : ja_D g M tgt lv st h A) (kf : ja_D g M pc' lv st h B) : ja_D g M pc lv (.int y :: .int x :: st) h (if y < x then A else B) := fun o e => ja_icmp_gt d ht (fun q => kt o (by rw [if_pos q] at e; exact e)) (fun q => kf o (by rw [if_neg q] at e; exact e))
theorem jd_lcmp_gt {α : Type} {g : α → List Value × ja_H} {M : ja_Mt} {pc pc' : Nat} {lv : List (Option Value)} {st : List Value} {h : ja_H} {pc1 : Nat} {x y : Int64} {off : Int} (tgt : Nat) {A B : Option α} (d : ja_At M pc .lcmp 1 pc1) (d2 : ja_At M pc1 (.ifCond .gt off) 3 pc') (ht : (pc1 : Int) + off = (tgt : Int)) (kt : ja_D g M tgt lv st h A) (kf : ja_D g M pc' lv st h B) : ja_D g M pc lv (.long y :: .long x :: st) h (if y < x then A else B) := fun o e => ja_lcmp_gt d d2 ht (fun q => kt o (by rw [if_pos q] at e; exact e)) (fun q => kf o (by rw [if_neg q] at e; exact e))
theorem jd_if_le {α : Type} {g : α → List Value × ja_H} {M : ja_Mt} {pc pc' : Nat} {lv : List (Option Value)} {st : List Value} {h : ja_H} {x : Int32} {off : Int} (tgt : Nat) {A B : Option α} (d : ja_At M pc (.ifCond .le off) 3 pc') (ht : (pc : Int) + off = (tgt : Int)) (kt : ja_D g M tgt lv st h A) (kf : ja_D g M pc' lv st h B) : ja_D g M pc lv (.int x :: st) h (if x ≤ 0 then A else B) := fun o e => ja_if_le d ht (fun q => kt o (by rw [if_pos q] at e; exact e)) (fun q => kf o (by rw [if_neg q] at e; exact e))
theorem jd_icmp_le {α : Type} {g : α → List Value × ja_H} {M : ja_Mt} {pc pc' : Nat} {lv : List (Option Value)} {st : List Value} {h : ja_H} {x y : Int32} {off : Int} (tgt : Nat) {A B : Option α} (d : ja_At M pc (.if_icmp .le off) 3 pc') (ht : (pc : Int) + off = (tgt : Int)) (kt : ja_D g M tgt lv st h A) (kf : ja_D g M pc' lv st h B) : ja_D g M pc lv (.int y :: .int x :: st) h (if x ≤ y then A else B) := fun o e => ja_icmp_le d ht (fun q => kt o (by rw [if_pos q] at e; exact e)) (fun q => kf o (by rw [if_neg q] at e; exact e))
theorem jd_lcmp_le {α : Type} {g : α → List Value × ja_H} {M : ja_Mt} {pc pc' : Nat} {lv : List (Option Value)} {st : List Value} {h : ja_H} {pc1 : Nat} {x y : Int64} {off : Int} (tgt : Nat) {A B : Option α} (d : ja_At M pc .lcmp 1 pc1) (d2 : ja_At M pc1 (.ifCond .le off) 3 pc') (ht : (pc1 : Int) + off = (tgt : Int)) (kt : ja_D g M tgt lv st h A) (kf : ja_D g M pc' lv st h B) : ja_D g M pc lv (.long y :: .long x :: st) h (if x ≤ y then A else B) := fun o e => ja_lcmp_le d d2 ht (fun q => kt o (by rw [if_pos q] at e; exact e)) (fun q => kf o (by rw [if_neg q] at e; exact e))
theorem jd_if_ne {α : Type} {g : α → List Value × ja_H} {M : ja_Mt} {pc pc' : Nat} {lv : List (Option Value)} {st : List Value} {h : ja_H} {x : Int32} {off : Int} (tgt : Nat) {A B : Option α} (d : ja_At M pc (.ifCond .ne off) 3 pc') (ht : (pc : Int) + off = (tgt : Int)) (kt : ja_D g M tgt lv st h A) (kf : ja_D g M pc' lv st h B) : ja_D g M pc lv (.int x :: st) h (if x = 0 then B else A) := fun o e => ja_if_ne d ht (fun q => kt o (by rw [if_neg q] at e; exact e)) (fun q => kf o (by rw [if_pos q] at e; exact e))
theorem jd_icmp_ne {α : Type} {g : α → List Value × ja_H} {M : ja_Mt} {pc pc' : Nat} {lv : List (Option Value)} {st : List Value} {h : ja_H} {x y : Int32} {off : Int} (tgt : Nat) {A B : Option α} (d : ja_At M pc (.if_icmp .ne off) 3 pc') (ht : (pc : Int) + off = (tgt : Int)) (kt : ja_D g M tgt lv st h A) (kf : ja_D g M pc' lv st h B) : ja_D g M pc lv (.int y :: .int x :: st) h (if x = y then B else A) := fun o e => ja_icmp_ne d ht (fun q => kt o (by rw [if_neg q] at e; exact e)) (fun q => kf o (by rw [if_pos q] at e; exact e))
theorem jd_lcmp_ne {α : Type} {g : α → List Value × ja_H} {M : ja_Mt} {pc pc' : Nat} {lv : List (Option Value)} {st : List Value} {h : ja_H} {pc1 : Nat} {x y : Int64} {off : Int} (tgt : Nat) {A B : Option α} (d : ja_At M pc .lcmp 1 pc1) (d2 : ja_At M pc1 (.ifCond .ne off) 3 pc') (ht : (pc1 : Int) + off = (tgt : Int)) (kt : ja_D g M tgt lv st h A) (kf : ja_D g M pc' lv st h B) : ja_D g M pc lv (.long y :: .long x :: st) h (if x = y then B else A) := fun o e => ja_lcmp_ne d d2 ht (fun q => kt o (by rw [if_neg q] at e; exact e)) (fun q => kf o (by rw [if_pos q] at e; exact e))
theorem jd_goto {α : Type} {g : α → List Value × ja_H} {M : ja_Mt} {pc pc' : Nat} {lv : List (Option Value)} {st : List Value} {h : ja_H} {r : Option α} {off : Int} (tgt : Nat) (d : ja_At M pc (.goto off) 3 pc') (ht : (pc : Int) + off = (tgt : Int)) (k : ja_D g M tgt lv st h r) : ja_D g M pc lv st h r := fun o e => ja_goto d ht (k o e)
theorem jd_getI {α : Type} {g : α → List Value × ja_H} {M : ja_Mt} {pc pc' : Nat} {lv : List (Option Value)} {st : List Value} {h : ja_H} {idx ci kf i : Nat} {nest : Option String} {K : Int32 → Option α} (F : ja_F M.1 idx ci kf 0 nest) (d : ja_At M pc (.getfield idx) 3 pc') (k : ∀ x, ja_D g M pc' lv (.int x :: st) h (K x)) : ja_D g M pc lv (.ref i :: st) h (jf_I h i ci kf K) := by
  intro o e
  unfold jf_I at e
  split at e
  · next hs => exact ja_getI F hs d (k _ o e)
  · cases e
theorem jd_putI {α : Type} {g : α → List Value × ja_H} {M : ja_Mt} {pc pc' : Nat} {lv : List (Option Value)} {st : List Value} {h : ja_H} {idx ci kf i : Nat} {nest : Option String} {x : Int32} {K : ja_H → Option α} (F : ja_F M.1 idx ci kf 0 nest) (P : ja_FP ci kf .int false) (d : ja_At M pc (.putfield idx) 3 pc') (k : ∀ h1, ja_D g M pc' lv st h1 (K h1)) : ja_D g M pc lv (.int x :: .ref i :: st) h (jp_I h i ci kf x K) := by
  intro o e
  unfold jp_I at e
  split at e
  · next hs => exact ja_putI F P hs rfl rfl d (k _ o e)
  · cases e
theorem jd_getL {α : Type} {g : α → List Value × ja_H} {M : ja_Mt} {pc pc' : Nat} {lv : List (Option Value)} {st : List Value} {h : ja_H} {idx ci kf i : Nat} {nest : Option String} {K : Int64 → Option α} (F : ja_F M.1 idx ci kf 1 nest) (d : ja_At M pc (.getfield idx) 3 pc') (k : ∀ x, ja_D g M pc' lv (.long x :: st) h (K x)) : ja_D g M pc lv (.ref i :: st) h (jf_L h i ci kf K) := by
  intro o e
  unfold jf_L at e
  split at e
  · next hs => exact ja_getL F hs d (k _ o e)
  · cases e
theorem jd_putL {α : Type} {g : α → List Value × ja_H} {M : ja_Mt} {pc pc' : Nat} {lv : List (Option Value)} {st : List Value} {h : ja_H} {idx ci kf i : Nat} {nest : Option String} {x : Int64} {K : ja_H → Option α} (F : ja_F M.1 idx ci kf 1 nest) (P : ja_FP ci kf .long false) (d : ja_At M pc (.putfield idx) 3 pc') (k : ∀ h1, ja_D g M pc' lv st h1 (K h1)) : ja_D g M pc lv (.long x :: .ref i :: st) h (jp_L h i ci kf x K) := by
  intro o e
  unfold jp_L at e
  split at e
  · next hs => exact ja_putL F P hs rfl rfl d (k _ o e)
  · cases e
theorem jd_putZ {α : Type} {g : α → List Value × ja_H} {M : ja_Mt} {pc pc' : Nat} {lv : List (Option Value)} {st : List Value} {h : ja_H} {idx ci kf i : Nat} {nest : Option String} {x : Int32} {K : ja_H → Option α} (F : ja_F M.1 idx ci kf 0 nest) (P : ja_FP ci kf .boolean false) (d : ja_At M pc (.putfield idx) 3 pc') (k : ∀ h1, ja_D g M pc' lv st h1 (K h1)) : ja_D g M pc lv (.int x :: .ref i :: st) h (jp_Z h i ci kf x K) := by
  intro o e
  unfold jp_Z at e
  split at e
  · next hs => exact ja_putI F P hs.1 (by rcases hs.2 with rfl | rfl <;> decide) (by rcases hs.2 with rfl | rfl <;> decide) d (k _ o e)
  · cases e
theorem jd_getR {α : Type} {g : α → List Value × ja_H} {M : ja_Mt} {pc pc' : Nat} {lv : List (Option Value)} {st : List Value} {h : ja_H} {idx ci kf i : Nat} {nest : Option String} {K : Nat → Option α} (F : ja_F M.1 idx ci kf 2 nest) (d : ja_At M pc (.getfield idx) 3 pc') (k : ∀ x, ja_D g M pc' lv (.ref x :: st) h (K x)) : ja_D g M pc lv (.ref i :: st) h (jf_R h i ci kf K) := by
  intro o e
  unfold jf_R at e
  split at e
  · next hs =>
    obtain ⟨x, h1, h2⟩ := Option.bind_eq_some_iff.mp e
    exact ja_getR F hs h1 d (k _ o h2)
  · cases e
theorem jd_putR {α : Type} {g : α → List Value × ja_H} {M : ja_Mt} {pc pc' : Nat} {lv : List (Option Value)} {st : List Value} {h : ja_H} {idx ci kf i r : Nat} {ty : FieldType} {K : ja_H → Option α} (F : ja_F M.1 idx ci kf 2 none) (P : ja_FP ci kf ty true) (hown : (vwCl[ci]?).map (fun q => q.1) = some M.1) (hini : M.2.2.2.2.1 = true) (hn : ∀ a : Nat, narrow ty (.ref a) = .ref a) (hfit : ∀ a : Nat, fits ty (.ref a) = true) (d : ja_At M pc (.putfield idx) 3 pc') (k : ∀ h1, ja_D g M pc' lv st h1 (K h1)) : ja_D g M pc lv (.ref r :: .ref i :: st) h (jp_R h i ci kf r K) := by
  intro o e
  unfold jp_R at e
  split at e
  · next hs => exact ja_putF F P hown hini hs hn hfit d (k _ o e)
  · cases e
theorem jd_iald {α : Type} {g : α → List Value × ja_H} {M : ja_Mt} {pc pc' : Nat} {lv : List (Option Value)} {st : List Value} {h : ja_H} {i : Nat} {x : Int32} {K : Int32 → Option α} (d : ja_At M pc .iaload 1 pc') (k : ∀ y, ja_D g M pc' lv (.int y :: st) h (K y)) : ja_D g M pc lv (.int x :: .ref i :: st) h (je_I h i 0 x K) := by
  intro o e
  obtain ⟨n, hs, hx, h2⟩ := ja_in_some e
  exact ja_iald hs hx d (k _ o h2)
theorem jd_lald {α : Type} {g : α → List Value × ja_H} {M : ja_Mt} {pc pc' : Nat} {lv : List (Option Value)} {st : List Value} {h : ja_H} {i : Nat} {x : Int32} {K : Int64 → Option α} (d : ja_At M pc .laload 1 pc') (k : ∀ y, ja_D g M pc' lv (.long y :: st) h (K y)) : ja_D g M pc lv (.int x :: .ref i :: st) h (je_L h i x K) := by
  intro o e
  obtain ⟨n, hs, hx, h2⟩ := ja_in_some e
  exact ja_lald hs hx d (k _ o h2)
theorem jd_zald {α : Type} {g : α → List Value × ja_H} {M : ja_Mt} {pc pc' : Nat} {lv : List (Option Value)} {st : List Value} {h : ja_H} {i : Nat} {x : Int32} {K : Int32 → Option α} (d : ja_At M pc .baload 1 pc') (k : ∀ y, ja_D g M pc' lv (.int y :: st) h (K y)) : ja_D g M pc lv (.int x :: .ref i :: st) h (je_I h i 2 x K) := by
  intro o e
  obtain ⟨n, hs, hx, h2⟩ := ja_in_some e
  exact ja_zald hs hx d (k _ o h2)
theorem jd_bald {α : Type} {g : α → List Value × ja_H} {M : ja_Mt} {pc pc' : Nat} {lv : List (Option Value)} {st : List Value} {h : ja_H} {i : Nat} {x : Int32} {K : Int32 → Option α} (d : ja_At M pc .baload 1 pc') (k : ∀ y, ja_D g M pc' lv (.int y :: st) h (K y)) : ja_D g M pc lv (.int x :: .ref i :: st) h (je_I h i 3 x K) := by
  intro o e
  obtain ⟨n, hs, hx, h2⟩ := ja_in_some e
  exact ja_bald hs hx d (k _ o h2)
theorem jd_aald {α : Type} {g : α → List Value × ja_H} {M : ja_Mt} {pc pc' : Nat} {lv : List (Option Value)} {st : List Value} {h : ja_H} {i : Nat} {x : Int32} {K : Nat → Option α} (d : ja_At M pc .aaload 1 pc') (k : ∀ y, ja_D g M pc' lv (.ref y :: st) h (K y)) : ja_D g M pc lv (.int x :: .ref i :: st) h (je_R h i x K) := by
  intro o e
  obtain ⟨n, hs, hx, h2⟩ := ja_in_some e
  obtain ⟨y, h3, h4⟩ := Option.bind_eq_some_iff.mp h2
  exact ja_aald hs hx h3 d (k _ o h4)
theorem jd_aaldNull {α : Type} {g : α → List Value × ja_H} {M : ja_Mt} {pc pc' : Nat} {lv : List (Option Value)} {st : List Value} {h : ja_H} {i pc1 : Nat} {off : Int} {x : Int32} {A B : Option α} (tgt : Nat) (d : ja_At M pc .aaload 1 pc1) (d2 : ja_At M pc1 (.ifnull off) 3 pc') (ht : (pc1 : Int) + off = (tgt : Int)) (kt : ja_D g M tgt lv st h A) (kf : ja_D g M pc' lv st h B) : ja_D g M pc lv (.int x :: .ref i :: st) h (je_N h i x A B) := by
  intro o e
  obtain ⟨n, hs, hx, h2⟩ := ja_in_some e
  split at h2
  · next hn => exact ja_aaldN hs hx hn d (ja_ifnullN d2 ht (kt o h2))
  · next hn =>
    obtain ⟨y, hy⟩ := Option.ne_none_iff_exists'.mp hn
    exact ja_aald hs hx hy d (ja_ifnull d2 (kf o h2))
theorem jd_aaldNonnull {α : Type} {g : α → List Value × ja_H} {M : ja_Mt} {pc pc' : Nat} {lv : List (Option Value)} {st : List Value} {h : ja_H} {i pc1 : Nat} {off : Int} {x : Int32} {A B : Option α} (tgt : Nat) (d : ja_At M pc .aaload 1 pc1) (d2 : ja_At M pc1 (.ifnonnull off) 3 pc') (ht : (pc1 : Int) + off = (tgt : Int)) (kt : ja_D g M tgt lv st h B) (kf : ja_D g M pc' lv st h A) : ja_D g M pc lv (.int x :: .ref i :: st) h (je_N h i x A B) := by
  intro o e
  obtain ⟨n, hs, hx, h2⟩ := ja_in_some e
  split at h2
  · next hn => exact ja_aaldN hs hx hn d (ja_ifnonnullN d2 (kf o h2))
  · next hn =>
    obtain ⟨y, hy⟩ := Option.ne_none_iff_exists'.mp hn
    exact ja_aald hs hx hy d (ja_ifnonnull d2 ht (kt o h2))
theorem jd_iast {α : Type} {g : α → List Value × ja_H} {M : ja_Mt} {pc pc' : Nat} {lv : List (Option Value)} {st : List Value} {h : ja_H} {i : Nat} {x : Int32} {y : Int32} {K : ja_H → Option α} (d : ja_At M pc .iastore 1 pc') (k : ∀ h1, ja_D g M pc' lv st h1 (K h1)) : ja_D g M pc lv (.int y :: .int x :: .ref i :: st) h (js_I h i x y K) := by
  intro o e
  obtain ⟨n, hs, hx, h2⟩ := ja_in_some e
  exact ja_iast hs hx d (k _ o h2)
theorem jd_last {α : Type} {g : α → List Value × ja_H} {M : ja_Mt} {pc pc' : Nat} {lv : List (Option Value)} {st : List Value} {h : ja_H} {i : Nat} {x : Int32} {y : Int64} {K : ja_H → Option α} (d : ja_At M pc .lastore 1 pc') (k : ∀ h1, ja_D g M pc' lv st h1 (K h1)) : ja_D g M pc lv (.long y :: .int x :: .ref i :: st) h (js_L h i x y K) := by
  intro o e
  obtain ⟨n, hs, hx, h2⟩ := ja_in_some e
  exact ja_last hs hx d (k _ o h2)
theorem jd_zast {α : Type} {g : α → List Value × ja_H} {M : ja_Mt} {pc pc' : Nat} {lv : List (Option Value)} {st : List Value} {h : ja_H} {i : Nat} {x : Int32} {y : Int32} {K : ja_H → Option α} (d : ja_At M pc .bastore 1 pc') (k : ∀ h1, ja_D g M pc' lv st h1 (K h1)) : ja_D g M pc lv (.int y :: .int x :: .ref i :: st) h (js_Z h i x y K) := by
  intro o e
  obtain ⟨n, hs, hx, h2⟩ := ja_in_some e
  exact ja_zast hs hx d (k _ o h2)
theorem jd_bast {α : Type} {g : α → List Value × ja_H} {M : ja_Mt} {pc pc' : Nat} {lv : List (Option Value)} {st : List Value} {h : ja_H} {i : Nat} {x : Int32} {y : Int32} {K : ja_H → Option α} (d : ja_At M pc .bastore 1 pc') (k : ∀ h1, ja_D g M pc' lv st h1 (K h1)) : ja_D g M pc lv (.int y :: .int x :: .ref i :: st) h (js_B h i x y K) := by
  intro o e
  obtain ⟨n, hs, hx, h2⟩ := ja_in_some e
  exact ja_bast hs hx d (k _ o h2)
theorem jd_aast {α : Type} {g : α → List Value × ja_H} {M : ja_Mt} {pc pc' : Nat} {lv : List (Option Value)} {st : List Value} {h : ja_H} {i ci r : Nat} {x : Int32} {K : ja_H → Option α} (hci : (vwCl[ci]?).map (fun q => q.1) = some ja_elem) (d : ja_At M pc .aastore 1 pc') (k : ∀ h1, ja_D g M pc' lv st h1 (K h1)) : ja_D g M pc lv (.ref r :: .int x :: .ref i :: st) h (js_R h i ci x r K) := by
  intro o e
  obtain ⟨n, hs, hx, h2⟩ := ja_in_some e
  split at h2
  · next hr => exact ja_aast hs hr hci hx d (k _ o h2)
  · cases h2
theorem ja_alen {M : ja_Mt} {pc pc' : Nat} {lv : List (Option Value)} {st : List Value} {h : ja_H} {ret : List Value} {hf : ja_H} {i n t : Nat} (ht : t < 5) (hs : h.1[i]? = some (.inr (t, n))) (d : ja_At M pc .arraylength 1 pc') (k : ja_J M pc' lv (.int (Int32.ofNat n) :: st) h ret hf) : ja_J M pc lv (.ref i :: st) h ret hf := by
  obtain ⟨d, rfl⟩ := d
  refine ⟨k.1, fun q => k.2.1 ⟨q.1, q.2.1, q.2.2.2⟩, fun p l e R s m args below meth c Q D aC A kc ks H ls locs cells slots ads hC hS hV hE => ?_⟩
  have h2 := k.2.2 p l e R s m args below meth c Q D aC A kc ks H ls locs cells slots ads hC hS ⟨hV.1, hV.2.1, hV.2.2.2⟩ hE
  have htt : (ja_tys aC)[t]? = some (aC t, ja_at t) := by
    rcases (show t = 0 ∨ t = 1 ∨ t = 2 ∨ t = 3 ∨ t = 4 by omega) with rfl | rfl | rfl | rfl | rfl <;> rfl
  refine va_alen hC.1 hC.2.1 hC.2.2.2.2.2.1 hS.2.1 i t (ja_wl_arr hs) htt (v := Int32.ofNat n) ?_ d h2
  rcases (show t = 0 ∨ t = 1 ∨ t = 2 ∨ t = 3 ∨ t = 4 by omega) with rfl | rfl | rfl | rfl | rfl <;> rfl
theorem jd_alen {α : Type} {g : α → List Value × ja_H} {M : ja_Mt} {pc pc' : Nat} {lv : List (Option Value)} {st : List Value} {h : ja_H} {i t : Nat} {K : Int32 → Option α} (ht : t < 5) (d : ja_At M pc .arraylength 1 pc') (k : ∀ y, ja_D g M pc' lv (.int y :: st) h (K y)) : ja_D g M pc lv (.ref i :: st) h (jg_n h i t K) := by
  intro o e
  obtain ⟨n, h1, h2⟩ := Option.bind_eq_some_iff.mp e
  exact ja_alen ht (jn_some h1) d (k _ o h2)
theorem jd_new {α : Type} {g : α → List Value × ja_H} {M : ja_Mt} {pc pc' : Nat} {lv : List (Option Value)} {st : List Value} {h : ja_H} {idx ci : Nat} {K : Nat → ja_H → Option α} (g9 : ja_GN M.1 idx ci) (d : ja_At M pc (.new idx) 3 pc') (k : ∀ x h1, ja_D g M pc' lv (.ref x :: st) h1 (K x h1)) : ja_D g M pc lv st h (jw_O h ci K) := fun o e => ja_new g9 d (k _ _ o e)
theorem jd_newa {α : Type} {g : α → List Value × ja_H} {M : ja_Mt} {pc pc' : Nat} {lv : List (Option Value)} {st : List Value} {h : ja_H} {x : Int32} {K : Nat → ja_H → Option α} (t : Nat) (ty : ArrayType) (hty : newarray.typeOf ty = ja_at t) (ht : t < 4) (hcl : Cond.arrayClass (ja_at t) ∈ ja_all) (d : ja_At M pc (.newarray ty) 2 pc') (k : ∀ x h1, ja_D g M pc' lv (.ref x :: st) h1 (K x h1)) : ja_D g M pc lv (.int x :: st) h (jw_A h t x K) := by
  intro o e
  unfold jw_A at e
  split at e
  · next hx => exact ja_newa t _ ty hty ht hcl hx.1 rfl hx.2 d (k _ _ o e)
  · cases e
theorem jd_newq {α : Type} {g : α → List Value × ja_H} {M : ja_Mt} {pc pc' : Nat} {lv : List (Option Value)} {st : List Value} {h : ja_H} {x : Int32} {idx : Nat} {K : Nat → ja_H → Option α} (hcl : Cond.classLink M.1 idx ja_elem ∈ ja_all) (d : ja_At M pc (.anewarray idx) 3 pc') (k : ∀ x h1, ja_D g M pc' lv (.ref x :: st) h1 (K x h1)) : ja_D g M pc lv (.int x :: st) h (jw_A h 4 x K) := by
  intro o e
  unfold jw_A at e
  split at e
  · next hx => exact ja_newq _ hcl hx.1 rfl hx.2 d (k _ _ o e)
  · cases e
theorem jd_objInit {α : Type} {g : α → List Value × ja_H} {M : ja_Mt} {pc pc' : Nat} {lv : List (Option Value)} {st : List Value} {h : ja_H} {r : Option α} {idx i : Nat} (hl : Cond.methodLink M.1 idx objectInit ∈ ja_all) (hin : Cond.instanceMethod objectInit ∈ ja_all) (hcd : Cond.code objectInit ⟨#[0xb1]⟩ 1 none ∈ ja_all) (hd : 1 ≤ M.2.2.2.1.1 ∧ 20 ≤ M.2.2.2.1.2) (hw : (st.map Value.category).sum ≤ 8) (d : ja_At M pc (.invokespecial idx) 3 pc') (k : ja_D g M pc' lv st h r) : ja_D g M pc lv (.ref i :: st) h r := fun o e => ja_objInit hl hin hcd hd hw d (k o e)
theorem jd_callVV {α : Type} {g : α → List Value × ja_H} {M : ja_Mt} {pc pc' : Nat} {lv : List (Option Value)} {st : List Value} {h : ja_H} {idx maxL n : Nat} {d0 : Nat × Nat} {y : MethodName} {bytes : ByteArray} {rt : Option FieldType} {nest : Option String} {stk as : List Value} {i ci : Nat} {r1 : Option (ja_H)} {K : ja_H → Option α} (g9 : ja_G M.1 idx y bytes maxL rt n nest) (hin : Cond.instanceMethod y ∈ ja_all) (hsel : Cond.selects y.cls y y ∈ ja_all) (hci : (vwCl[ci]?).map (fun q => q.1) = some y.cls) (hM : ∀ q, r1 = some q → ja_M d0 y bytes maxL rt (.ref i :: as) h [] q) (hlen : as.length = n) (hd : d0.1 + 1 ≤ M.2.2.2.1.1 ∧ 8 + (maxL + 11) + d0.2 ≤ M.2.2.2.1.2) (hst : stk = as.reverse ++ .ref i :: st) (hw : (st.map Value.category).sum ≤ 8) (d : ja_At M pc (.invokevirtual idx) 3 pc') (k : ∀ h1, ja_D g M pc' lv st h1 (K h1)) : ja_D g M pc lv stk h (jk h i ci (jc_V r1 K)) := by
  subst hlen
  intro o e
  unfold jk at e
  split at e
  · next hs =>
    obtain ⟨q, h1, h2⟩ := Option.bind_eq_some_iff.mp e
    exact ja_callV g9 hin hsel hci hs hd (hM q h1) hst hw d (k q o h2)
  · cases e
theorem jd_callVI {α : Type} {g : α → List Value × ja_H} {M : ja_Mt} {pc pc' : Nat} {lv : List (Option Value)} {st : List Value} {h : ja_H} {idx maxL n : Nat} {d0 : Nat × Nat} {y : MethodName} {bytes : ByteArray} {rt : Option FieldType} {nest : Option String} {stk as : List Value} {i ci : Nat} {r1 : Option (Int32 × ja_H)} {K : Int32 → ja_H → Option α} (g9 : ja_G M.1 idx y bytes maxL rt n nest) (hin : Cond.instanceMethod y ∈ ja_all) (hsel : Cond.selects y.cls y y ∈ ja_all) (hci : (vwCl[ci]?).map (fun q => q.1) = some y.cls) (hM : ∀ q, r1 = some q → ja_M d0 y bytes maxL rt (.ref i :: as) h [.int q.1] q.2) (hlen : as.length = n) (hd : d0.1 + 1 ≤ M.2.2.2.1.1 ∧ 8 + (maxL + 11) + d0.2 ≤ M.2.2.2.1.2) (hst : stk = as.reverse ++ .ref i :: st) (hw : (st.map Value.category).sum ≤ 8) (d : ja_At M pc (.invokevirtual idx) 3 pc') (k : ∀ x h1, ja_D g M pc' lv (.int x :: st) h1 (K x h1)) : ja_D g M pc lv stk h (jk h i ci (jc_I r1 K)) := by
  subst hlen
  intro o e
  unfold jk at e
  split at e
  · next hs =>
    obtain ⟨q, h1, h2⟩ := Option.bind_eq_some_iff.mp e
    exact ja_callV g9 hin hsel hci hs hd (hM q h1) hst hw d (k q.1 q.2 o h2)
  · cases e
theorem jd_callVL {α : Type} {g : α → List Value × ja_H} {M : ja_Mt} {pc pc' : Nat} {lv : List (Option Value)} {st : List Value} {h : ja_H} {idx maxL n : Nat} {d0 : Nat × Nat} {y : MethodName} {bytes : ByteArray} {rt : Option FieldType} {nest : Option String} {stk as : List Value} {i ci : Nat} {r1 : Option (Int64 × ja_H)} {K : Int64 → ja_H → Option α} (g9 : ja_G M.1 idx y bytes maxL rt n nest) (hin : Cond.instanceMethod y ∈ ja_all) (hsel : Cond.selects y.cls y y ∈ ja_all) (hci : (vwCl[ci]?).map (fun q => q.1) = some y.cls) (hM : ∀ q, r1 = some q → ja_M d0 y bytes maxL rt (.ref i :: as) h [.long q.1] q.2) (hlen : as.length = n) (hd : d0.1 + 1 ≤ M.2.2.2.1.1 ∧ 8 + (maxL + 11) + d0.2 ≤ M.2.2.2.1.2) (hst : stk = as.reverse ++ .ref i :: st) (hw : (st.map Value.category).sum ≤ 8) (d : ja_At M pc (.invokevirtual idx) 3 pc') (k : ∀ x h1, ja_D g M pc' lv (.long x :: st) h1 (K x h1)) : ja_D g M pc lv stk h (jk h i ci (jc_L r1 K)) := by
  subst hlen
  intro o e
  unfold jk at e
  split at e
  · next hs =>
    obtain ⟨q, h1, h2⟩ := Option.bind_eq_some_iff.mp e
    exact ja_callV g9 hin hsel hci hs hd (hM q h1) hst hw d (k q.1 q.2 o h2)
  · cases e
theorem jd_callSV {α : Type} {g : α → List Value × ja_H} {M : ja_Mt} {pc pc' : Nat} {lv : List (Option Value)} {st : List Value} {h : ja_H} {idx maxL n : Nat} {d0 : Nat × Nat} {y : MethodName} {bytes : ByteArray} {rt : Option FieldType} {nest : Option String} {stk as : List Value}  {r1 : Option (ja_H)} {K : ja_H → Option α} (g9 : ja_G M.1 idx y bytes maxL rt n nest) (hst9 : Cond.static y ∈ ja_all) (hM : ∀ q, r1 = some q → ja_M d0 y bytes maxL rt as h [] q) (hlen : as.length = n) (hd : d0.1 + 1 ≤ M.2.2.2.1.1 ∧ 8 + (maxL + 11) + d0.2 ≤ M.2.2.2.1.2) (hst : stk = as.reverse ++ st) (hw : (st.map Value.category).sum ≤ 8) (d : ja_At M pc (.invokestatic idx) 3 pc') (k : ∀ h1, ja_D g M pc' lv st h1 (K h1)) : ja_D g M pc lv stk h (jc_V r1 K) := by
  subst hlen
  intro o e
  obtain ⟨q, h1, h2⟩ := Option.bind_eq_some_iff.mp e
  exact ja_callS g9 hst9 hd (hM q h1) hst hw d (k q o h2)
theorem jd_callSI {α : Type} {g : α → List Value × ja_H} {M : ja_Mt} {pc pc' : Nat} {lv : List (Option Value)} {st : List Value} {h : ja_H} {idx maxL n : Nat} {d0 : Nat × Nat} {y : MethodName} {bytes : ByteArray} {rt : Option FieldType} {nest : Option String} {stk as : List Value}  {r1 : Option (Int32 × ja_H)} {K : Int32 → ja_H → Option α} (g9 : ja_G M.1 idx y bytes maxL rt n nest) (hst9 : Cond.static y ∈ ja_all) (hM : ∀ q, r1 = some q → ja_M d0 y bytes maxL rt as h [.int q.1] q.2) (hlen : as.length = n) (hd : d0.1 + 1 ≤ M.2.2.2.1.1 ∧ 8 + (maxL + 11) + d0.2 ≤ M.2.2.2.1.2) (hst : stk = as.reverse ++ st) (hw : (st.map Value.category).sum ≤ 8) (d : ja_At M pc (.invokestatic idx) 3 pc') (k : ∀ x h1, ja_D g M pc' lv (.int x :: st) h1 (K x h1)) : ja_D g M pc lv stk h (jc_I r1 K) := by
  subst hlen
  intro o e
  obtain ⟨q, h1, h2⟩ := Option.bind_eq_some_iff.mp e
  exact ja_callS g9 hst9 hd (hM q h1) hst hw d (k q.1 q.2 o h2)
theorem jd_callSL {α : Type} {g : α → List Value × ja_H} {M : ja_Mt} {pc pc' : Nat} {lv : List (Option Value)} {st : List Value} {h : ja_H} {idx maxL n : Nat} {d0 : Nat × Nat} {y : MethodName} {bytes : ByteArray} {rt : Option FieldType} {nest : Option String} {stk as : List Value}  {r1 : Option (Int64 × ja_H)} {K : Int64 → ja_H → Option α} (g9 : ja_G M.1 idx y bytes maxL rt n nest) (hst9 : Cond.static y ∈ ja_all) (hM : ∀ q, r1 = some q → ja_M d0 y bytes maxL rt as h [.long q.1] q.2) (hlen : as.length = n) (hd : d0.1 + 1 ≤ M.2.2.2.1.1 ∧ 8 + (maxL + 11) + d0.2 ≤ M.2.2.2.1.2) (hst : stk = as.reverse ++ st) (hw : (st.map Value.category).sum ≤ 8) (d : ja_At M pc (.invokestatic idx) 3 pc') (k : ∀ x h1, ja_D g M pc' lv (.long x :: st) h1 (K x h1)) : ja_D g M pc lv stk h (jc_L r1 K) := by
  subst hlen
  intro o e
  obtain ⟨q, h1, h2⟩ := Option.bind_eq_some_iff.mp e
  exact ja_callS g9 hst9 hd (hM q h1) hst hw d (k q.1 q.2 o h2)
theorem jd_callIV {α : Type} {g : α → List Value × ja_H} {M : ja_Mt} {pc pc' : Nat} {lv : List (Option Value)} {st : List Value} {h : ja_H} {idx maxL n : Nat} {d0 : Nat × Nat} {y : MethodName} {bytes : ByteArray} {rt : Option FieldType} {nest : Option String} {stk as : List Value} {i : Nat} {r1 : Option (ja_H)} {K : ja_H → Option α} (g9 : ja_G M.1 idx y bytes maxL rt n nest) (hin : Cond.instanceMethod y ∈ ja_all) (hyi : y.name = "<init>") (hrt : rt = none) (hM : ∀ q, r1 = some q → ja_M d0 y bytes maxL rt (.ref i :: as) h [] q) (hlen : as.length = n) (hd : d0.1 + 1 ≤ M.2.2.2.1.1 ∧ 8 + (maxL + 11) + d0.2 ≤ M.2.2.2.1.2) (hst : stk = as.reverse ++ .ref i :: st) (hw : (st.map Value.category).sum ≤ 8) (d : ja_At M pc (.invokespecial idx) 3 pc') (k : ∀ h1, ja_D g M pc' lv st h1 (K h1)) : ja_D g M pc lv stk h (jc_V r1 K) := by
  subst hlen
  intro o e
  obtain ⟨q, h1, h2⟩ := Option.bind_eq_some_iff.mp e
  exact ja_callI g9 hin hyi hrt hd (hM q h1) hst hw d (k q o h2)
theorem jd_return {M : ja_Mt} {pc pc' : Nat} {lv : List (Option Value)} {h : ja_H} (d : ja_At M pc .return_ 1 pc') (hm : M.2.2.2.2.2.1 = none) : ja_D ja_gV M pc lv [] h (some h) := by
  intro o e
  cases e
  exact ja_return d hm rfl
theorem jd_ireturn {M : ja_Mt} {pc pc' : Nat} {lv : List (Option Value)} {h : ja_H} {x : Int32} (d : ja_At M pc .ireturn 1 pc') (hm : M.2.2.2.2.2.1 = some .int) : ja_D ja_gI M pc lv [.int x] h (some (x, h)) := by
  intro o e
  cases e
  exact ja_ireturn d hm rfl rfl rfl
theorem jd_zreturn {M : ja_Mt} {pc pc' : Nat} {lv : List (Option Value)} {h : ja_H} {x : Int32} (d : ja_At M pc .ireturn 1 pc') (hm : M.2.2.2.2.2.1 = some .boolean) : ja_D ja_gI M pc lv [.int x] h (jb x (some (x, h))) := by
  intro o e
  unfold jb at e
  split at e
  · next hx =>
    cases e
    exact ja_ireturn (y := x) d hm (by rcases hx with rfl | rfl <;> decide) rfl rfl
  · cases e
theorem jd_lreturn {M : ja_Mt} {pc pc' : Nat} {lv : List (Option Value)} {h : ja_H} {x : Int64} (d : ja_At M pc .lreturn 1 pc') (hm : M.2.2.2.2.2.1 = some .long) : ja_D ja_gL M pc lv [.long x] h (some (x, h)) := by
  intro o e
  cases e
  exact ja_lreturn d hm rfl rfl
theorem jd_returnX {M : ja_Mt} {pc pc' : Nat} {lv : List (Option Value)} {h : ja_H} (d : ja_At M pc .return_ 1 pc') (hm : M.2.2.2.2.2.1 = none) : ja_D ja_gX M pc lv [] h (some ([], h)) := by
  intro o e
  cases e
  exact ja_return d hm rfl
theorem jd_ireturnX {M : ja_Mt} {pc pc' : Nat} {lv : List (Option Value)} {h : ja_H} {x : Int32} (d : ja_At M pc .ireturn 1 pc') (hm : M.2.2.2.2.2.1 = some .int) : ja_D ja_gX M pc lv [.int x] h (some ([.int x], h)) := by
  intro o e
  cases e
  exact ja_ireturn d hm rfl rfl rfl
theorem jd_lreturnX {M : ja_Mt} {pc pc' : Nat} {lv : List (Option Value)} {h : ja_H} {x : Int64} (d : ja_At M pc .lreturn 1 pc') (hm : M.2.2.2.2.2.1 = some .long) : ja_D ja_gX M pc lv [.long x] h (some ([.long x], h)) := by
  intro o e
  cases e
  exact ja_lreturn d hm rfl rfl
theorem jd_throw {M : ja_Mt} {pc : Nat} {lv : List (Option Value)} {h : ja_H} : ja_D ja_gX M pc lv [] h (some ([.retAddr pc], h)) := by
  intro o e
  cases e
  exact ja_throw rfl
def ja_ways {α : Type} (g : α → List Value × ja_H) (M : ja_Mt) (lv : List (Option Value)) (st : List Value) (h : ja_H) : List Nat → List (Option α) → Prop
  | t :: ts, a :: as => ja_D g M t lv st h a ∧ ja_ways g M lv st h ts as
  | [], [] => True
  | _, _ => False
theorem jsw_cases {α : Type} {g : α → List Value × ja_H} {M : ja_Mt} {lv : List (Option Value)} {st : List Value} {h : ja_H} {x : Int32} {o : α} {d : Option α} : ∀ (vs : List Int32) (ts : List Nat) (as : List (Option α)), vs.length = ts.length → ja_ways g M lv st h ts as → jsw x vs as d = some o → (∃ (j t : Nat), vs[j]? = some x ∧ ts[j]? = some t ∧ ja_J M t lv st h (g o).1 (g o).2) ∨ ((∀ v ∈ vs, x ≠ v) ∧ d = some o)
  | [], _, as, _, _, e => by
    right
    refine ⟨by simp, ?_⟩
    cases as <;> exact e
  | v :: vs, [], as, hl, _, _ => by simp at hl
  | v :: vs, t :: ts, [], _, hw, _ => by cases hw
  | v :: vs, t :: ts, a :: as, hl, hw, e => by
    simp only [jsw] at e
    split at e
    · next hx =>
      left
      exact ⟨0, t, by simp [hx], by simp, hw.1 o e⟩
    · next hx =>
      rcases jsw_cases vs ts as (by simpa using hl) hw.2 e with ⟨j, t', h1, h2, h3⟩ | ⟨h1, h2⟩
      · left
        exact ⟨j + 1, t', by simpa using h1, by simpa using h2, h3⟩
      · right
        refine ⟨fun u hu => ?_, h2⟩
        rcases List.mem_cons.mp hu with rfl | hu
        · exact hx
        · exact h1 u hu
theorem jd_ts {α : Type} {g : α → List Value × ja_H} {M : ja_Mt} {pc pc' : Nat} {lv : List (Option Value)} {st : List Value} {h : ja_H} {dflt lo hi : Int} {offs : Array Int} {len : Nat} {x : Int32} {D0 : Option α} {as : List (Option α)} (tgt : Nat) (vs : List Int32) (ts : List Nat) (d : ja_At M pc (.tableswitch dflt lo hi offs) len pc') (hl : vs.length = ts.length) (hv0 : ∀ j : Fin vs.length, vs[j.val].toInt = lo + (j.val : Int) ∧ offs[j.val]? = (ts[j.val]?).map (fun t => (t : Int) - (pc : Int))) (hn : lo + vs.length = hi + 1) (ht : (pc : Int) + dflt = (tgt : Int)) (kd : ja_D g M tgt lv st h D0) (kw : ja_ways g M lv st h ts as) : ja_D g M pc lv (.int x :: st) h (jsw x vs as D0) := by
  have hv : ∀ j : Nat, j < vs.length → ∀ v t, vs[j]? = some v → ts[j]? = some t → v.toInt = lo + j ∧ offs[j]? = some ((t : Int) - pc) := by
    intro j hj v t h1 h2
    obtain ⟨a1, a2⟩ := hv0 ⟨j, hj⟩
    rw [List.getElem?_eq_getElem hj] at h1
    cases h1
    rw [h2] at a2
    exact ⟨a1, a2⟩
  intro o e
  rcases jsw_cases vs ts as hl kw e with ⟨j, t, h1, h2, h3⟩ | ⟨h1, h2⟩
  · have hj := (List.getElem?_eq_some_iff.mp h1).1
    obtain ⟨a1, a2⟩ := hv j hj x t h1 h2
    refine ja_tsIn (off := (t : Int) - pc) d x rfl (by omega) (by omega) ?_ (by omega) h3
    rw [show (x.toInt - lo).toNat = j by omega]
    exact a2
  · refine ja_tsOut d ?_ ht (kd o h2)
    apply Classical.byContradiction
    intro hx
    have hx1 : ¬ x.toInt < lo := fun q => hx (Or.inl q)
    have hx2 : ¬ hi < x.toInt := fun q => hx (Or.inr q)
    have hj : (x.toInt - lo).toNat < vs.length := by omega
    have hjt : (x.toInt - lo).toNat < ts.length := by omega
    obtain ⟨a1, a2⟩ := hv _ hj _ _ (List.getElem?_eq_getElem hj) (List.getElem?_eq_getElem hjt)
    have e1 : x = vs[(x.toInt - lo).toNat] := Int32.toInt_inj.mp (by rw [a1]; omega)
    exact h1 _ (List.getElem_mem hj) e1
theorem ja_ls_none {z d : Int} : ∀ {l : List (Int × Int)}, (∀ q ∈ l, q.1 ≠ z) → Op.lookupswitch.offset l d z = d
  | [], _ => rfl
  | (a, o) :: r, h => by
    rw [Op.lookupswitch.offset_cons, if_neg (h (a, o) List.mem_cons_self)]
    exact ja_ls_none (fun q hq => h q (List.mem_cons_of_mem _ hq))
theorem jd_ls {α : Type} {g : α → List Value × ja_H} {M : ja_Mt} {pc pc' : Nat} {lv : List (Option Value)} {st : List Value} {h : ja_H} {dflt : Int} {ps : Array (Int × Int)} {len : Nat} {x : Int32} {D0 : Option α} {as : List (Option α)} (tgt : Nat) (vs : List Int32) (ts : List Nat) (d : ja_At M pc (.lookupswitch dflt ps) len pc') (hp : (ps.toList.zip (ps.toList.drop 1)).all (fun (a, next) => a.1 < next.1) = true) (hl : vs.length = ts.length) (hv0 : ∀ j : Fin vs.length, (ts[j.val]?).map (fun t => (t : Int) - (pc : Int)) = some (Op.lookupswitch.offset ps.toList dflt vs[j.val].toInt)) (hks : ps.toList.map (fun q => q.1) = vs.map Int32.toInt) (ht : (pc : Int) + dflt = (tgt : Int)) (kd : ja_D g M tgt lv st h D0) (kw : ja_ways g M lv st h ts as) : ja_D g M pc lv (.int x :: st) h (jsw x vs as D0) := by
  have hv : ∀ j : Nat, j < vs.length → ∀ v t, vs[j]? = some v → ts[j]? = some t → Op.lookupswitch.offset ps.toList dflt v.toInt = (t : Int) - pc := by
    intro j hj v t h1 h2
    have a2 := hv0 ⟨j, hj⟩
    rw [List.getElem?_eq_getElem hj] at h1
    cases h1
    rw [h2] at a2
    exact (Option.some.inj a2).symm
  intro o e
  rcases jsw_cases vs ts as hl kw e with ⟨j, t, h1, h2, h3⟩ | ⟨h1, h2⟩
  · have hj := (List.getElem?_eq_some_iff.mp h1).1
    exact ja_lsw (off := (t : Int) - pc) d hp (hv j hj x t h1 h2) (by omega) h3
  · refine ja_lsw (off := dflt) d hp (ja_ls_none (fun q hq e9 => ?_)) ht (kd o h2)
    have : q.1 ∈ ps.toList.map (fun q => q.1) := List.mem_map.mpr ⟨q, hq, rfl⟩
    rw [hks] at this
    obtain ⟨v, hv1, hv2⟩ := List.mem_map.mp this
    exact h1 v hv1 (Int32.toInt_inj.mp (by rw [hv2, e9]))
theorem ja_copyI {M : ja_Mt} {pc pc' : Nat} {lv : List (Option Value)} {st : List Value} {h : ja_H} {ret : List Value} {hf : ja_H} {a b n0 n1 idx : Nat} {sp dp n : Int32} (hlk : Cond.methodLink M.1 idx arraycopyName ∈ ja_all) (hna : Cond.native arraycopyName ∈ ja_all) (hsc : Cond.static arraycopyName ∈ ja_all) (hin : Cond.initialized "java/lang/System" ∈ ja_all) (hd : 1 ≤ M.2.2.2.1.1 ∧ 26 ≤ M.2.2.2.1.2) (hw : (st.map Value.category).sum ≤ 8) (hnw : nativeFrameWords "java/lang/System" "arraycopy" 5 ≤ 7) (ha : h.1[a]? = some (.inr (0, n0))) (hb : h.1[b]? = some (.inr (0, n1))) (h1 : ¬ sp < 0) (h2 : ¬ dp < 0) (h3 : ¬ n < 0) (h4 : sp.toNatClampNeg + n.toNatClampNeg ≤ n0) (h5 : dp.toNatClampNeg + n.toNatClampNeg ≤ n1) (d : ja_At M pc (.invokestatic idx) 3 pc') (k : ja_J M pc' lv st (ja_cpI h a b sp.toNatClampNeg dp.toNatClampNeg n.toNatClampNeg) ret hf) : ja_J M pc lv (.int n :: .int dp :: .ref b :: .int sp :: .ref a :: st) h ret hf := by
  obtain ⟨d, rfl⟩ := d
  refine ⟨k.1, fun q => k.2.1 ⟨q.1, q.2.1, q.2.2.2.2⟩, fun p l e R s m args below meth c Q D aC A kc ks H ls locs cells slots ads hC hS hV hE => ?_⟩
  have hR := hC.2.2.2.2.2.2.2.2.1
  refine va_copyi hC.1 hC.2.1 (hC.2.2.1.trans hS.1.1.symm) hC.2.2.2.1 (hC.2.2.2.2.1 _ hlk) (hC.2.2.2.2.1 _ hna) (hC.2.2.2.2.1 _ hsc) (hC.2.2.2.2.1 _ hin) hC.2.2.2.2.2.1 hS.2.1 hS.2.2.1 hS.2.2.2.1 a b 0 0 (ja_wl_arr ha) (ja_wl_arr hb) rfl rfl rfl h1 h2 h3 h4 h5 (fun _ _ => rfl) (by omega) ?_ d (fun H1 locs1 hP hD hSS => ?_)
  · rw [ja_cv_sum]
    omega
  · have e1 : (ja_wl aC ads h).set b (ads b, .inl (aC 0, n1, .inl (va_cpy (h.2.1 a) (h.2.1 b) sp.toNatClampNeg dp.toNatClampNeg n.toNatClampNeg))) = ja_wl aC ads (ja_cpI h a b sp.toNatClampNeg dp.toNatClampNeg n.toNatClampNeg) := by
      refine ja_wl_set rfl (ja_lt hb) (fun j hj => ja_ce_congr rfl (by funext z; simp [ja_cpI, hj]) rfl rfl) ?_
      simp only [ja_ce, ja_cpI, hb, ja_ar, if_pos]
    rw [e1] at hP hD
    exact k.2.2 p l e R s m args below meth c Q D aC A kc ks H1 ls locs1 cells slots ads hC ⟨hS.1, hP, hD, hSS, hS.2.2.2.2.1, hS.2.2.2.2.2⟩ ⟨hV.1, hV.2.1, hV.2.2.2.2⟩ hE
theorem jd_copyI {α : Type} {g : α → List Value × ja_H} {M : ja_Mt} {pc pc' : Nat} {lv : List (Option Value)} {st : List Value} {h : ja_H} {a b idx : Nat} {sp dp n : Int32} {K : ja_H → Option α} (hlk : Cond.methodLink M.1 idx arraycopyName ∈ ja_all) (hna : Cond.native arraycopyName ∈ ja_all) (hsc : Cond.static arraycopyName ∈ ja_all) (hin : Cond.initialized "java/lang/System" ∈ ja_all) (hd : 1 ≤ M.2.2.2.1.1 ∧ 26 ≤ M.2.2.2.1.2) (hw : (st.map Value.category).sum ≤ 8) (d : ja_At M pc (.invokestatic idx) 3 pc') (k : ∀ h1, ja_D g M pc' lv st h1 (K h1)) : ja_D g M pc lv (.int n :: .int dp :: .ref b :: .int sp :: .ref a :: st) h (jy_I h a sp b dp n K) := by
  intro o e
  unfold jy_I jy_ok at e
  obtain ⟨n0, q1, e⟩ := Option.bind_eq_some_iff.mp e
  obtain ⟨n1, q2, e⟩ := Option.bind_eq_some_iff.mp e
  split at e
  · next hx =>
    obtain ⟨h1, h2, h3, h4, h5⟩ := hx
    exact ja_copyI hlk hna hsc hin hd hw (by decide) (jn_some q1) (jn_some q2) h1 h2 h3 h4 h5 d (k _ o e)
  · cases e
theorem ja_copyL {M : ja_Mt} {pc pc' : Nat} {lv : List (Option Value)} {st : List Value} {h : ja_H} {ret : List Value} {hf : ja_H} {a b n0 n1 idx : Nat} {sp dp n : Int32} (hlk : Cond.methodLink M.1 idx arraycopyName ∈ ja_all) (hna : Cond.native arraycopyName ∈ ja_all) (hsc : Cond.static arraycopyName ∈ ja_all) (hin : Cond.initialized "java/lang/System" ∈ ja_all) (hd : 1 ≤ M.2.2.2.1.1 ∧ 26 ≤ M.2.2.2.1.2) (hw : (st.map Value.category).sum ≤ 8) (hnw : nativeFrameWords "java/lang/System" "arraycopy" 5 ≤ 7) (ha : h.1[a]? = some (.inr (1, n0))) (hb : h.1[b]? = some (.inr (1, n1))) (h1 : ¬ sp < 0) (h2 : ¬ dp < 0) (h3 : ¬ n < 0) (h4 : sp.toNatClampNeg + n.toNatClampNeg ≤ n0) (h5 : dp.toNatClampNeg + n.toNatClampNeg ≤ n1) (d : ja_At M pc (.invokestatic idx) 3 pc') (k : ja_J M pc' lv st (ja_cpL h a b sp.toNatClampNeg dp.toNatClampNeg n.toNatClampNeg) ret hf) : ja_J M pc lv (.int n :: .int dp :: .ref b :: .int sp :: .ref a :: st) h ret hf := by
  obtain ⟨d, rfl⟩ := d
  refine ⟨k.1, fun q => k.2.1 ⟨q.1, q.2.1, q.2.2.2.2⟩, fun p l e R s m args below meth c Q D aC A kc ks H ls locs cells slots ads hC hS hV hE => ?_⟩
  have hR := hC.2.2.2.2.2.2.2.2.1
  refine va_copyl hC.1 hC.2.1 (hC.2.2.1.trans hS.1.1.symm) hC.2.2.2.1 (hC.2.2.2.2.1 _ hlk) (hC.2.2.2.2.1 _ hna) (hC.2.2.2.2.1 _ hsc) (hC.2.2.2.2.1 _ hin) hC.2.2.2.2.2.1 hS.2.1 hS.2.2.1 hS.2.2.2.1 a b 1 1 (ja_wl_arr ha) (ja_wl_arr hb) rfl rfl rfl h1 h2 h3 h4 h5 (fun _ _ => rfl) (by omega) ?_ d (fun H1 locs1 hP hD hSS => ?_)
  · rw [ja_cv_sum]
    omega
  · have e1 : (ja_wl aC ads h).set b (ads b, .inl (aC 1, n1, .inr (.inl (va_cpy (h.2.2.1 a) (h.2.2.1 b) sp.toNatClampNeg dp.toNatClampNeg n.toNatClampNeg)))) = ja_wl aC ads (ja_cpL h a b sp.toNatClampNeg dp.toNatClampNeg n.toNatClampNeg) := by
      refine ja_wl_set rfl (ja_lt hb) (fun j hj => ja_ce_congr rfl rfl (by funext z; simp [ja_cpL, hj]) rfl) ?_
      simp only [ja_ce, ja_cpL, hb, ja_ar, if_pos]
    rw [e1] at hP hD
    exact k.2.2 p l e R s m args below meth c Q D aC A kc ks H1 ls locs1 cells slots ads hC ⟨hS.1, hP, hD, hSS, hS.2.2.2.2.1, hS.2.2.2.2.2⟩ ⟨hV.1, hV.2.1, hV.2.2.2.2⟩ hE
theorem jd_copyL {α : Type} {g : α → List Value × ja_H} {M : ja_Mt} {pc pc' : Nat} {lv : List (Option Value)} {st : List Value} {h : ja_H} {a b idx : Nat} {sp dp n : Int32} {K : ja_H → Option α} (hlk : Cond.methodLink M.1 idx arraycopyName ∈ ja_all) (hna : Cond.native arraycopyName ∈ ja_all) (hsc : Cond.static arraycopyName ∈ ja_all) (hin : Cond.initialized "java/lang/System" ∈ ja_all) (hd : 1 ≤ M.2.2.2.1.1 ∧ 26 ≤ M.2.2.2.1.2) (hw : (st.map Value.category).sum ≤ 8) (d : ja_At M pc (.invokestatic idx) 3 pc') (k : ∀ h1, ja_D g M pc' lv st h1 (K h1)) : ja_D g M pc lv (.int n :: .int dp :: .ref b :: .int sp :: .ref a :: st) h (jy_L h a sp b dp n K) := by
  intro o e
  unfold jy_L jy_ok at e
  obtain ⟨n0, q1, e⟩ := Option.bind_eq_some_iff.mp e
  obtain ⟨n1, q2, e⟩ := Option.bind_eq_some_iff.mp e
  split at e
  · next hx =>
    obtain ⟨h1, h2, h3, h4, h5⟩ := hx
    exact ja_copyL hlk hna hsc hin hd hw (by decide) (jn_some q1) (jn_some q2) h1 h2 h3 h4 h5 d (k _ o e)
  · cases e
theorem jc_of {α : Type} {g : α → List Value × ja_H} {d : Nat × Nat} {y : MethodName} {bytes : ByteArray} {maxL : Nat} {rt : Option FieldType} {args : List Value} {h : ja_H} {r : Option α} {o : α} (ini : Bool) (lv : List (Option Value)) (e : r = some o) (hj : ja_D g (y.cls, bytes, maxL, d, ini, rt, none, none) 0 lv [] h r) (hlv : ja_l0 args maxL = lv) (hy : plainName y.cls = true) (hini : ini = true → y.name = "<init>") (hlen : (lg_sl (args.map (ja_cv (fun i => i)))).length ≤ maxL) (hno : ∀ k, (g o).1 ≠ [.retAddr k]) (hret : (g o).1.length ≤ 1) : ja_M d y bytes maxL rt args h (g o).1 (g o).2 :=
  ja_M_of ini lv hlv hy hini hlen hno hret (hj o e)
end
section
theorem u_WJ : ∀ w ∈ u_ws R_WJ T_WJ 7, w ∈ ja_all := List.forall_mem_cons.mpr ⟨ja_m2 22 rfl rfl, List.forall_mem_cons.mpr ⟨ja_m2 24 rfl rfl, List.forall_mem_cons.mpr ⟨ja_m2 26 rfl rfl, List.forall_mem_cons.mpr ⟨ja_m2 28 rfl rfl, List.forall_mem_cons.mpr ⟨ja_m2 30 rfl rfl, List.forall_mem_cons.mpr ⟨ja_m2 32 rfl rfl, List.forall_mem_cons.mpr ⟨ja_m2 34 rfl rfl, fun _ h => absurd h List.not_mem_nil⟩⟩⟩⟩⟩⟩⟩
theorem n_WJ : ∀ a, a < 7 → ∀ b, b < 7 → a ≠ b → (T_WJ a).2.1 ≠ (T_WJ b).2.1 := by decide +kernel
theorem d_WJ : ∀ k, k < 7 → parseFieldDescriptor (T_WJ k).2.2.1 = some (ja_ty 0 k) := by decide +kernel
theorem P_WJ_code : ja_FP 0 0 (.object "WordJudge$Code") true := ⟨R_WJ, T_WJ, 7, rfl, d_WJ, n_WJ, by decide +kernel, rfl, rfl⟩
theorem P_WJ_given : ja_FP 0 1 (.object "WordJudge$Given") true := ⟨R_WJ, T_WJ, 7, rfl, d_WJ, n_WJ, by decide +kernel, rfl, rfl⟩
theorem P_WJ_form : ja_FP 0 2 (.object "WordJudge$Form") true := ⟨R_WJ, T_WJ, 7, rfl, d_WJ, n_WJ, by decide +kernel, rfl, rfl⟩
theorem P_WJ_judge : ja_FP 0 3 (.object "WordJudge$Judge") true := ⟨R_WJ, T_WJ, 7, rfl, d_WJ, n_WJ, by decide +kernel, rfl, rfl⟩
theorem P_WJ_machine : ja_FP 0 4 (.object "WordJudge$Machine") true := ⟨R_WJ, T_WJ, 7, rfl, d_WJ, n_WJ, by decide +kernel, rfl, rfl⟩
theorem P_WJ_verified : ja_FP 0 5 (.boolean) false := ⟨R_WJ, T_WJ, 7, rfl, d_WJ, n_WJ, by decide +kernel, rfl, rfl⟩
theorem P_WJ_faultAt : ja_FP 0 6 (.int) false := ⟨R_WJ, T_WJ, 7, rfl, d_WJ, n_WJ, by decide +kernel, rfl, rfl⟩
theorem u_Co : ∀ w ∈ u_ws R_Co T_Co 2, w ∈ ja_all := List.forall_mem_cons.mpr ⟨ja_m1 43 rfl rfl, List.forall_mem_cons.mpr ⟨ja_m1 45 rfl rfl, fun _ h => absurd h List.not_mem_nil⟩⟩
theorem n_Co : ∀ a, a < 2 → ∀ b, b < 2 → a ≠ b → (T_Co a).2.1 ≠ (T_Co b).2.1 := by decide +kernel
theorem d_Co : ∀ k, k < 2 → parseFieldDescriptor (T_Co k).2.2.1 = some (ja_ty 1 k) := by decide +kernel
theorem P_Co_words : ja_FP 1 0 (.array .long) true := ⟨R_Co, T_Co, 2, rfl, d_Co, n_Co, by decide +kernel, rfl, rfl⟩
theorem P_Co_length : ja_FP 1 1 (.int) false := ⟨R_Co, T_Co, 2, rfl, d_Co, n_Co, by decide +kernel, rfl, rfl⟩
theorem u_Gi : ∀ w ∈ u_ws R_Gi T_Gi 2, w ∈ ja_all := List.forall_mem_cons.mpr ⟨ja_m1 58 rfl rfl, List.forall_mem_cons.mpr ⟨ja_m1 60 rfl rfl, fun _ h => absurd h List.not_mem_nil⟩⟩
theorem n_Gi : ∀ a, a < 2 → ∀ b, b < 2 → a ≠ b → (T_Gi a).2.1 ≠ (T_Gi b).2.1 := by decide +kernel
theorem d_Gi : ∀ k, k < 2 → parseFieldDescriptor (T_Gi k).2.2.1 = some (ja_ty 2 k) := by decide +kernel
theorem P_Gi_octets : ja_FP 2 0 (.array .byte) true := ⟨R_Gi, T_Gi, 2, rfl, d_Gi, n_Gi, by decide +kernel, rfl, rfl⟩
theorem P_Gi_length : ja_FP 2 1 (.int) false := ⟨R_Gi, T_Gi, 2, rfl, d_Gi, n_Gi, by decide +kernel, rfl, rfl⟩
theorem u_Fo : ∀ w ∈ u_ws R_Fo T_Fo 3, w ∈ ja_all := List.forall_mem_cons.mpr ⟨ja_m1 124 rfl rfl, List.forall_mem_cons.mpr ⟨ja_m1 126 rfl rfl, List.forall_mem_cons.mpr ⟨ja_m1 128 rfl rfl, fun _ h => absurd h List.not_mem_nil⟩⟩⟩
theorem n_Fo : ∀ a, a < 3 → ∀ b, b < 3 → a ≠ b → (T_Fo a).2.1 ≠ (T_Fo b).2.1 := by decide +kernel
theorem d_Fo : ∀ k, k < 3 → parseFieldDescriptor (T_Fo k).2.2.1 = some (ja_ty 3 k) := by decide +kernel
theorem P_Fo_seconds : ja_FP 3 0 (.array .boolean) true := ⟨R_Fo, T_Fo, 3, rfl, d_Fo, n_Fo, by decide +kernel, rfl, rfl⟩
theorem P_Fo_word : ja_FP 3 1 (.object "WordJudge$Word") true := ⟨R_Fo, T_Fo, 3, rfl, d_Fo, n_Fo, by decide +kernel, rfl, rfl⟩
theorem P_Fo_faultAt : ja_FP 3 2 (.int) false := ⟨R_Fo, T_Fo, 3, rfl, d_Fo, n_Fo, by decide +kernel, rfl, rfl⟩
theorem u_Wo : ∀ w ∈ u_ws R_Wo T_Wo 7, w ∈ ja_all := List.forall_mem_cons.mpr ⟨ja_m1 104 rfl rfl, List.forall_mem_cons.mpr ⟨ja_m1 106 rfl rfl, List.forall_mem_cons.mpr ⟨ja_m1 108 rfl rfl, List.forall_mem_cons.mpr ⟨ja_m1 110 rfl rfl, List.forall_mem_cons.mpr ⟨ja_m1 112 rfl rfl, List.forall_mem_cons.mpr ⟨ja_m1 114 rfl rfl, List.forall_mem_cons.mpr ⟨ja_m1 116 rfl rfl, fun _ h => absurd h List.not_mem_nil⟩⟩⟩⟩⟩⟩⟩
theorem n_Wo : ∀ a, a < 7 → ∀ b, b < 7 → a ≠ b → (T_Wo a).2.1 ≠ (T_Wo b).2.1 := by decide +kernel
theorem d_Wo : ∀ k, k < 7 → parseFieldDescriptor (T_Wo k).2.2.1 = some (ja_ty 4 k) := by decide +kernel
theorem P_Wo_op : ja_FP 4 0 (.int) false := ⟨R_Wo, T_Wo, 7, rfl, d_Wo, n_Wo, by decide +kernel, rfl, rfl⟩
theorem P_Wo_d : ja_FP 4 1 (.int) false := ⟨R_Wo, T_Wo, 7, rfl, d_Wo, n_Wo, by decide +kernel, rfl, rfl⟩
theorem P_Wo_s : ja_FP 4 2 (.int) false := ⟨R_Wo, T_Wo, 7, rfl, d_Wo, n_Wo, by decide +kernel, rfl, rfl⟩
theorem P_Wo_off : ja_FP 4 3 (.int) false := ⟨R_Wo, T_Wo, 7, rfl, d_Wo, n_Wo, by decide +kernel, rfl, rfl⟩
theorem P_Wo_imm : ja_FP 4 4 (.int) false := ⟨R_Wo, T_Wo, 7, rfl, d_Wo, n_Wo, by decide +kernel, rfl, rfl⟩
theorem P_Wo_sort : ja_FP 4 5 (.int) false := ⟨R_Wo, T_Wo, 7, rfl, d_Wo, n_Wo, by decide +kernel, rfl, rfl⟩
theorem P_Wo_kind : ja_FP 4 6 (.int) false := ⟨R_Wo, T_Wo, 7, rfl, d_Wo, n_Wo, by decide +kernel, rfl, rfl⟩
theorem u_Ju : ∀ w ∈ u_ws R_Ju T_Ju 10, w ∈ ja_all := List.forall_mem_cons.mpr ⟨ja_m1 199 rfl rfl, List.forall_mem_cons.mpr ⟨ja_m1 201 rfl rfl, List.forall_mem_cons.mpr ⟨ja_m1 203 rfl rfl, List.forall_mem_cons.mpr ⟨ja_m1 205 rfl rfl, List.forall_mem_cons.mpr ⟨ja_m1 207 rfl rfl, List.forall_mem_cons.mpr ⟨ja_m1 209 rfl rfl, List.forall_mem_cons.mpr ⟨ja_m1 211 rfl rfl, List.forall_mem_cons.mpr ⟨ja_m1 213 rfl rfl, List.forall_mem_cons.mpr ⟨ja_m1 215 rfl rfl, List.forall_mem_cons.mpr ⟨ja_m1 217 rfl rfl, fun _ h => absurd h List.not_mem_nil⟩⟩⟩⟩⟩⟩⟩⟩⟩⟩
theorem n_Ju : ∀ a, a < 10 → ∀ b, b < 10 → a ≠ b → (T_Ju a).2.1 ≠ (T_Ju b).2.1 := by decide +kernel
theorem d_Ju : ∀ k, k < 10 → parseFieldDescriptor (T_Ju k).2.2.1 = some (ja_ty 5 k) := by decide +kernel
theorem P_Ju_before : ja_FP 5 0 (.array (.object "WordJudge$State")) true := ⟨R_Ju, T_Ju, 10, rfl, d_Ju, n_Ju, by decide +kernel, rfl, rfl⟩
theorem P_Ju_now : ja_FP 5 1 (.object "WordJudge$State") true := ⟨R_Ju, T_Ju, 10, rfl, d_Ju, n_Ju, by decide +kernel, rfl, rfl⟩
theorem P_Ju_word : ja_FP 5 2 (.object "WordJudge$Word") true := ⟨R_Ju, T_Ju, 10, rfl, d_Ju, n_Ju, by decide +kernel, rfl, rfl⟩
theorem P_Ju_left : ja_FP 5 3 (.object "WordJudge$Value") true := ⟨R_Ju, T_Ju, 10, rfl, d_Ju, n_Ju, by decide +kernel, rfl, rfl⟩
theorem P_Ju_right : ja_FP 5 4 (.object "WordJudge$Value") true := ⟨R_Ju, T_Ju, 10, rfl, d_Ju, n_Ju, by decide +kernel, rfl, rfl⟩
theorem P_Ju_narrowed : ja_FP 5 5 (.object "WordJudge$Value") true := ⟨R_Ju, T_Ju, 10, rfl, d_Ju, n_Ju, by decide +kernel, rfl, rfl⟩
theorem P_Ju_length : ja_FP 5 6 (.int) false := ⟨R_Ju, T_Ju, 10, rfl, d_Ju, n_Ju, by decide +kernel, rfl, rfl⟩
theorem P_Ju_contextLength : ja_FP 5 7 (.int) false := ⟨R_Ju, T_Ju, 10, rfl, d_Ju, n_Ju, by decide +kernel, rfl, rfl⟩
theorem P_Ju_comeTo : ja_FP 5 8 (.int) false := ⟨R_Ju, T_Ju, 10, rfl, d_Ju, n_Ju, by decide +kernel, rfl, rfl⟩
theorem P_Ju_faultAt : ja_FP 5 9 (.int) false := ⟨R_Ju, T_Ju, 10, rfl, d_Ju, n_Ju, by decide +kernel, rfl, rfl⟩
theorem u_St : ∀ w ∈ u_ws R_St T_St 5, w ∈ ja_all := List.forall_mem_cons.mpr ⟨ja_m1 149 rfl rfl, List.forall_mem_cons.mpr ⟨ja_m1 151 rfl rfl, List.forall_mem_cons.mpr ⟨ja_m1 153 rfl rfl, List.forall_mem_cons.mpr ⟨ja_m1 155 rfl rfl, List.forall_mem_cons.mpr ⟨ja_m1 157 rfl rfl, fun _ h => absurd h List.not_mem_nil⟩⟩⟩⟩⟩
theorem n_St : ∀ a, a < 5 → ∀ b, b < 5 → a ≠ b → (T_St a).2.1 ≠ (T_St b).2.1 := by decide +kernel
theorem d_St : ∀ k, k < 5 → parseFieldDescriptor (T_St k).2.2.1 = some (ja_ty 6 k) := by decide +kernel
theorem P_St_kinds : ja_FP 6 0 (.array .int) true := ⟨R_St, T_St, 5, rfl, d_St, n_St, by decide +kernel, rfl, rfl⟩
theorem P_St_lows : ja_FP 6 1 (.array .long) true := ⟨R_St, T_St, 5, rfl, d_St, n_St, by decide +kernel, rfl, rfl⟩
theorem P_St_highs : ja_FP 6 2 (.array .long) true := ⟨R_St, T_St, 5, rfl, d_St, n_St, by decide +kernel, rfl, rfl⟩
theorem P_St_set : ja_FP 6 3 (.array .int) true := ⟨R_St, T_St, 5, rfl, d_St, n_St, by decide +kernel, rfl, rfl⟩
theorem P_St_comeTo : ja_FP 6 4 (.boolean) false := ⟨R_St, T_St, 5, rfl, d_St, n_St, by decide +kernel, rfl, rfl⟩
theorem u_Va : ∀ w ∈ u_ws R_Va T_Va 3, w ∈ ja_all := List.forall_mem_cons.mpr ⟨ja_m1 180 rfl rfl, List.forall_mem_cons.mpr ⟨ja_m1 182 rfl rfl, List.forall_mem_cons.mpr ⟨ja_m1 184 rfl rfl, fun _ h => absurd h List.not_mem_nil⟩⟩⟩
theorem n_Va : ∀ a, a < 3 → ∀ b, b < 3 → a ≠ b → (T_Va a).2.1 ≠ (T_Va b).2.1 := by decide +kernel
theorem d_Va : ∀ k, k < 3 → parseFieldDescriptor (T_Va k).2.2.1 = some (ja_ty 7 k) := by decide +kernel
theorem P_Va_kind : ja_FP 7 0 (.int) false := ⟨R_Va, T_Va, 3, rfl, d_Va, n_Va, by decide +kernel, rfl, rfl⟩
theorem P_Va_low : ja_FP 7 1 (.long) false := ⟨R_Va, T_Va, 3, rfl, d_Va, n_Va, by decide +kernel, rfl, rfl⟩
theorem P_Va_high : ja_FP 7 2 (.long) false := ⟨R_Va, T_Va, 3, rfl, d_Va, n_Va, by decide +kernel, rfl, rfl⟩
theorem u_Ma : ∀ w ∈ u_ws R_Ma T_Ma 8, w ∈ ja_all := List.forall_mem_cons.mpr ⟨ja_m1 238 rfl rfl, List.forall_mem_cons.mpr ⟨ja_m2 0 rfl rfl, List.forall_mem_cons.mpr ⟨ja_m2 2 rfl rfl, List.forall_mem_cons.mpr ⟨ja_m2 4 rfl rfl, List.forall_mem_cons.mpr ⟨ja_m2 6 rfl rfl, List.forall_mem_cons.mpr ⟨ja_m2 8 rfl rfl, List.forall_mem_cons.mpr ⟨ja_m2 10 rfl rfl, List.forall_mem_cons.mpr ⟨ja_m2 12 rfl rfl, fun _ h => absurd h List.not_mem_nil⟩⟩⟩⟩⟩⟩⟩⟩
theorem n_Ma : ∀ a, a < 8 → ∀ b, b < 8 → a ≠ b → (T_Ma a).2.1 ≠ (T_Ma b).2.1 := by decide +kernel
theorem d_Ma : ∀ k, k < 8 → parseFieldDescriptor (T_Ma k).2.2.1 = some (ja_ty 8 k) := by decide +kernel
theorem P_Ma_registers : ja_FP 8 0 (.array .long) true := ⟨R_Ma, T_Ma, 8, rfl, d_Ma, n_Ma, by decide +kernel, rfl, rfl⟩
theorem P_Ma_registerHas : ja_FP 8 1 (.array .boolean) true := ⟨R_Ma, T_Ma, 8, rfl, d_Ma, n_Ma, by decide +kernel, rfl, rfl⟩
theorem P_Ma_stack : ja_FP 8 2 (.array .byte) true := ⟨R_Ma, T_Ma, 8, rfl, d_Ma, n_Ma, by decide +kernel, rfl, rfl⟩
theorem P_Ma_stackHas : ja_FP 8 3 (.array .boolean) true := ⟨R_Ma, T_Ma, 8, rfl, d_Ma, n_Ma, by decide +kernel, rfl, rfl⟩
theorem P_Ma_word : ja_FP 8 4 (.object "WordJudge$Word") true := ⟨R_Ma, T_Ma, 8, rfl, d_Ma, n_Ma, by decide +kernel, rfl, rfl⟩
theorem P_Ma_steps : ja_FP 8 5 (.int) false := ⟨R_Ma, T_Ma, 8, rfl, d_Ma, n_Ma, by decide +kernel, rfl, rfl⟩
theorem P_Ma_strayRuns : ja_FP 8 6 (.int) false := ⟨R_Ma, T_Ma, 8, rfl, d_Ma, n_Ma, by decide +kernel, rfl, rfl⟩
theorem P_Ma_strayed : ja_FP 8 7 (.boolean) false := ⟨R_Ma, T_Ma, 8, rfl, d_Ma, n_Ma, by decide +kernel, rfl, rfl⟩
theorem u_Mo : ∀ w ∈ u_ws R_Mo T_Mo 23, w ∈ ja_all := List.forall_mem_cons.mpr ⟨ja_m4 223 rfl rfl, List.forall_mem_cons.mpr ⟨ja_m4 225 rfl rfl, List.forall_mem_cons.mpr ⟨ja_m4 227 rfl rfl, List.forall_mem_cons.mpr ⟨ja_m4 229 rfl rfl, List.forall_mem_cons.mpr ⟨ja_m4 231 rfl rfl, List.forall_mem_cons.mpr ⟨ja_m4 233 rfl rfl, List.forall_mem_cons.mpr ⟨ja_m4 235 rfl rfl, List.forall_mem_cons.mpr ⟨ja_m4 237 rfl rfl, List.forall_mem_cons.mpr ⟨ja_m4 239 rfl rfl, List.forall_mem_cons.mpr ⟨ja_m5 1 rfl rfl, List.forall_mem_cons.mpr ⟨ja_m5 3 rfl rfl, List.forall_mem_cons.mpr ⟨ja_m5 5 rfl rfl, List.forall_mem_cons.mpr ⟨ja_m5 7 rfl rfl, List.forall_mem_cons.mpr ⟨ja_m5 9 rfl rfl, List.forall_mem_cons.mpr ⟨ja_m5 11 rfl rfl, List.forall_mem_cons.mpr ⟨ja_m5 13 rfl rfl, List.forall_mem_cons.mpr ⟨ja_m5 15 rfl rfl, List.forall_mem_cons.mpr ⟨ja_m5 17 rfl rfl, List.forall_mem_cons.mpr ⟨ja_m5 19 rfl rfl, List.forall_mem_cons.mpr ⟨ja_m5 21 rfl rfl, List.forall_mem_cons.mpr ⟨ja_m5 23 rfl rfl, List.forall_mem_cons.mpr ⟨ja_m5 25 rfl rfl, List.forall_mem_cons.mpr ⟨ja_m5 27 rfl rfl, fun _ h => absurd h List.not_mem_nil⟩⟩⟩⟩⟩⟩⟩⟩⟩⟩⟩⟩⟩⟩⟩⟩⟩⟩⟩⟩⟩⟩⟩
theorem n_Mo : ∀ a, a < 23 → ∀ b, b < 23 → a ≠ b → (T_Mo a).2.1 ≠ (T_Mo b).2.1 := by decide +kernel
theorem d_Mo : ∀ k, k < 23 → parseFieldDescriptor (T_Mo k).2.2.1 = some (ja_ty 9 k) := by decide +kernel
theorem P_Mo_err : ja_FP 9 0 (.int) false := ⟨R_Mo, T_Mo, 23, rfl, d_Mo, n_Mo, by decide +kernel, rfl, rfl⟩
theorem P_Mo_words : ja_FP 9 1 (.array .long) true := ⟨R_Mo, T_Mo, 23, rfl, d_Mo, n_Mo, by decide +kernel, rfl, rfl⟩
theorem P_Mo_many : ja_FP 9 2 (.int) false := ⟨R_Mo, T_Mo, 23, rfl, d_Mo, n_Mo, by decide +kernel, rfl, rfl⟩
theorem P_Mo_second : ja_FP 9 3 (.array .boolean) true := ⟨R_Mo, T_Mo, 23, rfl, d_Mo, n_Mo, by decide +kernel, rfl, rfl⟩
theorem P_Mo_come : ja_FP 9 4 (.array .boolean) true := ⟨R_Mo, T_Mo, 23, rfl, d_Mo, n_Mo, by decide +kernel, rfl, rfl⟩
theorem P_Mo_verified : ja_FP 9 5 (.boolean) false := ⟨R_Mo, T_Mo, 23, rfl, d_Mo, n_Mo, by decide +kernel, rfl, rfl⟩
theorem P_Mo_fault : ja_FP 9 6 (.int) false := ⟨R_Mo, T_Mo, 23, rfl, d_Mo, n_Mo, by decide +kernel, rfl, rfl⟩
theorem P_Mo_faultAt : ja_FP 9 7 (.int) false := ⟨R_Mo, T_Mo, 23, rfl, d_Mo, n_Mo, by decide +kernel, rfl, rfl⟩
theorem P_Mo_context : ja_FP 9 8 (.array .int) true := ⟨R_Mo, T_Mo, 23, rfl, d_Mo, n_Mo, by decide +kernel, rfl, rfl⟩
theorem P_Mo_length : ja_FP 9 9 (.int) false := ⟨R_Mo, T_Mo, 23, rfl, d_Mo, n_Mo, by decide +kernel, rfl, rfl⟩
theorem P_Mo_kind : ja_FP 9 10 (.array .byte) true := ⟨R_Mo, T_Mo, 23, rfl, d_Mo, n_Mo, by decide +kernel, rfl, rfl⟩
theorem P_Mo_low : ja_FP 9 11 (.array .long) true := ⟨R_Mo, T_Mo, 23, rfl, d_Mo, n_Mo, by decide +kernel, rfl, rfl⟩
theorem P_Mo_high : ja_FP 9 12 (.array .long) true := ⟨R_Mo, T_Mo, 23, rfl, d_Mo, n_Mo, by decide +kernel, rfl, rfl⟩
theorem P_Mo_set : ja_FP 9 13 (.array .boolean) true := ⟨R_Mo, T_Mo, 23, rfl, d_Mo, n_Mo, by decide +kernel, rfl, rfl⟩
theorem P_Mo_steps : ja_FP 9 14 (.int) false := ⟨R_Mo, T_Mo, 23, rfl, d_Mo, n_Mo, by decide +kernel, rfl, rfl⟩
theorem P_Mo_odd : ja_FP 9 15 (.int) false := ⟨R_Mo, T_Mo, 23, rfl, d_Mo, n_Mo, by decide +kernel, rfl, rfl⟩
theorem P_Mo_wrapped : ja_FP 9 16 (.boolean) false := ⟨R_Mo, T_Mo, 23, rfl, d_Mo, n_Mo, by decide +kernel, rfl, rfl⟩
theorem P_Mo_has : ja_FP 9 17 (.array .int) true := ⟨R_Mo, T_Mo, 23, rfl, d_Mo, n_Mo, by decide +kernel, rfl, rfl⟩
theorem P_Mo_keeps : ja_FP 9 18 (.array .int) true := ⟨R_Mo, T_Mo, 23, rfl, d_Mo, n_Mo, by decide +kernel, rfl, rfl⟩
theorem P_Mo_value : ja_FP 9 19 (.array .long) true := ⟨R_Mo, T_Mo, 23, rfl, d_Mo, n_Mo, by decide +kernel, rfl, rfl⟩
theorem P_Mo_keptValue : ja_FP 9 20 (.array .long) true := ⟨R_Mo, T_Mo, 23, rfl, d_Mo, n_Mo, by decide +kernel, rfl, rfl⟩
theorem P_Mo_memory : ja_FP 9 21 (.array .int) true := ⟨R_Mo, T_Mo, 23, rfl, d_Mo, n_Mo, by decide +kernel, rfl, rfl⟩
theorem P_Mo_had : ja_FP 9 22 (.array .boolean) true := ⟨R_Mo, T_Mo, 23, rfl, d_Mo, n_Mo, by decide +kernel, rfl, rfl⟩
theorem k_WJ_init : Cond.code y_WJ_init b_WJ_init 1 (none) ∈ ja_all := (ja_m1 27 rfl rfl)
theorem in_WJ_init : Cond.instanceMethod y_WJ_init ∈ ja_all := (ja_m1 26 rfl rfl)
theorem k_WJ_word : Cond.code y_WJ_word b_WJ_word 4 (some .int) ∈ ja_all := (ja_m2 48 rfl rfl)
theorem in_WJ_word : Cond.instanceMethod y_WJ_word ∈ ja_all := (ja_m2 46 rfl rfl)
theorem se_WJ_word : Cond.selects "WordJudge" y_WJ_word y_WJ_word ∈ ja_all := (ja_m2 47 rfl rfl)
theorem k_WJ_cut : Cond.code y_WJ_cut b_WJ_cut 2 (none) ∈ ja_all := (ja_m2 129 rfl rfl)
theorem in_WJ_cut : Cond.instanceMethod y_WJ_cut ∈ ja_all := (ja_m2 127 rfl rfl)
theorem se_WJ_cut : Cond.selects "WordJudge" y_WJ_cut y_WJ_cut ∈ ja_all := (ja_m2 128 rfl rfl)
theorem k_WJ_context : Cond.code y_WJ_context b_WJ_context 2 (none) ∈ ja_all := (ja_m2 138 rfl rfl)
theorem in_WJ_context : Cond.instanceMethod y_WJ_context ∈ ja_all := (ja_m2 136 rfl rfl)
theorem se_WJ_context : Cond.selects "WordJudge" y_WJ_context y_WJ_context ∈ ja_all := (ja_m2 137 rfl rfl)
theorem k_WJ_put : Cond.code y_WJ_put b_WJ_put 4 (none) ∈ ja_all := (ja_m2 166 rfl rfl)
theorem in_WJ_put : Cond.instanceMethod y_WJ_put ∈ ja_all := (ja_m2 164 rfl rfl)
theorem se_WJ_put : Cond.selects "WordJudge" y_WJ_put y_WJ_put ∈ ja_all := (ja_m2 165 rfl rfl)
theorem k_WJ_verify : Cond.code y_WJ_verify b_WJ_verify 2 (some .int) ∈ ja_all := (ja_m2 184 rfl rfl)
theorem in_WJ_verify : Cond.instanceMethod y_WJ_verify ∈ ja_all := (ja_m2 182 rfl rfl)
theorem se_WJ_verify : Cond.selects "WordJudge" y_WJ_verify y_WJ_verify ∈ ja_all := (ja_m2 183 rfl rfl)
theorem k_WJ_fault : Cond.code y_WJ_fault b_WJ_fault 1 (some .int) ∈ ja_all := (ja_m2 40 rfl rfl)
theorem in_WJ_fault : Cond.instanceMethod y_WJ_fault ∈ ja_all := (ja_m2 38 rfl rfl)
theorem se_WJ_fault : Cond.selects "WordJudge" y_WJ_fault y_WJ_fault ∈ ja_all := (ja_m2 39 rfl rfl)
theorem k_WJ_state : Cond.code y_WJ_state b_WJ_state 4 (some .long) ∈ ja_all := (ja_m4 101 rfl rfl)
theorem in_WJ_state : Cond.instanceMethod y_WJ_state ∈ ja_all := (ja_m4 99 rfl rfl)
theorem se_WJ_state : Cond.selects "WordJudge" y_WJ_state y_WJ_state ∈ ja_all := (ja_m4 100 rfl rfl)
theorem k_WJ_run : Cond.code y_WJ_run b_WJ_run 1 (some .long) ∈ ja_all := (ja_m4 116 rfl rfl)
theorem in_WJ_run : Cond.instanceMethod y_WJ_run ∈ ja_all := (ja_m4 114 rfl rfl)
theorem se_WJ_run : Cond.selects "WordJudge" y_WJ_run y_WJ_run ∈ ja_all := (ja_m4 115 rfl rfl)
theorem k_WJ_count : Cond.code y_WJ_count b_WJ_count 2 (some .int) ∈ ja_all := (ja_m4 190 rfl rfl)
theorem in_WJ_count : Cond.instanceMethod y_WJ_count ∈ ja_all := (ja_m4 188 rfl rfl)
theorem se_WJ_count : Cond.selects "WordJudge" y_WJ_count y_WJ_count ∈ ja_all := (ja_m4 189 rfl rfl)
theorem k_Mo_init : Cond.code y_Mo_init b_Mo_init 1 (none) ∈ ja_all := (ja_m4 196 rfl rfl)
theorem in_Mo_init : Cond.instanceMethod y_Mo_init ∈ ja_all := (ja_m4 195 rfl rfl)
theorem k_Mo_thrown : Cond.code y_Mo_thrown b_Mo_thrown 1 (some .int) ∈ ja_all := (ja_m5 33 rfl rfl)
theorem in_Mo_thrown : Cond.instanceMethod y_Mo_thrown ∈ ja_all := (ja_m5 31 rfl rfl)
theorem se_Mo_thrown : Cond.selects "WordJudgeModel" y_Mo_thrown y_Mo_thrown ∈ ja_all := (ja_m5 32 rfl rfl)
theorem k_Mo_fails : Cond.code y_Mo_fails b_Mo_fails 3 (some .boolean) ∈ ja_all := (ja_m5 41 rfl rfl)
theorem in_Mo_fails : Cond.instanceMethod y_Mo_fails ∈ ja_all := (ja_m5 40 rfl rfl)
theorem se_Mo_fails : Cond.selects "WordJudgeModel" y_Mo_fails y_Mo_fails ∈ ja_all := (ja_mp 38 rfl rfl)
theorem k_Mo_word : Cond.code y_Mo_word b_Mo_word 4 (some .int) ∈ ja_all := (ja_m5 37 rfl rfl)
theorem in_Mo_word : Cond.instanceMethod y_Mo_word ∈ ja_all := (ja_m5 35 rfl rfl)
theorem se_Mo_word : Cond.selects "WordJudgeModel" y_Mo_word y_Mo_word ∈ ja_all := (ja_m5 36 rfl rfl)
theorem k_Mo_cut : Cond.code y_Mo_cut b_Mo_cut 2 (none) ∈ ja_all := (ja_m5 45 rfl rfl)
theorem in_Mo_cut : Cond.instanceMethod y_Mo_cut ∈ ja_all := (ja_m5 43 rfl rfl)
theorem se_Mo_cut : Cond.selects "WordJudgeModel" y_Mo_cut y_Mo_cut ∈ ja_all := (ja_m5 44 rfl rfl)
theorem k_Mo_context : Cond.code y_Mo_context b_Mo_context 3 (none) ∈ ja_all := (ja_m5 49 rfl rfl)
theorem in_Mo_context : Cond.instanceMethod y_Mo_context ∈ ja_all := (ja_m5 47 rfl rfl)
theorem se_Mo_context : Cond.selects "WordJudgeModel" y_Mo_context y_Mo_context ∈ ja_all := (ja_m5 48 rfl rfl)
theorem k_Mo_put : Cond.code y_Mo_put b_Mo_put 5 (none) ∈ ja_all := (ja_m5 53 rfl rfl)
theorem in_Mo_put : Cond.instanceMethod y_Mo_put ∈ ja_all := (ja_m5 51 rfl rfl)
theorem se_Mo_put : Cond.selects "WordJudgeModel" y_Mo_put y_Mo_put ∈ ja_all := (ja_m5 52 rfl rfl)
theorem k_Mo_op : Cond.code y_Mo_op b_Mo_op 2 (some .int) ∈ ja_all := (ja_m5 61 rfl rfl)
theorem in_Mo_op : Cond.instanceMethod y_Mo_op ∈ ja_all := (ja_m5 60 rfl rfl)
theorem se_Mo_op : Cond.selects "WordJudgeModel" y_Mo_op y_Mo_op ∈ ja_all := (ja_mp 39 rfl rfl)
theorem k_Mo_d : Cond.code y_Mo_d b_Mo_d 2 (some .int) ∈ ja_all := (ja_m5 86 rfl rfl)
theorem in_Mo_d : Cond.instanceMethod y_Mo_d ∈ ja_all := (ja_m5 85 rfl rfl)
theorem se_Mo_d : Cond.selects "WordJudgeModel" y_Mo_d y_Mo_d ∈ ja_all := (ja_mp 43 rfl rfl)
theorem k_Mo_s : Cond.code y_Mo_s b_Mo_s 2 (some .int) ∈ ja_all := (ja_m5 90 rfl rfl)
theorem in_Mo_s : Cond.instanceMethod y_Mo_s ∈ ja_all := (ja_m5 89 rfl rfl)
theorem se_Mo_s : Cond.selects "WordJudgeModel" y_Mo_s y_Mo_s ∈ ja_all := (ja_mp 44 rfl rfl)
theorem k_Mo_off : Cond.code y_Mo_off b_Mo_off 2 (some .int) ∈ ja_all := (ja_m5 111 rfl rfl)
theorem in_Mo_off : Cond.instanceMethod y_Mo_off ∈ ja_all := (ja_m5 110 rfl rfl)
theorem se_Mo_off : Cond.selects "WordJudgeModel" y_Mo_off y_Mo_off ∈ ja_all := (ja_mp 47 rfl rfl)
theorem k_Mo_imm : Cond.code y_Mo_imm b_Mo_imm 2 (some .int) ∈ ja_all := (ja_m5 82 rfl rfl)
theorem in_Mo_imm : Cond.instanceMethod y_Mo_imm ∈ ja_all := (ja_m5 81 rfl rfl)
theorem se_Mo_imm : Cond.selects "WordJudgeModel" y_Mo_imm y_Mo_imm ∈ ja_all := (ja_mp 42 rfl rfl)
theorem k_Mo_reads : Cond.code y_Mo_reads b_Mo_reads 1 (some .boolean) ∈ ja_all := (ja_m5 72 rfl rfl)
theorem sc_Mo_reads : Cond.static y_Mo_reads ∈ ja_all := (ja_m5 71 rfl rfl)
theorem k_Mo_stores : Cond.code y_Mo_stores b_Mo_stores 1 (some .boolean) ∈ ja_all := (ja_m5 75 rfl rfl)
theorem sc_Mo_stores : Cond.static y_Mo_stores ∈ ja_all := (ja_m5 74 rfl rfl)
theorem k_Mo_storesNumber : Cond.code y_Mo_storesNumber b_Mo_storesNumber 1 (some .boolean) ∈ ja_all := (ja_m5 78 rfl rfl)
theorem sc_Mo_storesNumber : Cond.static y_Mo_storesNumber ∈ ja_all := (ja_m5 77 rfl rfl)
theorem k_Mo_sum : Cond.code y_Mo_sum b_Mo_sum 1 (some .boolean) ∈ ja_all := (ja_m5 97 rfl rfl)
theorem sc_Mo_sum : Cond.static y_Mo_sum ∈ ja_all := (ja_m5 96 rfl rfl)
theorem k_Mo_test : Cond.code y_Mo_test b_Mo_test 1 (some .boolean) ∈ ja_all := (ja_m5 103 rfl rfl)
theorem sc_Mo_test : Cond.static y_Mo_test ∈ ja_all := (ja_m5 102 rfl rfl)
theorem k_Mo_go : Cond.code y_Mo_go b_Mo_go 1 (some .boolean) ∈ ja_all := (ja_m5 100 rfl rfl)
theorem sc_Mo_go : Cond.static y_Mo_go ∈ ja_all := (ja_m5 99 rfl rfl)
theorem k_Mo_size : Cond.code y_Mo_size b_Mo_size 1 (some .int) ∈ ja_all := (ja_m5 227 rfl rfl)
theorem sc_Mo_size : Cond.static y_Mo_size ∈ ja_all := (ja_m5 226 rfl rfl)
theorem k_Mo_isOne : Cond.code y_Mo_isOne b_Mo_isOne 4 (some .boolean) ∈ ja_all := (ja_m5 69 rfl rfl)
theorem in_Mo_isOne : Cond.instanceMethod y_Mo_isOne ∈ ja_all := (ja_m5 68 rfl rfl)
theorem se_Mo_isOne : Cond.selects "WordJudgeModel" y_Mo_isOne y_Mo_isOne ∈ ja_all := (ja_mp 41 rfl rfl)
theorem k_Mo_usesS : Cond.code y_Mo_usesS b_Mo_usesS 3 (some .boolean) ∈ ja_all := (ja_m5 107 rfl rfl)
theorem in_Mo_usesS : Cond.instanceMethod y_Mo_usesS ∈ ja_all := (ja_m5 106 rfl rfl)
theorem se_Mo_usesS : Cond.selects "WordJudgeModel" y_Mo_usesS y_Mo_usesS ∈ ja_all := (ja_mp 46 rfl rfl)
theorem k_Mo_usesD : Cond.code y_Mo_usesD b_Mo_usesD 3 (some .boolean) ∈ ja_all := (ja_m5 132 rfl rfl)
theorem in_Mo_usesD : Cond.instanceMethod y_Mo_usesD ∈ ja_all := (ja_m5 131 rfl rfl)
theorem se_Mo_usesD : Cond.selects "WordJudgeModel" y_Mo_usesD y_Mo_usesD ∈ ja_all := (ja_mp 52 rfl rfl)
theorem k_Mo_getsD : Cond.code y_Mo_getsD b_Mo_getsD 2 (some .boolean) ∈ ja_all := (ja_m5 94 rfl rfl)
theorem in_Mo_getsD : Cond.instanceMethod y_Mo_getsD ∈ ja_all := (ja_m5 93 rfl rfl)
theorem se_Mo_getsD : Cond.selects "WordJudgeModel" y_Mo_getsD y_Mo_getsD ∈ ja_all := (ja_mp 45 rfl rfl)
theorem k_Mo_form : Cond.code y_Mo_form b_Mo_form 5 (some .int) ∈ ja_all := (ja_m5 65 rfl rfl)
theorem in_Mo_form : Cond.instanceMethod y_Mo_form ∈ ja_all := (ja_m5 64 rfl rfl)
theorem se_Mo_form : Cond.selects "WordJudgeModel" y_Mo_form y_Mo_form ∈ ja_all := (ja_mp 40 rfl rfl)
theorem k_Mo_verify : Cond.code y_Mo_verify b_Mo_verify 2 (some .int) ∈ ja_all := (ja_m5 57 rfl rfl)
theorem in_Mo_verify : Cond.instanceMethod y_Mo_verify ∈ ja_all := (ja_m5 55 rfl rfl)
theorem se_Mo_verify : Cond.selects "WordJudgeModel" y_Mo_verify y_Mo_verify ∈ ja_all := (ja_m5 56 rfl rfl)
theorem k_Mo_found : Cond.code y_Mo_found b_Mo_found 3 (some .boolean) ∈ ja_all := (ja_m5 116 rfl rfl)
theorem in_Mo_found : Cond.instanceMethod y_Mo_found ∈ ja_all := (ja_m5 115 rfl rfl)
theorem se_Mo_found : Cond.selects "WordJudgeModel" y_Mo_found y_Mo_found ∈ ja_all := (ja_mp 48 rfl rfl)
theorem k_Mo_fault : Cond.code y_Mo_fault b_Mo_fault 1 (some .int) ∈ ja_all := (ja_m5 237 rfl rfl)
theorem in_Mo_fault : Cond.instanceMethod y_Mo_fault ∈ ja_all := (ja_m5 235 rfl rfl)
theorem se_Mo_fault : Cond.selects "WordJudgeModel" y_Mo_fault y_Mo_fault ∈ ja_all := (ja_m5 236 rfl rfl)
theorem k_Mo_give : Cond.code y_Mo_give b_Mo_give 8 (none) ∈ ja_all := (ja_m5 124 rfl rfl)
theorem in_Mo_give : Cond.instanceMethod y_Mo_give ∈ ja_all := (ja_m5 123 rfl rfl)
theorem se_Mo_give : Cond.selects "WordJudgeModel" y_Mo_give y_Mo_give ∈ ja_all := (ja_mp 50 rfl rfl)
theorem k_Mo_is : Cond.code y_Mo_is b_Mo_is 3 (some .int) ∈ ja_all := (ja_m5 136 rfl rfl)
theorem in_Mo_is : Cond.instanceMethod y_Mo_is ∈ ja_all := (ja_m5 135 rfl rfl)
theorem se_Mo_is : Cond.selects "WordJudgeModel" y_Mo_is y_Mo_is ∈ ja_all := (ja_mp 53 rfl rfl)
theorem k_Mo_least : Cond.code y_Mo_least b_Mo_least 3 (some .long) ∈ ja_all := (ja_m5 152 rfl rfl)
theorem in_Mo_least : Cond.instanceMethod y_Mo_least ∈ ja_all := (ja_m5 151 rfl rfl)
theorem se_Mo_least : Cond.selects "WordJudgeModel" y_Mo_least y_Mo_least ∈ ja_all := (ja_mp 57 rfl rfl)
theorem k_Mo_most : Cond.code y_Mo_most b_Mo_most 3 (some .long) ∈ ja_all := (ja_m5 156 rfl rfl)
theorem in_Mo_most : Cond.instanceMethod y_Mo_most ∈ ja_all := (ja_m5 155 rfl rfl)
theorem se_Mo_most : Cond.selects "WordJudgeModel" y_Mo_most y_Mo_most ∈ ja_all := (ja_mp 58 rfl rfl)
theorem k_Mo_pointer : Cond.code y_Mo_pointer b_Mo_pointer 3 (some .boolean) ∈ ja_all := (ja_m5 160 rfl rfl)
theorem in_Mo_pointer : Cond.instanceMethod y_Mo_pointer ∈ ja_all := (ja_m5 159 rfl rfl)
theorem se_Mo_pointer : Cond.selects "WordJudgeModel" y_Mo_pointer y_Mo_pointer ∈ ja_all := (ja_mp 59 rfl rfl)
theorem k_Mo_begin : Cond.code y_Mo_begin b_Mo_begin 2 (none) ∈ ja_all := (ja_m5 120 rfl rfl)
theorem in_Mo_begin : Cond.instanceMethod y_Mo_begin ∈ ja_all := (ja_m5 119 rfl rfl)
theorem se_Mo_begin : Cond.selects "WordJudgeModel" y_Mo_begin y_Mo_begin ∈ ja_all := (ja_mp 49 rfl rfl)
theorem k_Mo_copy : Cond.code y_Mo_copy b_Mo_copy 4 (none) ∈ ja_all := (ja_m5 148 rfl rfl)
theorem in_Mo_copy : Cond.instanceMethod y_Mo_copy ∈ ja_all := (ja_m5 147 rfl rfl)
theorem se_Mo_copy : Cond.selects "WordJudgeModel" y_Mo_copy y_Mo_copy ∈ ja_all := (ja_mp 56 rfl rfl)
theorem k_Mo_comes : Cond.code y_Mo_comes b_Mo_comes 7 (none) ∈ ja_all := (ja_m5 144 rfl rfl)
theorem in_Mo_comes : Cond.instanceMethod y_Mo_comes ∈ ja_all := (ja_m5 143 rfl rfl)
theorem se_Mo_comes : Cond.selects "WordJudgeModel" y_Mo_comes y_Mo_comes ∈ ja_all := (ja_mp 55 rfl rfl)
theorem k_Mo_one : Cond.code y_Mo_one b_Mo_one 7 (some .int) ∈ ja_all := (ja_m5 128 rfl rfl)
theorem in_Mo_one : Cond.instanceMethod y_Mo_one ∈ ja_all := (ja_m5 127 rfl rfl)
theorem se_Mo_one : Cond.selects "WordJudgeModel" y_Mo_one y_Mo_one ∈ ja_all := (ja_mp 51 rfl rfl)
theorem k_Mo_summed : Cond.code y_Mo_summed b_Mo_summed 27 (some .int) ∈ ja_all := (ja_m5 175 rfl rfl)
theorem in_Mo_summed : Cond.instanceMethod y_Mo_summed ∈ ja_all := (ja_m5 174 rfl rfl)
theorem se_Mo_summed : Cond.selects "WordJudgeModel" y_Mo_summed y_Mo_summed ∈ ja_all := (ja_mp 61 rfl rfl)
theorem k_Mo_plus : Cond.code y_Mo_plus b_Mo_plus 7 (some .long) ∈ ja_all := (ja_m5 199 rfl rfl)
theorem in_Mo_plus : Cond.instanceMethod y_Mo_plus ∈ ja_all := (ja_m5 198 rfl rfl)
theorem se_Mo_plus : Cond.selects "WordJudgeModel" y_Mo_plus y_Mo_plus ∈ ja_all := (ja_mp 64 rfl rfl)
theorem k_Mo_minus : Cond.code y_Mo_minus b_Mo_minus 7 (some .long) ∈ ja_all := (ja_m5 203 rfl rfl)
theorem in_Mo_minus : Cond.instanceMethod y_Mo_minus ∈ ja_all := (ja_m5 202 rfl rfl)
theorem se_Mo_minus : Cond.selects "WordJudgeModel" y_Mo_minus y_Mo_minus ∈ ja_all := (ja_mp 65 rfl rfl)
theorem k_Mo_times : Cond.code y_Mo_times b_Mo_times 7 (some .long) ∈ ja_all := (ja_m5 207 rfl rfl)
theorem in_Mo_times : Cond.instanceMethod y_Mo_times ∈ ja_all := (ja_m5 206 rfl rfl)
theorem se_Mo_times : Cond.selects "WordJudgeModel" y_Mo_times y_Mo_times ∈ ja_all := (ja_mp 66 rfl rfl)
theorem k_Mo_up : Cond.code y_Mo_up b_Mo_up 6 (some .long) ∈ ja_all := (ja_m5 215 rfl rfl)
theorem in_Mo_up : Cond.instanceMethod y_Mo_up ∈ ja_all := (ja_m5 214 rfl rfl)
theorem se_Mo_up : Cond.selects "WordJudgeModel" y_Mo_up y_Mo_up ∈ ja_all := (ja_mp 67 rfl rfl)
theorem k_Mo_numbers : Cond.code y_Mo_numbers b_Mo_numbers 33 (none) ∈ ja_all := (ja_m5 183 rfl rfl)
theorem in_Mo_numbers : Cond.instanceMethod y_Mo_numbers ∈ ja_all := (ja_m5 182 rfl rfl)
theorem se_Mo_numbers : Cond.selects "WordJudgeModel" y_Mo_numbers y_Mo_numbers ∈ ja_all := (ja_mp 62 rfl rfl)
theorem k_Mo_machine : Cond.code y_Mo_machine b_Mo_machine 16 (some .long) ∈ ja_all := (ja_m5 187 rfl rfl)
theorem in_Mo_machine : Cond.instanceMethod y_Mo_machine ∈ ja_all := (ja_m5 186 rfl rfl)
theorem se_Mo_machine : Cond.selects "WordJudgeModel" y_Mo_machine y_Mo_machine ∈ ja_all := (ja_mp 63 rfl rfl)
theorem k_Mo_opposite : Cond.code y_Mo_opposite b_Mo_opposite 1 (some .int) ∈ ja_all := (ja_m5 171 rfl rfl)
theorem sc_Mo_opposite : Cond.static y_Mo_opposite ∈ ja_all := (ja_m5 170 rfl rfl)
theorem k_Mo_tested : Cond.code y_Mo_tested b_Mo_tested 11 (some .int) ∈ ja_all := (ja_m5 140 rfl rfl)
theorem in_Mo_tested : Cond.instanceMethod y_Mo_tested ∈ ja_all := (ja_m5 139 rfl rfl)
theorem se_Mo_tested : Cond.selects "WordJudgeModel" y_Mo_tested y_Mo_tested ∈ ja_all := (ja_mp 54 rfl rfl)
theorem k_Mo_left : Cond.code y_Mo_left b_Mo_left 12 (some .boolean) ∈ ja_all := (ja_m5 166 rfl rfl)
theorem in_Mo_left : Cond.instanceMethod y_Mo_left ∈ ja_all := (ja_m5 165 rfl rfl)
theorem se_Mo_left : Cond.selects "WordJudgeModel" y_Mo_left y_Mo_left ∈ ja_all := (ja_mp 60 rfl rfl)
theorem k_Mo_access : Cond.code y_Mo_access b_Mo_access 10 (some .int) ∈ ja_all := (ja_m5 224 rfl rfl)
theorem in_Mo_access : Cond.instanceMethod y_Mo_access ∈ ja_all := (ja_m5 223 rfl rfl)
theorem se_Mo_access : Cond.selects "WordJudgeModel" y_Mo_access y_Mo_access ∈ ja_all := (ja_mp 69 rfl rfl)
theorem k_Mo_read : Cond.code y_Mo_read b_Mo_read 12 (some .int) ∈ ja_all := (ja_m5 220 rfl rfl)
theorem in_Mo_read : Cond.instanceMethod y_Mo_read ∈ ja_all := (ja_m5 219 rfl rfl)
theorem se_Mo_read : Cond.selects "WordJudgeModel" y_Mo_read y_Mo_read ∈ ja_all := (ja_mp 68 rfl rfl)
theorem k_Mo_stored : Cond.code y_Mo_stored b_Mo_stored 11 (some .int) ∈ ja_all := (ja_m5 232 rfl rfl)
theorem in_Mo_stored : Cond.instanceMethod y_Mo_stored ∈ ja_all := (ja_m5 231 rfl rfl)
theorem se_Mo_stored : Cond.selects "WordJudgeModel" y_Mo_stored y_Mo_stored ∈ ja_all := (ja_mp 70 rfl rfl)
theorem k_Mo_state : Cond.code y_Mo_state b_Mo_state 4 (some .long) ∈ ja_all := (ja_m6 1 rfl rfl)
theorem in_Mo_state : Cond.instanceMethod y_Mo_state ∈ ja_all := (ja_m5 239 rfl rfl)
theorem se_Mo_state : Cond.selects "WordJudgeModel" y_Mo_state y_Mo_state ∈ ja_all := (ja_m6 0 rfl rfl)
theorem k_Mo_run : Cond.code y_Mo_run b_Mo_run 9 (some .long) ∈ ja_all := (ja_m6 5 rfl rfl)
theorem in_Mo_run : Cond.instanceMethod y_Mo_run ∈ ja_all := (ja_m6 3 rfl rfl)
theorem se_Mo_run : Cond.selects "WordJudgeModel" y_Mo_run y_Mo_run ∈ ja_all := (ja_m6 4 rfl rfl)
theorem k_Mo_holds : Cond.code y_Mo_holds b_Mo_holds 15 (some .boolean) ∈ ja_all := (ja_m6 8 rfl rfl)
theorem sc_Mo_holds : Cond.static y_Mo_holds ∈ ja_all := (ja_m6 7 rfl rfl)
theorem k_Mo_moved : Cond.code y_Mo_moved b_Mo_moved 16 (some .boolean) ∈ ja_all := (ja_m6 13 rfl rfl)
theorem in_Mo_moved : Cond.instanceMethod y_Mo_moved ∈ ja_all := (ja_m6 12 rfl rfl)
theorem se_Mo_moved : Cond.selects "WordJudgeModel" y_Mo_moved y_Mo_moved ∈ ja_all := (ja_mp 71 rfl rfl)
theorem k_Mo_count : Cond.code y_Mo_count b_Mo_count 4 (some .int) ∈ ja_all := (ja_m6 17 rfl rfl)
theorem in_Mo_count : Cond.instanceMethod y_Mo_count ∈ ja_all := (ja_m6 15 rfl rfl)
theorem se_Mo_count : Cond.selects "WordJudgeModel" y_Mo_count y_Mo_count ∈ ja_all := (ja_m6 16 rfl rfl)
theorem k_Ar_reckon : Cond.code y_Ar_reckon b_Ar_reckon 12 (some .long) ∈ ja_all := (ja_m3 205 rfl rfl)
theorem sc_Ar_reckon : Cond.static y_Ar_reckon ∈ ja_all := (ja_m3 204 rfl rfl)
theorem k_Ar_reckonTaken : Cond.code y_Ar_reckonTaken b_Ar_reckonTaken 6 (some .long) ∈ ja_all := (ja_m3 209 rfl rfl)
theorem sc_Ar_reckonTaken : Cond.static y_Ar_reckonTaken ∈ ja_all := (ja_m3 208 rfl rfl)
theorem k_Ar_quotient : Cond.code y_Ar_quotient b_Ar_quotient 8 (some .long) ∈ ja_all := (ja_m3 212 rfl rfl)
theorem sc_Ar_quotient : Cond.static y_Ar_quotient ∈ ja_all := (ja_m3 211 rfl rfl)
theorem k_Ar_isBelow : Cond.code y_Ar_isBelow b_Ar_isBelow 4 (some .boolean) ∈ ja_all := (ja_m4 156 rfl rfl)
theorem sc_Ar_isBelow : Cond.static y_Ar_isBelow ∈ ja_all := (ja_m4 155 rfl rfl)
theorem k_Ar_lowest : Cond.code y_Ar_lowest b_Ar_lowest 4 (some .long) ∈ ja_all := (ja_m3 215 rfl rfl)
theorem sc_Ar_lowest : Cond.static y_Ar_lowest ∈ ja_all := (ja_m3 214 rfl rfl)
theorem k_Ar_turned : Cond.code y_Ar_turned b_Ar_turned 7 (some .long) ∈ ja_all := (ja_m3 219 rfl rfl)
theorem sc_Ar_turned : Cond.static y_Ar_turned ∈ ja_all := (ja_m3 218 rfl rfl)
theorem k_Ar_holds : Cond.code y_Ar_holds b_Ar_holds 6 (some .boolean) ∈ ja_all := (ja_m4 150 rfl rfl)
theorem sc_Ar_holds : Cond.static y_Ar_holds ∈ ja_all := (ja_m4 149 rfl rfl)
theorem k_Ar_isRelated : Cond.code y_Ar_isRelated b_Ar_isRelated 5 (some .boolean) ∈ ja_all := (ja_m4 153 rfl rfl)
theorem sc_Ar_isRelated : Cond.static y_Ar_isRelated ∈ ja_all := (ja_m4 152 rfl rfl)
theorem k_Co_init : Cond.code y_Co_init b_Co_init 1 (none) ∈ ja_all := (ja_m1 35 rfl rfl)
theorem in_Co_init : Cond.instanceMethod y_Co_init ∈ ja_all := (ja_m1 34 rfl rfl)
theorem k_Co_at : Cond.code y_Co_at b_Co_at 2 (some .long) ∈ ja_all := (ja_m2 212 rfl rfl)
theorem in_Co_at : Cond.instanceMethod y_Co_at ∈ ja_all := (ja_m2 210 rfl rfl)
theorem se_Co_at : Cond.selects "WordJudge$Code" y_Co_at y_Co_at ∈ ja_all := (ja_m2 211 rfl rfl)
theorem k_Co_replace : Cond.code y_Co_replace b_Co_replace 4 (none) ∈ ja_all := (ja_m2 119 rfl rfl)
theorem in_Co_replace : Cond.instanceMethod y_Co_replace ∈ ja_all := (ja_m2 117 rfl rfl)
theorem se_Co_replace : Cond.selects "WordJudge$Code" y_Co_replace y_Co_replace ∈ ja_all := (ja_m2 118 rfl rfl)
theorem k_Fo_init : Cond.code y_Fo_init b_Fo_init 1 (none) ∈ ja_all := (ja_m1 68 rfl rfl)
theorem in_Fo_init : Cond.instanceMethod y_Fo_init ∈ ja_all := (ja_m1 67 rfl rfl)
theorem k_Fo_examine : Cond.code y_Fo_examine b_Fo_examine 4 (some .int) ∈ ja_all := (ja_m2 204 rfl rfl)
theorem in_Fo_examine : Cond.instanceMethod y_Fo_examine ∈ ja_all := (ja_m2 202 rfl rfl)
theorem se_Fo_examine : Cond.selects "WordJudge$Form" y_Fo_examine y_Fo_examine ∈ ja_all := (ja_m2 203 rfl rfl)
theorem k_Fo_markSeconds : Cond.code y_Fo_markSeconds b_Fo_markSeconds 4 (none) ∈ ja_all := (ja_m2 208 rfl rfl)
theorem in_Fo_markSeconds : Cond.instanceMethod y_Fo_markSeconds ∈ ja_all := (ja_m2 207 rfl rfl)
theorem se_Fo_markSeconds : Cond.selects "WordJudge$Form" y_Fo_markSeconds y_Fo_markSeconds ∈ ja_all := (ja_mp 1 rfl rfl)
theorem k_Fo_examineWord : Cond.code y_Fo_examineWord b_Fo_examineWord 4 (some .int) ∈ ja_all := (ja_m2 236 rfl rfl)
theorem in_Fo_examineWord : Cond.instanceMethod y_Fo_examineWord ∈ ja_all := (ja_m2 235 rfl rfl)
theorem se_Fo_examineWord : Cond.selects "WordJudge$Form" y_Fo_examineWord y_Fo_examineWord ∈ ja_all := (ja_mp 6 rfl rfl)
theorem k_Fo_hasUnusedNotZero : Cond.code y_Fo_hasUnusedNotZero b_Fo_hasUnusedNotZero 1 (some .boolean) ∈ ja_all := (ja_m3 4 rfl rfl)
theorem in_Fo_hasUnusedNotZero : Cond.instanceMethod y_Fo_hasUnusedNotZero ∈ ja_all := (ja_m3 3 rfl rfl)
theorem se_Fo_hasUnusedNotZero : Cond.selects "WordJudge$Form" y_Fo_hasUnusedNotZero y_Fo_hasUnusedNotZero ∈ ja_all := (ja_mp 7 rfl rfl)
theorem k_Fo_isGoal : Cond.code y_Fo_isGoal b_Fo_isGoal 3 (some .boolean) ∈ ja_all := (ja_m3 42 rfl rfl)
theorem in_Fo_isGoal : Cond.instanceMethod y_Fo_isGoal ∈ ja_all := (ja_m3 41 rfl rfl)
theorem se_Fo_isGoal : Cond.selects "WordJudge$Form" y_Fo_isGoal y_Fo_isGoal ∈ ja_all := (ja_mp 8 rfl rfl)
theorem k_Gi_init : Cond.code y_Gi_init b_Gi_init 1 (none) ∈ ja_all := (ja_m1 53 rfl rfl)
theorem in_Gi_init : Cond.instanceMethod y_Gi_init ∈ ja_all := (ja_m1 52 rfl rfl)
theorem k_Gi_resize : Cond.code y_Gi_resize b_Gi_resize 3 (none) ∈ ja_all := (ja_m2 158 rfl rfl)
theorem in_Gi_resize : Cond.instanceMethod y_Gi_resize ∈ ja_all := (ja_m2 156 rfl rfl)
theorem se_Gi_resize : Cond.selects "WordJudge$Given" y_Gi_resize y_Gi_resize ∈ ja_all := (ja_m2 157 rfl rfl)
theorem k_Gi_place : Cond.code y_Gi_place b_Gi_place 5 (none) ∈ ja_all := (ja_m2 171 rfl rfl)
theorem in_Gi_place : Cond.instanceMethod y_Gi_place ∈ ja_all := (ja_m2 169 rfl rfl)
theorem se_Gi_place : Cond.selects "WordJudge$Given" y_Gi_place y_Gi_place ∈ ja_all := (ja_m2 170 rfl rfl)
theorem k_Gi_has : Cond.code y_Gi_has b_Gi_has 3 (some .boolean) ∈ ja_all := (ja_m2 175 rfl rfl)
theorem in_Gi_has : Cond.instanceMethod y_Gi_has ∈ ja_all := (ja_m2 173 rfl rfl)
theorem se_Gi_has : Cond.selects "WordJudge$Given" y_Gi_has y_Gi_has ∈ ja_all := (ja_m2 174 rfl rfl)
theorem k_Gi_octet : Cond.code y_Gi_octet b_Gi_octet 3 (some .int) ∈ ja_all := (ja_m4 172 rfl rfl)
theorem in_Gi_octet : Cond.instanceMethod y_Gi_octet ∈ ja_all := (ja_m4 170 rfl rfl)
theorem se_Gi_octet : Cond.selects "WordJudge$Given" y_Gi_octet y_Gi_octet ∈ ja_all := (ja_m4 171 rfl rfl)
theorem k_Ju_init : Cond.code y_Ju_init b_Ju_init 1 (none) ∈ ja_all := (ja_m1 135 rfl rfl)
theorem in_Ju_init : Cond.instanceMethod y_Ju_init ∈ ja_all := (ja_m1 134 rfl rfl)
theorem k_Ju_isComeTo : Cond.code y_Ju_isComeTo b_Ju_isComeTo 2 (some .boolean) ∈ ja_all := (ja_m3 97 rfl rfl)
theorem in_Ju_isComeTo : Cond.instanceMethod y_Ju_isComeTo ∈ ja_all := (ja_m3 95 rfl rfl)
theorem se_Ju_isComeTo : Cond.selects "WordJudge$Judge" y_Ju_isComeTo y_Ju_isComeTo ∈ ja_all := (ja_m3 96 rfl rfl)
theorem k_Ju_tell : Cond.code y_Ju_tell b_Ju_tell 4 (some .long) ∈ ja_all := (ja_m4 109 rfl rfl)
theorem in_Ju_tell : Cond.instanceMethod y_Ju_tell ∈ ja_all := (ja_m4 107 rfl rfl)
theorem se_Ju_tell : Cond.selects "WordJudge$Judge" y_Ju_tell y_Ju_tell ∈ ja_all := (ja_m4 108 rfl rfl)
theorem k_Ju_examine : Cond.code y_Ju_examine b_Ju_examine 5 (some .int) ∈ ja_all := (ja_m3 46 rfl rfl)
theorem in_Ju_examine : Cond.instanceMethod y_Ju_examine ∈ ja_all := (ja_m3 44 rfl rfl)
theorem se_Ju_examine : Cond.selects "WordJudge$Judge" y_Ju_examine y_Ju_examine ∈ ja_all := (ja_m3 45 rfl rfl)
theorem k_Ju_begin : Cond.code y_Ju_begin b_Ju_begin 4 (none) ∈ ja_all := (ja_m3 50 rfl rfl)
theorem in_Ju_begin : Cond.instanceMethod y_Ju_begin ∈ ja_all := (ja_m3 49 rfl rfl)
theorem se_Ju_begin : Cond.selects "WordJudge$Judge" y_Ju_begin y_Ju_begin ∈ ja_all := (ja_mp 9 rfl rfl)
theorem k_Ju_flowTo : Cond.code y_Ju_flowTo b_Ju_flowTo 2 (none) ∈ ja_all := (ja_m3 64 rfl rfl)
theorem in_Ju_flowTo : Cond.instanceMethod y_Ju_flowTo ∈ ja_all := (ja_m3 63 rfl rfl)
theorem se_Ju_flowTo : Cond.selects "WordJudge$Judge" y_Ju_flowTo y_Ju_flowTo ∈ ja_all := (ja_mp 10 rfl rfl)
theorem k_Ju_examineWord : Cond.code y_Ju_examineWord b_Ju_examineWord 5 (some .int) ∈ ja_all := (ja_m3 103 rfl rfl)
theorem in_Ju_examineWord : Cond.instanceMethod y_Ju_examineWord ∈ ja_all := (ja_m3 102 rfl rfl)
theorem se_Ju_examineWord : Cond.selects "WordJudge$Judge" y_Ju_examineWord y_Ju_examineWord ∈ ja_all := (ja_mp 14 rfl rfl)
theorem k_Ju_goOn : Cond.code y_Ju_goOn b_Ju_goOn 2 (none) ∈ ja_all := (ja_m4 92 rfl rfl)
theorem in_Ju_goOn : Cond.instanceMethod y_Ju_goOn ∈ ja_all := (ja_m4 91 rfl rfl)
theorem se_Ju_goOn : Cond.selects "WordJudge$Judge" y_Ju_goOn y_Ju_goOn ∈ ja_all := (ja_mp 28 rfl rfl)
theorem k_Ju_loadRight : Cond.code y_Ju_loadRight b_Ju_loadRight 1 (none) ∈ ja_all := (ja_m3 115 rfl rfl)
theorem in_Ju_loadRight : Cond.instanceMethod y_Ju_loadRight ∈ ja_all := (ja_m3 114 rfl rfl)
theorem se_Ju_loadRight : Cond.selects "WordJudge$Judge" y_Ju_loadRight y_Ju_loadRight ∈ ja_all := (ja_mp 15 rfl rfl)
theorem k_Ju_examineArithmetic : Cond.code y_Ju_examineArithmetic b_Ju_examineArithmetic 1 (some .int) ∈ ja_all := (ja_m3 170 rfl rfl)
theorem in_Ju_examineArithmetic : Cond.instanceMethod y_Ju_examineArithmetic ∈ ja_all := (ja_m3 169 rfl rfl)
theorem se_Ju_examineArithmetic : Cond.selects "WordJudge$Judge" y_Ju_examineArithmetic y_Ju_examineArithmetic ∈ ja_all := (ja_mp 20 rfl rfl)
theorem k_Ju_move : Cond.code y_Ju_move b_Ju_move 1 (some .int) ∈ ja_all := (ja_m3 174 rfl rfl)
theorem in_Ju_move : Cond.instanceMethod y_Ju_move ∈ ja_all := (ja_m3 173 rfl rfl)
theorem se_Ju_move : Cond.selects "WordJudge$Judge" y_Ju_move y_Ju_move ∈ ja_all := (ja_mp 21 rfl rfl)
theorem k_Ju_movePointer : Cond.code y_Ju_movePointer b_Ju_movePointer 9 (some .int) ∈ ja_all := (ja_m3 192 rfl rfl)
theorem in_Ju_movePointer : Cond.instanceMethod y_Ju_movePointer ∈ ja_all := (ja_m3 191 rfl rfl)
theorem se_Ju_movePointer : Cond.selects "WordJudge$Judge" y_Ju_movePointer y_Ju_movePointer ∈ ja_all := (ja_mp 22 rfl rfl)
theorem k_Ju_examineCondition : Cond.code y_Ju_examineCondition b_Ju_examineCondition 2 (some .int) ∈ ja_all := (ja_m3 129 rfl rfl)
theorem in_Ju_examineCondition : Cond.instanceMethod y_Ju_examineCondition ∈ ja_all := (ja_m3 128 rfl rfl)
theorem se_Ju_examineCondition : Cond.selects "WordJudge$Judge" y_Ju_examineCondition y_Ju_examineCondition ∈ ja_all := (ja_mp 16 rfl rfl)
theorem k_Ju_narrowD : Cond.code y_Ju_narrowD b_Ju_narrowD 3 (some .boolean) ∈ ja_all := (ja_m3 137 rfl rfl)
theorem in_Ju_narrowD : Cond.instanceMethod y_Ju_narrowD ∈ ja_all := (ja_m3 136 rfl rfl)
theorem se_Ju_narrowD : Cond.selects "WordJudge$Judge" y_Ju_narrowD y_Ju_narrowD ∈ ja_all := (ja_mp 17 rfl rfl)
theorem k_Ju_examineReach : Cond.code y_Ju_examineReach b_Ju_examineReach 8 (some .int) ∈ ja_all := (ja_m4 42 rfl rfl)
theorem in_Ju_examineReach : Cond.instanceMethod y_Ju_examineReach ∈ ja_all := (ja_m4 41 rfl rfl)
theorem se_Ju_examineReach : Cond.selects "WordJudge$Judge" y_Ju_examineReach y_Ju_examineReach ∈ ja_all := (ja_mp 24 rfl rfl)
theorem k_Ju_octetAt : Cond.code y_Ju_octetAt b_Ju_octetAt 2 (some .int) ∈ ja_all := (ja_m4 52 rfl rfl)
theorem in_Ju_octetAt : Cond.instanceMethod y_Ju_octetAt ∈ ja_all := (ja_m4 51 rfl rfl)
theorem se_Ju_octetAt : Cond.selects "WordJudge$Judge" y_Ju_octetAt y_Ju_octetAt ∈ ja_all := (ja_mp 25 rfl rfl)
theorem k_Ju_examineReading : Cond.code y_Ju_examineReading b_Ju_examineReading 5 (some .int) ∈ ja_all := (ja_m4 38 rfl rfl)
theorem in_Ju_examineReading : Cond.instanceMethod y_Ju_examineReading ∈ ja_all := (ja_m4 37 rfl rfl)
theorem se_Ju_examineReading : Cond.selects "WordJudge$Judge" y_Ju_examineReading y_Ju_examineReading ∈ ja_all := (ja_mp 23 rfl rfl)
theorem k_Ju_examineStoring : Cond.code y_Ju_examineStoring b_Ju_examineStoring 5 (some .int) ∈ ja_all := (ja_m4 70 rfl rfl)
theorem in_Ju_examineStoring : Cond.instanceMethod y_Ju_examineStoring ∈ ja_all := (ja_m4 69 rfl rfl)
theorem se_Ju_examineStoring : Cond.selects "WordJudge$Judge" y_Ju_examineStoring y_Ju_examineStoring ∈ ja_all := (ja_mp 26 rfl rfl)
theorem k_Ma_init : Cond.code y_Ma_init b_Ma_init 1 (none) ∈ ja_all := (ja_m1 224 rfl rfl)
theorem in_Ma_init : Cond.instanceMethod y_Ma_init ∈ ja_all := (ja_m1 223 rfl rfl)
theorem k_Ma_execute : Cond.code y_Ma_execute b_Ma_execute 6 (some .long) ∈ ja_all := (ja_m4 120 rfl rfl)
theorem in_Ma_execute : Cond.instanceMethod y_Ma_execute ∈ ja_all := (ja_m4 118 rfl rfl)
theorem se_Ma_execute : Cond.selects "WordJudge$Machine" y_Ma_execute y_Ma_execute ∈ ja_all := (ja_m4 119 rfl rfl)
theorem k_Ma_begin : Cond.code y_Ma_begin b_Ma_begin 2 (none) ∈ ja_all := (ja_m4 124 rfl rfl)
theorem in_Ma_begin : Cond.instanceMethod y_Ma_begin ∈ ja_all := (ja_m4 123 rfl rfl)
theorem se_Ma_begin : Cond.selects "WordJudge$Machine" y_Ma_begin y_Ma_begin ∈ ja_all := (ja_mp 29 rfl rfl)
theorem k_Ma_step : Cond.code y_Ma_step b_Ma_step 5 (some .int) ∈ ja_all := (ja_m4 136 rfl rfl)
theorem in_Ma_step : Cond.instanceMethod y_Ma_step ∈ ja_all := (ja_m4 135 rfl rfl)
theorem se_Ma_step : Cond.selects "WordJudge$Machine" y_Ma_step y_Ma_step ∈ ja_all := (ja_mp 31 rfl rfl)
theorem k_Ma_use : Cond.code y_Ma_use b_Ma_use 2 (some .long) ∈ ja_all := (ja_m4 141 rfl rfl)
theorem in_Ma_use : Cond.instanceMethod y_Ma_use ∈ ja_all := (ja_m4 140 rfl rfl)
theorem se_Ma_use : Cond.selects "WordJudge$Machine" y_Ma_use y_Ma_use ∈ ja_all := (ja_mp 32 rfl rfl)
theorem k_Ma_useRight : Cond.code y_Ma_useRight b_Ma_useRight 1 (some .long) ∈ ja_all := (ja_m4 145 rfl rfl)
theorem in_Ma_useRight : Cond.instanceMethod y_Ma_useRight ∈ ja_all := (ja_m4 144 rfl rfl)
theorem se_Ma_useRight : Cond.selects "WordJudge$Machine" y_Ma_useRight y_Ma_useRight ∈ ja_all := (ja_mp 33 rfl rfl)
theorem k_Ma_give : Cond.code y_Ma_give b_Ma_give 4 (none) ∈ ja_all := (ja_m4 129 rfl rfl)
theorem in_Ma_give : Cond.instanceMethod y_Ma_give ∈ ja_all := (ja_m4 128 rfl rfl)
theorem se_Ma_give : Cond.selects "WordJudge$Machine" y_Ma_give y_Ma_give ∈ ja_all := (ja_mp 30 rfl rfl)
theorem k_Ma_read : Cond.code y_Ma_read b_Ma_read 8 (some .long) ∈ ja_all := (ja_m4 163 rfl rfl)
theorem in_Ma_read : Cond.instanceMethod y_Ma_read ∈ ja_all := (ja_m4 162 rfl rfl)
theorem se_Ma_read : Cond.selects "WordJudge$Machine" y_Ma_read y_Ma_read ∈ ja_all := (ja_mp 34 rfl rfl)
theorem k_Ma_readOctet : Cond.code y_Ma_readOctet b_Ma_readOctet 5 (some .int) ∈ ja_all := (ja_m4 167 rfl rfl)
theorem in_Ma_readOctet : Cond.instanceMethod y_Ma_readOctet ∈ ja_all := (ja_m4 166 rfl rfl)
theorem se_Ma_readOctet : Cond.selects "WordJudge$Machine" y_Ma_readOctet y_Ma_readOctet ∈ ja_all := (ja_mp 35 rfl rfl)
theorem k_Ma_write : Cond.code y_Ma_write b_Ma_write 8 (none) ∈ ja_all := (ja_m4 182 rfl rfl)
theorem in_Ma_write : Cond.instanceMethod y_Ma_write ∈ ja_all := (ja_m4 181 rfl rfl)
theorem se_Ma_write : Cond.selects "WordJudge$Machine" y_Ma_write y_Ma_write ∈ ja_all := (ja_mp 37 rfl rfl)
theorem k_Ma_stackIndex : Cond.code y_Ma_stackIndex b_Ma_stackIndex 5 (some .int) ∈ ja_all := (ja_m4 176 rfl rfl)
theorem in_Ma_stackIndex : Cond.instanceMethod y_Ma_stackIndex ∈ ja_all := (ja_m4 175 rfl rfl)
theorem se_Ma_stackIndex : Cond.selects "WordJudge$Machine" y_Ma_stackIndex y_Ma_stackIndex ∈ ja_all := (ja_mp 36 rfl rfl)
theorem k_Nu_reckon : Cond.code y_Nu_reckon b_Nu_reckon 5 (none) ∈ ja_all := (ja_m3 200 rfl rfl)
theorem sc_Nu_reckon : Cond.static y_Nu_reckon ∈ ja_all := (ja_m3 199 rfl rfl)
theorem k_Nu_takeLowest32 : Cond.code y_Nu_takeLowest32 b_Nu_takeLowest32 1 (none) ∈ ja_all := (ja_m3 181 rfl rfl)
theorem sc_Nu_takeLowest32 : Cond.static y_Nu_takeLowest32 ∈ ja_all := (ja_m3 180 rfl rfl)
theorem k_Nu_reckonSpans : Cond.code y_Nu_reckonSpans b_Nu_reckonSpans 3 (none) ∈ ja_all := (ja_m3 223 rfl rfl)
theorem sc_Nu_reckonSpans : Cond.static y_Nu_reckonSpans ∈ ja_all := (ja_m3 222 rfl rfl)
theorem k_Nu_add : Cond.code y_Nu_add b_Nu_add 2 (none) ∈ ja_all := (ja_m3 226 rfl rfl)
theorem sc_Nu_add : Cond.static y_Nu_add ∈ ja_all := (ja_m3 225 rfl rfl)
theorem k_Nu_subtract : Cond.code y_Nu_subtract b_Nu_subtract 2 (none) ∈ ja_all := (ja_m3 236 rfl rfl)
theorem sc_Nu_subtract : Cond.static y_Nu_subtract ∈ ja_all := (ja_m3 235 rfl rfl)
theorem k_Nu_multiply : Cond.code y_Nu_multiply b_Nu_multiply 10 (none) ∈ ja_all := (ja_m4 2 rfl rfl)
theorem sc_Nu_multiply : Cond.static y_Nu_multiply ∈ ja_all := (ja_m4 1 rfl rfl)
theorem k_Nu_divide : Cond.code y_Nu_divide b_Nu_divide 2 (none) ∈ ja_all := (ja_m4 12 rfl rfl)
theorem sc_Nu_divide : Cond.static y_Nu_divide ∈ ja_all := (ja_m4 11 rfl rfl)
theorem k_Nu_leaveOver : Cond.code y_Nu_leaveOver b_Nu_leaveOver 2 (none) ∈ ja_all := (ja_m4 15 rfl rfl)
theorem sc_Nu_leaveOver : Cond.static y_Nu_leaveOver ∈ ja_all := (ja_m4 14 rfl rfl)
theorem k_Nu_and : Cond.code y_Nu_and b_Nu_and 2 (none) ∈ ja_all := (ja_m4 18 rfl rfl)
theorem sc_Nu_and : Cond.static y_Nu_and ∈ ja_all := (ja_m4 17 rfl rfl)
theorem k_Nu_or : Cond.code y_Nu_or b_Nu_or 7 (none) ∈ ja_all := (ja_m4 21 rfl rfl)
theorem sc_Nu_or : Cond.static y_Nu_or ∈ ja_all := (ja_m4 20 rfl rfl)
theorem k_Nu_shiftLeft : Cond.code y_Nu_shiftLeft b_Nu_shiftLeft 4 (none) ∈ ja_all := (ja_m4 24 rfl rfl)
theorem sc_Nu_shiftLeft : Cond.static y_Nu_shiftLeft ∈ ja_all := (ja_m4 23 rfl rfl)
theorem k_Nu_shiftRight : Cond.code y_Nu_shiftRight b_Nu_shiftRight 5 (none) ∈ ja_all := (ja_m4 27 rfl rfl)
theorem sc_Nu_shiftRight : Cond.static y_Nu_shiftRight ∈ ja_all := (ja_m4 26 rfl rfl)
theorem k_Nu_negate : Cond.code y_Nu_negate b_Nu_negate 1 (none) ∈ ja_all := (ja_m4 31 rfl rfl)
theorem sc_Nu_negate : Cond.static y_Nu_negate ∈ ja_all := (ja_m4 30 rfl rfl)
theorem k_Nu_turn : Cond.code y_Nu_turn b_Nu_turn 2 (none) ∈ ja_all := (ja_m4 34 rfl rfl)
theorem sc_Nu_turn : Cond.static y_Nu_turn ∈ ja_all := (ja_m4 33 rfl rfl)
theorem k_Nu_sumFits : Cond.code y_Nu_sumFits b_Nu_sumFits 4 (some .boolean) ∈ ja_all := (ja_m3 229 rfl rfl)
theorem sc_Nu_sumFits : Cond.static y_Nu_sumFits ∈ ja_all := (ja_m3 228 rfl rfl)
theorem k_Nu_differenceFits : Cond.code y_Nu_differenceFits b_Nu_differenceFits 4 (some .boolean) ∈ ja_all := (ja_m3 239 rfl rfl)
theorem sc_Nu_differenceFits : Cond.static y_Nu_differenceFits ∈ ja_all := (ja_m3 238 rfl rfl)
theorem k_Nu_productFits : Cond.code y_Nu_productFits b_Nu_productFits 4 (some .boolean) ∈ ja_all := (ja_m4 5 rfl rfl)
theorem sc_Nu_productFits : Cond.static y_Nu_productFits ∈ ja_all := (ja_m4 4 rfl rfl)
theorem k_St_init : Cond.code y_St_init b_St_init 1 (none) ∈ ja_all := (ja_m1 142 rfl rfl)
theorem in_St_init : Cond.instanceMethod y_St_init ∈ ja_all := (ja_m1 141 rfl rfl)
theorem k_St_begin : Cond.code y_St_begin b_St_begin 1 (none) ∈ ja_all := (ja_m3 54 rfl rfl)
theorem in_St_begin : Cond.instanceMethod y_St_begin ∈ ja_all := (ja_m3 52 rfl rfl)
theorem se_St_begin : Cond.selects "WordJudge$State" y_St_begin y_St_begin ∈ ja_all := (ja_m3 53 rfl rfl)
theorem k_St_copy : Cond.code y_St_copy b_St_copy 2 (none) ∈ ja_all := (ja_m3 90 rfl rfl)
theorem in_St_copy : Cond.instanceMethod y_St_copy ∈ ja_all := (ja_m3 88 rfl rfl)
theorem se_St_copy : Cond.selects "WordJudge$State" y_St_copy y_St_copy ∈ ja_all := (ja_m3 89 rfl rfl)
theorem k_St_join : Cond.code y_St_join b_St_join 3 (none) ∈ ja_all := (ja_m3 68 rfl rfl)
theorem in_St_join : Cond.instanceMethod y_St_join ∈ ja_all := (ja_m3 66 rfl rfl)
theorem se_St_join : Cond.selects "WordJudge$State" y_St_join y_St_join ∈ ja_all := (ja_m3 67 rfl rfl)
theorem k_St_joinCell : Cond.code y_St_joinCell b_St_joinCell 4 (none) ∈ ja_all := (ja_m3 72 rfl rfl)
theorem in_St_joinCell : Cond.instanceMethod y_St_joinCell ∈ ja_all := (ja_m3 71 rfl rfl)
theorem se_St_joinCell : Cond.selects "WordJudge$State" y_St_joinCell y_St_joinCell ∈ ja_all := (ja_mp 11 rfl rfl)
theorem k_St_points : Cond.code y_St_points b_St_points 2 (some .boolean) ∈ ja_all := (ja_m3 82 rfl rfl)
theorem in_St_points : Cond.instanceMethod y_St_points ∈ ja_all := (ja_m3 81 rfl rfl)
theorem se_St_points : Cond.selects "WordJudge$State" y_St_points y_St_points ∈ ja_all := (ja_mp 12 rfl rfl)
theorem k_St_clear : Cond.code y_St_clear b_St_clear 2 (none) ∈ ja_all := (ja_m3 86 rfl rfl)
theorem in_St_clear : Cond.instanceMethod y_St_clear ∈ ja_all := (ja_m3 85 rfl rfl)
theorem se_St_clear : Cond.selects "WordJudge$State" y_St_clear y_St_clear ∈ ja_all := (ja_mp 13 rfl rfl)
theorem k_St_load : Cond.code y_St_load b_St_load 3 (none) ∈ ja_all := (ja_m3 107 rfl rfl)
theorem in_St_load : Cond.instanceMethod y_St_load ∈ ja_all := (ja_m3 105 rfl rfl)
theorem se_St_load : Cond.selects "WordJudge$State" y_St_load y_St_load ∈ ja_all := (ja_m3 106 rfl rfl)
theorem k_St_save : Cond.code y_St_save b_St_save 3 (none) ∈ ja_all := (ja_m3 161 rfl rfl)
theorem in_St_save : Cond.instanceMethod y_St_save ∈ ja_all := (ja_m3 159 rfl rfl)
theorem se_St_save : Cond.selects "WordJudge$State" y_St_save y_St_save ∈ ja_all := (ja_m3 160 rfl rfl)
theorem k_St_eightAt : Cond.code y_St_eightAt b_St_eightAt 2 (some .int) ∈ ja_all := (ja_m4 57 rfl rfl)
theorem in_St_eightAt : Cond.instanceMethod y_St_eightAt ∈ ja_all := (ja_m4 55 rfl rfl)
theorem se_St_eightAt : Cond.selects "WordJudge$State" y_St_eightAt y_St_eightAt ∈ ja_all := (ja_m4 56 rfl rfl)
theorem k_St_isKept : Cond.code y_St_isKept b_St_isKept 2 (some .boolean) ∈ ja_all := (ja_m4 61 rfl rfl)
theorem in_St_isKept : Cond.instanceMethod y_St_isKept ∈ ja_all := (ja_m4 59 rfl rfl)
theorem se_St_isKept : Cond.selects "WordJudge$State" y_St_isKept y_St_isKept ∈ ja_all := (ja_m4 60 rfl rfl)
theorem k_St_isReadable : Cond.code y_St_isReadable b_St_isReadable 5 (some .boolean) ∈ ja_all := (ja_m4 65 rfl rfl)
theorem in_St_isReadable : Cond.instanceMethod y_St_isReadable ∈ ja_all := (ja_m4 63 rfl rfl)
theorem se_St_isReadable : Cond.selects "WordJudge$State" y_St_isReadable y_St_isReadable ∈ ja_all := (ja_m4 64 rfl rfl)
theorem k_St_keep : Cond.code y_St_keep b_St_keep 3 (none) ∈ ja_all := (ja_m4 74 rfl rfl)
theorem in_St_keep : Cond.instanceMethod y_St_keep ∈ ja_all := (ja_m4 72 rfl rfl)
theorem se_St_keep : Cond.selects "WordJudge$State" y_St_keep y_St_keep ∈ ja_all := (ja_m4 73 rfl rfl)
theorem k_St_store : Cond.code y_St_store b_St_store 4 (none) ∈ ja_all := (ja_m4 79 rfl rfl)
theorem in_St_store : Cond.instanceMethod y_St_store ∈ ja_all := (ja_m4 77 rfl rfl)
theorem se_St_store : Cond.selects "WordJudge$State" y_St_store y_St_store ∈ ja_all := (ja_m4 78 rfl rfl)
theorem k_St_loseKept : Cond.code y_St_loseKept b_St_loseKept 2 (none) ∈ ja_all := (ja_m4 83 rfl rfl)
theorem in_St_loseKept : Cond.instanceMethod y_St_loseKept ∈ ja_all := (ja_m4 82 rfl rfl)
theorem se_St_loseKept : Cond.selects "WordJudge$State" y_St_loseKept y_St_loseKept ∈ ja_all := (ja_mp 27 rfl rfl)
theorem k_Va_init : Cond.code y_Va_init b_Va_init 1 (none) ∈ ja_all := (ja_m1 167 rfl rfl)
theorem in_Va_init : Cond.instanceMethod y_Va_init ∈ ja_all := (ja_m1 166 rfl rfl)
theorem k_Va_become : Cond.code y_Va_become b_Va_become 6 (none) ∈ ja_all := (ja_m3 111 rfl rfl)
theorem in_Va_become : Cond.instanceMethod y_Va_become ∈ ja_all := (ja_m3 109 rfl rfl)
theorem se_Va_become : Cond.selects "WordJudge$Value" y_Va_become y_Va_become ∈ ja_all := (ja_m3 110 rfl rfl)
theorem k_Va_becomeAny : Cond.code y_Va_becomeAny b_Va_becomeAny 1 (none) ∈ ja_all := (ja_m3 233 rfl rfl)
theorem in_Va_becomeAny : Cond.instanceMethod y_Va_becomeAny ∈ ja_all := (ja_m3 231 rfl rfl)
theorem se_Va_becomeAny : Cond.selects "WordJudge$Value" y_Va_becomeAny y_Va_becomeAny ∈ ja_all := (ja_m3 232 rfl rfl)
theorem k_Va_isPointer : Cond.code y_Va_isPointer b_Va_isPointer 1 (some .boolean) ∈ ja_all := (ja_m3 133 rfl rfl)
theorem in_Va_isPointer : Cond.instanceMethod y_Va_isPointer ∈ ja_all := (ja_m3 131 rfl rfl)
theorem se_Va_isPointer : Cond.selects "WordJudge$Value" y_Va_isPointer y_Va_isPointer ∈ ja_all := (ja_m3 132 rfl rfl)
theorem k_Va_isOne : Cond.code y_Va_isOne b_Va_isOne 1 (some .boolean) ∈ ja_all := (ja_m3 141 rfl rfl)
theorem in_Va_isOne : Cond.instanceMethod y_Va_isOne ∈ ja_all := (ja_m3 139 rfl rfl)
theorem se_Va_isOne : Cond.selects "WordJudge$Value" y_Va_isOne y_Va_isOne ∈ ja_all := (ja_m3 140 rfl rfl)
theorem k_Va_isWithin : Cond.code y_Va_isWithin b_Va_isWithin 5 (some .boolean) ∈ ja_all := (ja_m3 188 rfl rfl)
theorem in_Va_isWithin : Cond.instanceMethod y_Va_isWithin ∈ ja_all := (ja_m3 186 rfl rfl)
theorem se_Va_isWithin : Cond.selects "WordJudge$Value" y_Va_isWithin y_Va_isWithin ∈ ja_all := (ja_m3 187 rfl rfl)
theorem k_Va_narrow : Cond.code y_Va_narrow b_Va_narrow 4 (some .boolean) ∈ ja_all := (ja_m3 145 rfl rfl)
theorem in_Va_narrow : Cond.instanceMethod y_Va_narrow ∈ ja_all := (ja_m3 143 rfl rfl)
theorem se_Va_narrow : Cond.selects "WordJudge$Value" y_Va_narrow y_Va_narrow ∈ ja_all := (ja_m3 144 rfl rfl)
theorem k_Va_leaveOut : Cond.code y_Va_leaveOut b_Va_leaveOut 3 (some .boolean) ∈ ja_all := (ja_m3 151 rfl rfl)
theorem in_Va_leaveOut : Cond.instanceMethod y_Va_leaveOut ∈ ja_all := (ja_m3 150 rfl rfl)
theorem se_Va_leaveOut : Cond.selects "WordJudge$Value" y_Va_leaveOut y_Va_leaveOut ∈ ja_all := (ja_mp 18 rfl rfl)
theorem k_Va_narrowSigned : Cond.code y_Va_narrowSigned b_Va_narrowSigned 4 (some .boolean) ∈ ja_all := (ja_m3 155 rfl rfl)
theorem in_Va_narrowSigned : Cond.instanceMethod y_Va_narrowSigned ∈ ja_all := (ja_m3 154 rfl rfl)
theorem se_Va_narrowSigned : Cond.selects "WordJudge$Value" y_Va_narrowSigned y_Va_narrowSigned ∈ ja_all := (ja_mp 19 rfl rfl)
theorem k_Wo_init : Cond.code y_Wo_init b_Wo_init 1 (none) ∈ ja_all := (ja_m1 74 rfl rfl)
theorem in_Wo_init : Cond.instanceMethod y_Wo_init ∈ ja_all := (ja_m1 73 rfl rfl)
theorem k_Wo_take : Cond.code y_Wo_take b_Wo_take 3 (none) ∈ ja_all := (ja_m2 216 rfl rfl)
theorem in_Wo_take : Cond.instanceMethod y_Wo_take ∈ ja_all := (ja_m2 214 rfl rfl)
theorem se_Wo_take : Cond.selects "WordJudge$Word" y_Wo_take y_Wo_take ∈ ja_all := (ja_m2 215 rfl rfl)
theorem k_Wo_findSort : Cond.code y_Wo_findSort b_Wo_findSort 1 (some .int) ∈ ja_all := (ja_m2 220 rfl rfl)
theorem in_Wo_findSort : Cond.instanceMethod y_Wo_findSort ∈ ja_all := (ja_m2 219 rfl rfl)
theorem se_Wo_findSort : Cond.selects "WordJudge$Word" y_Wo_findSort y_Wo_findSort ∈ ja_all := (ja_mp 2 rfl rfl)
theorem k_Wo_movesOctets : Cond.code y_Wo_movesOctets b_Wo_movesOctets 1 (some .boolean) ∈ ja_all := (ja_m2 224 rfl rfl)
theorem in_Wo_movesOctets : Cond.instanceMethod y_Wo_movesOctets ∈ ja_all := (ja_m2 223 rfl rfl)
theorem se_Wo_movesOctets : Cond.selects "WordJudge$Word" y_Wo_movesOctets y_Wo_movesOctets ∈ ja_all := (ja_mp 3 rfl rfl)
theorem k_Wo_reckons : Cond.code y_Wo_reckons b_Wo_reckons 1 (some .boolean) ∈ ja_all := (ja_m2 228 rfl rfl)
theorem in_Wo_reckons : Cond.instanceMethod y_Wo_reckons ∈ ja_all := (ja_m2 227 rfl rfl)
theorem se_Wo_reckons : Cond.selects "WordJudge$Word" y_Wo_reckons y_Wo_reckons ∈ ja_all := (ja_mp 4 rfl rfl)
theorem k_Wo_findSortOfGoing : Cond.code y_Wo_findSortOfGoing b_Wo_findSortOfGoing 2 (some .int) ∈ ja_all := (ja_m2 232 rfl rfl)
theorem in_Wo_findSortOfGoing : Cond.instanceMethod y_Wo_findSortOfGoing ∈ ja_all := (ja_m2 231 rfl rfl)
theorem se_Wo_findSortOfGoing : Cond.selects "WordJudge$Word" y_Wo_findSortOfGoing y_Wo_findSortOfGoing ∈ ja_all := (ja_mp 5 rfl rfl)
theorem k_Wo_goes : Cond.code y_Wo_goes b_Wo_goes 1 (some .boolean) ∈ ja_all := (ja_m3 30 rfl rfl)
theorem in_Wo_goes : Cond.instanceMethod y_Wo_goes ∈ ja_all := (ja_m3 28 rfl rfl)
theorem se_Wo_goes : Cond.selects "WordJudge$Word" y_Wo_goes y_Wo_goes ∈ ja_all := (ja_m3 29 rfl rfl)
theorem k_Wo_stores : Cond.code y_Wo_stores b_Wo_stores 1 (some .boolean) ∈ ja_all := (ja_m3 125 rfl rfl)
theorem in_Wo_stores : Cond.instanceMethod y_Wo_stores ∈ ja_all := (ja_m3 123 rfl rfl)
theorem se_Wo_stores : Cond.selects "WordJudge$Word" y_Wo_stores y_Wo_stores ∈ ja_all := (ja_m3 124 rfl rfl)
theorem k_Wo_isOf32 : Cond.code y_Wo_isOf32 b_Wo_isOf32 1 (some .boolean) ∈ ja_all := (ja_m3 178 rfl rfl)
theorem in_Wo_isOf32 : Cond.instanceMethod y_Wo_isOf32 ∈ ja_all := (ja_m3 176 rfl rfl)
theorem se_Wo_isOf32 : Cond.selects "WordJudge$Word" y_Wo_isOf32 y_Wo_isOf32 ∈ ja_all := (ja_m3 177 rfl rfl)
theorem k_Wo_hasRegisterOperand : Cond.code y_Wo_hasRegisterOperand b_Wo_hasRegisterOperand 1 (some .boolean) ∈ ja_all := (ja_m3 16 rfl rfl)
theorem in_Wo_hasRegisterOperand : Cond.instanceMethod y_Wo_hasRegisterOperand ∈ ja_all := (ja_m3 14 rfl rfl)
theorem se_Wo_hasRegisterOperand : Cond.selects "WordJudge$Word" y_Wo_hasRegisterOperand y_Wo_hasRegisterOperand ∈ ja_all := (ja_m3 15 rfl rfl)
theorem k_Wo_usesD : Cond.code y_Wo_usesD b_Wo_usesD 1 (some .boolean) ∈ ja_all := (ja_m3 21 rfl rfl)
theorem in_Wo_usesD : Cond.instanceMethod y_Wo_usesD ∈ ja_all := (ja_m3 19 rfl rfl)
theorem se_Wo_usesD : Cond.selects "WordJudge$Word" y_Wo_usesD y_Wo_usesD ∈ ja_all := (ja_m3 20 rfl rfl)
theorem k_Wo_usesOldD : Cond.code y_Wo_usesOldD b_Wo_usesOldD 1 (some .boolean) ∈ ja_all := (ja_m3 121 rfl rfl)
theorem in_Wo_usesOldD : Cond.instanceMethod y_Wo_usesOldD ∈ ja_all := (ja_m3 119 rfl rfl)
theorem se_Wo_usesOldD : Cond.selects "WordJudge$Word" y_Wo_usesOldD y_Wo_usesOldD ∈ ja_all := (ja_m3 120 rfl rfl)
theorem k_Wo_getsD : Cond.code y_Wo_getsD b_Wo_getsD 1 (some .boolean) ∈ ja_all := (ja_m3 0 rfl rfl)
theorem in_Wo_getsD : Cond.instanceMethod y_Wo_getsD ∈ ja_all := (ja_m2 238 rfl rfl)
theorem se_Wo_getsD : Cond.selects "WordJudge$Word" y_Wo_getsD y_Wo_getsD ∈ ja_all := (ja_m2 239 rfl rfl)
theorem k_Wo_usesS : Cond.code y_Wo_usesS b_Wo_usesS 1 (some .boolean) ∈ ja_all := (ja_m3 12 rfl rfl)
theorem in_Wo_usesS : Cond.instanceMethod y_Wo_usesS ∈ ja_all := (ja_m3 10 rfl rfl)
theorem se_Wo_usesS : Cond.selects "WordJudge$Word" y_Wo_usesS y_Wo_usesS ∈ ja_all := (ja_m3 11 rfl rfl)
theorem k_Wo_usesOff : Cond.code y_Wo_usesOff b_Wo_usesOff 1 (some .boolean) ∈ ja_all := (ja_m3 25 rfl rfl)
theorem in_Wo_usesOff : Cond.instanceMethod y_Wo_usesOff ∈ ja_all := (ja_m3 23 rfl rfl)
theorem se_Wo_usesOff : Cond.selects "WordJudge$Word" y_Wo_usesOff y_Wo_usesOff ∈ ja_all := (ja_m3 24 rfl rfl)
theorem k_Wo_usesImm : Cond.code y_Wo_usesImm b_Wo_usesImm 1 (some .boolean) ∈ ja_all := (ja_m3 8 rfl rfl)
theorem in_Wo_usesImm : Cond.instanceMethod y_Wo_usesImm ∈ ja_all := (ja_m3 6 rfl rfl)
theorem se_Wo_usesImm : Cond.selects "WordJudge$Word" y_Wo_usesImm y_Wo_usesImm ∈ ja_all := (ja_m3 7 rfl rfl)
theorem k_Wo_size : Cond.code y_Wo_size b_Wo_size 1 (some .int) ∈ ja_all := (ja_m4 48 rfl rfl)
theorem in_Wo_size : Cond.instanceMethod y_Wo_size ∈ ja_all := (ja_m4 46 rfl rfl)
theorem se_Wo_size : Cond.selects "WordJudge$Word" y_Wo_size y_Wo_size ∈ ja_all := (ja_m4 47 rfl rfl)
theorem k_Wo_words : Cond.code y_Wo_words b_Wo_words 1 (some .int) ∈ ja_all := (ja_m3 34 rfl rfl)
theorem in_Wo_words : Cond.instanceMethod y_Wo_words ∈ ja_all := (ja_m3 32 rfl rfl)
theorem se_Wo_words : Cond.selects "WordJudge$Word" y_Wo_words y_Wo_words ∈ ja_all := (ja_m3 33 rfl rfl)
theorem k_Wo_goalFrom : Cond.code y_Wo_goalFrom b_Wo_goalFrom 2 (some .int) ∈ ja_all := (ja_m3 38 rfl rfl)
theorem in_Wo_goalFrom : Cond.instanceMethod y_Wo_goalFrom ∈ ja_all := (ja_m3 36 rfl rfl)
theorem se_Wo_goalFrom : Cond.selects "WordJudge$Word" y_Wo_goalFrom y_Wo_goalFrom ∈ ja_all := (ja_m3 37 rfl rfl)
theorem k_Wo_opposite : Cond.code y_Wo_opposite b_Wo_opposite 1 (some .int) ∈ ja_all := (ja_m3 166 rfl rfl)
theorem in_Wo_opposite : Cond.instanceMethod y_Wo_opposite ∈ ja_all := (ja_m3 164 rfl rfl)
theorem se_Wo_opposite : Cond.selects "WordJudge$Word" y_Wo_opposite y_Wo_opposite ∈ ja_all := (ja_m3 165 rfl rfl)
theorem k_Wo_wideNumber : Cond.code y_Wo_wideNumber b_Wo_wideNumber 3 (some .long) ∈ ja_all := (ja_m4 87 rfl rfl)
theorem in_Wo_wideNumber : Cond.instanceMethod y_Wo_wideNumber ∈ ja_all := (ja_m4 85 rfl rfl)
theorem se_Wo_wideNumber : Cond.selects "WordJudge$Word" y_Wo_wideNumber y_Wo_wideNumber ∈ ja_all := (ja_m4 86 rfl rfl)
theorem k_Lg_divideUnsigned : Cond.code y_Lg_divideUnsigned b_Lg_divideUnsigned 8 (some .long) ∈ ja_all := (ja_m5 191 rfl rfl)
theorem sc_Lg_divideUnsigned : Cond.static y_Lg_divideUnsigned ∈ ja_all := (ja_m5 190 rfl rfl)
theorem k_Lg_remainderUnsigned : Cond.code y_Lg_remainderUnsigned b_Lg_remainderUnsigned 8 (some .long) ∈ ja_all := (ja_m5 195 rfl rfl)
theorem sc_Lg_remainderUnsigned : Cond.static y_Lg_remainderUnsigned ∈ ja_all := (ja_m5 194 rfl rfl)
theorem k_Mt_max_I : Cond.code y_Mt_max_I b_Mt_max_I 2 (some .int) ∈ ja_all := (ja_m2 122 rfl rfl)
theorem sc_Mt_max_I : Cond.static y_Mt_max_I ∈ ja_all := (ja_m2 121 rfl rfl)
theorem k_Mt_max_J : Cond.code y_Mt_max_J b_Mt_max_J 4 (some .long) ∈ ja_all := (ja_m3 78 rfl rfl)
theorem sc_Mt_max_J : Cond.static y_Mt_max_J ∈ ja_all := (ja_m3 77 rfl rfl)
theorem k_Mt_min_J : Cond.code y_Mt_min_J b_Mt_min_J 4 (some .long) ∈ ja_all := (ja_m3 75 rfl rfl)
theorem sc_Mt_min_J : Cond.static y_Mt_min_J ∈ ja_all := (ja_m3 74 rfl rfl)
theorem k_Mt_multiplyHigh : Cond.code y_Mt_multiplyHigh b_Mt_multiplyHigh 20 (some .long) ∈ ja_all := (ja_m5 210 rfl rfl)
theorem sc_Mt_multiplyHigh : Cond.static y_Mt_multiplyHigh ∈ ja_all := (ja_m5 209 rfl rfl)
theorem k_As_fill_I : Cond.code y_As_fill_I b_As_fill_I 4 (none) ∈ ja_all := (ja_m3 57 rfl rfl)
theorem sc_As_fill_I : Cond.static y_As_fill_I ∈ ja_all := (ja_m3 56 rfl rfl)
theorem k_As_fill_J : Cond.code y_As_fill_J b_As_fill_J 5 (none) ∈ ja_all := (ja_m3 60 rfl rfl)
theorem sc_As_fill_J : Cond.static y_As_fill_J ∈ ja_all := (ja_m3 59 rfl rfl)
theorem ac_int : Cond.arrayClass .int ∈ ja_all := (ja_m1 160 rfl rfl)
theorem ac_long : Cond.arrayClass .long ∈ ja_all := (ja_m1 48 rfl rfl)
theorem ac_boolean : Cond.arrayClass .boolean ∈ ja_all := (ja_m1 119 rfl rfl)
theorem ac_byte : Cond.arrayClass .byte ∈ ja_all := (ja_m1 63 rfl rfl)
theorem in_Ob : Cond.instanceMethod objectInit ∈ ja_all := (ja_m1 29 rfl rfl)
theorem k_Ob : Cond.code objectInit ⟨#[0xb1]⟩ 1 none ∈ ja_all := (ja_m1 30 rfl rfl)
theorem Y_n : Cond.native arraycopyName ∈ ja_all := (ja_m3 93 rfl rfl)
theorem Y_s : Cond.static arraycopyName ∈ ja_all := (ja_m3 92 rfl rfl)
theorem Y_i : Cond.initialized "java/lang/System" ∈ ja_all := (ja_m1 19 rfl rfl)
theorem O_WJ_3 : Cond.methodLink "WordJudge" 3 objectInit ∈ ja_all := (ja_m1 28 rfl rfl)
theorem N_WJ_9 : ja_GN "WordJudge" 9 1 := ⟨R_Co, T_Co, 2, rfl, u_Co, d_Co, (ja_m1 31 rfl rfl), (ja_m1 32 rfl rfl), (ja_m1 2 rfl rfl), by decide +kernel⟩
theorem G_WJ_11 : ja_G "WordJudge" 11 y_Co_init b_Co_init 1 (none) 0 (some "WordJudge") := ⟨k_Co_init, (ja_m1 2 rfl rfl), ⟨by decide, by decide, by decide +kernel⟩, List.mem_of_getElem? (i := 0) rfl⟩
theorem F_WJ_12 : ja_F "WordJudge" 12 0 0 2 none := ⟨R_WJ, T_WJ, 7, rfl, by decide, rfl, u_WJ, (ja_m2 15 rfl rfl)⟩
theorem N_WJ_16 : ja_GN "WordJudge" 16 2 := ⟨R_Gi, T_Gi, 2, rfl, u_Gi, d_Gi, (ja_m1 49 rfl rfl), (ja_m1 50 rfl rfl), (ja_m1 3 rfl rfl), by decide +kernel⟩
theorem G_WJ_18 : ja_G "WordJudge" 18 y_Gi_init b_Gi_init 1 (none) 0 (some "WordJudge") := ⟨k_Gi_init, (ja_m1 3 rfl rfl), ⟨by decide, by decide, by decide +kernel⟩, List.mem_of_getElem? (i := 1) rfl⟩
theorem F_WJ_19 : ja_F "WordJudge" 19 0 1 2 none := ⟨R_WJ, T_WJ, 7, rfl, by decide, rfl, u_WJ, (ja_m2 16 rfl rfl)⟩
theorem N_WJ_23 : ja_GN "WordJudge" 23 3 := ⟨R_Fo, T_Fo, 3, rfl, u_Fo, d_Fo, (ja_m1 64 rfl rfl), (ja_m1 65 rfl rfl), (ja_m1 4 rfl rfl), by decide +kernel⟩
theorem G_WJ_25 : ja_G "WordJudge" 25 y_Fo_init b_Fo_init 1 (none) 0 (some "WordJudge") := ⟨k_Fo_init, (ja_m1 4 rfl rfl), ⟨by decide, by decide, by decide +kernel⟩, List.mem_of_getElem? (i := 2) rfl⟩
theorem F_WJ_26 : ja_F "WordJudge" 26 0 2 2 none := ⟨R_WJ, T_WJ, 7, rfl, by decide, rfl, u_WJ, (ja_m2 17 rfl rfl)⟩
theorem N_WJ_30 : ja_GN "WordJudge" 30 5 := ⟨R_Ju, T_Ju, 10, rfl, u_Ju, d_Ju, (ja_m1 131 rfl rfl), (ja_m1 132 rfl rfl), (ja_m1 6 rfl rfl), by decide +kernel⟩
theorem G_WJ_32 : ja_G "WordJudge" 32 y_Ju_init b_Ju_init 1 (none) 0 (some "WordJudge") := ⟨k_Ju_init, (ja_m1 6 rfl rfl), ⟨by decide, by decide, by decide +kernel⟩, List.mem_of_getElem? (i := 4) rfl⟩
theorem F_WJ_33 : ja_F "WordJudge" 33 0 3 2 none := ⟨R_WJ, T_WJ, 7, rfl, by decide, rfl, u_WJ, (ja_m2 18 rfl rfl)⟩
theorem N_WJ_37 : ja_GN "WordJudge" 37 8 := ⟨R_Ma, T_Ma, 8, rfl, u_Ma, d_Ma, (ja_m1 220 rfl rfl), (ja_m1 221 rfl rfl), (ja_m1 9 rfl rfl), by decide +kernel⟩
theorem G_WJ_39 : ja_G "WordJudge" 39 y_Ma_init b_Ma_init 1 (none) 0 (some "WordJudge") := ⟨k_Ma_init, (ja_m1 9 rfl rfl), ⟨by decide, by decide, by decide +kernel⟩, List.mem_of_getElem? (i := 8) rfl⟩
theorem F_WJ_40 : ja_F "WordJudge" 40 0 4 2 none := ⟨R_WJ, T_WJ, 7, rfl, by decide, rfl, u_WJ, (ja_m2 19 rfl rfl)⟩
theorem F_WJ_44 : ja_F "WordJudge" 44 0 5 0 none := ⟨R_WJ, T_WJ, 7, rfl, by decide, rfl, u_WJ, (ja_m2 20 rfl rfl)⟩
theorem F_WJ_48 : ja_F "WordJudge" 48 0 6 0 none := ⟨R_WJ, T_WJ, 7, rfl, by decide, rfl, u_WJ, (ja_m2 21 rfl rfl)⟩
theorem F_WJ_52 : ja_F "WordJudge" 52 1 1 0 (some "WordJudge") := ⟨R_Co, T_Co, 2, rfl, by decide, rfl, u_Co, List.mem_of_getElem? (i := 1) rfl⟩
theorem G_WJ_62 : ja_G "WordJudge" 62 y_Co_replace b_Co_replace 4 (none) 2 none := ⟨k_Co_replace, (ja_m1 2 rfl rfl), ⟨by decide, by decide, by decide +kernel⟩, (ja_m2 116 rfl rfl)⟩
theorem F_WJ_73 : ja_F "WordJudge" 73 2 1 0 (some "WordJudge") := ⟨R_Gi, T_Gi, 2, rfl, by decide, rfl, u_Gi, List.mem_of_getElem? (i := 4) rfl⟩
theorem G_WJ_74 : ja_G "WordJudge" 74 y_Gi_resize b_Gi_resize 3 (none) 1 none := ⟨k_Gi_resize, (ja_m1 3 rfl rfl), ⟨by decide, by decide, by decide +kernel⟩, (ja_m2 155 rfl rfl)⟩
theorem G_WJ_80 : ja_G "WordJudge" 80 y_Gi_place b_Gi_place 5 (none) 2 none := ⟨k_Gi_place, (ja_m1 3 rfl rfl), ⟨by decide, by decide, by decide +kernel⟩, (ja_m2 168 rfl rfl)⟩
theorem G_WJ_88 : ja_G "WordJudge" 88 y_Fo_examine b_Fo_examine 4 (some .int) 1 none := ⟨k_Fo_examine, (ja_m1 4 rfl rfl), ⟨by decide, by decide, by decide +kernel⟩, (ja_m2 201 rfl rfl)⟩
theorem F_WJ_92 : ja_F "WordJudge" 92 3 2 0 (some "WordJudge") := ⟨R_Fo, T_Fo, 3, rfl, by decide, rfl, u_Fo, List.mem_of_getElem? (i := 26) rfl⟩
theorem G_WJ_93 : ja_G "WordJudge" 93 y_Ju_examine b_Ju_examine 5 (some .int) 2 none := ⟨k_Ju_examine, (ja_m1 6 rfl rfl), ⟨by decide, by decide, by decide +kernel⟩, (ja_m3 43 rfl rfl)⟩
theorem F_WJ_96 : ja_F "WordJudge" 96 5 9 0 (some "WordJudge") := ⟨R_Ju, T_Ju, 10, rfl, by decide, rfl, u_Ju, List.mem_of_getElem? (i := 37) rfl⟩
theorem G_WJ_101 : ja_G "WordJudge" 101 y_Ju_isComeTo b_Ju_isComeTo 2 (some .boolean) 1 none := ⟨k_Ju_isComeTo, (ja_m1 6 rfl rfl), ⟨by decide, by decide, by decide +kernel⟩, (ja_m4 104 rfl rfl)⟩
theorem G_WJ_107 : ja_G "WordJudge" 107 y_Ju_tell b_Ju_tell 4 (some .long) 3 none := ⟨k_Ju_tell, (ja_m1 6 rfl rfl), ⟨by decide, by decide, by decide +kernel⟩, (ja_m4 106 rfl rfl)⟩
theorem G_WJ_111 : ja_G "WordJudge" 111 y_Ma_execute b_Ma_execute 6 (some .long) 2 none := ⟨k_Ma_execute, (ja_m1 9 rfl rfl), ⟨by decide, by decide, by decide +kernel⟩, (ja_m4 117 rfl rfl)⟩
theorem F_WJ_115 : ja_F "WordJudge" 115 8 5 0 (some "WordJudge") := ⟨R_Ma, T_Ma, 8, rfl, by decide, rfl, u_Ma, List.mem_of_getElem? (i := 38) rfl⟩
theorem F_WJ_118 : ja_F "WordJudge" 118 5 8 0 (some "WordJudge") := ⟨R_Ju, T_Ju, 10, rfl, by decide, rfl, u_Ju, List.mem_of_getElem? (i := 36) rfl⟩
theorem F_WJ_121 : ja_F "WordJudge" 121 8 6 0 (some "WordJudge") := ⟨R_Ma, T_Ma, 8, rfl, by decide, rfl, u_Ma, List.mem_of_getElem? (i := 39) rfl⟩
theorem O_Mo_3 : Cond.methodLink "WordJudgeModel" 3 objectInit ∈ ja_all := (ja_m4 197 rfl rfl)
theorem F_Mo_9 : ja_F "WordJudgeModel" 9 9 1 2 none := ⟨R_Mo, T_Mo, 23, rfl, by decide, rfl, u_Mo, (ja_m4 201 rfl rfl)⟩
theorem F_Mo_13 : ja_F "WordJudgeModel" 13 9 3 2 none := ⟨R_Mo, T_Mo, 23, rfl, by decide, rfl, u_Mo, (ja_m4 203 rfl rfl)⟩
theorem F_Mo_17 : ja_F "WordJudgeModel" 17 9 4 2 none := ⟨R_Mo, T_Mo, 23, rfl, by decide, rfl, u_Mo, (ja_m4 204 rfl rfl)⟩
theorem F_Mo_20 : ja_F "WordJudgeModel" 20 9 7 0 none := ⟨R_Mo, T_Mo, 23, rfl, by decide, rfl, u_Mo, (ja_m4 207 rfl rfl)⟩
theorem F_Mo_24 : ja_F "WordJudgeModel" 24 9 8 2 none := ⟨R_Mo, T_Mo, 23, rfl, by decide, rfl, u_Mo, (ja_m4 208 rfl rfl)⟩
theorem K_Mo_28 : Cond.constant "WordJudgeModel" 28 76950 ∈ ja_all := (ja_m4 198 rfl rfl)
theorem F_Mo_29 : ja_F "WordJudgeModel" 29 9 10 2 none := ⟨R_Mo, T_Mo, 23, rfl, by decide, rfl, u_Mo, (ja_m4 210 rfl rfl)⟩
theorem F_Mo_33 : ja_F "WordJudgeModel" 33 9 11 2 none := ⟨R_Mo, T_Mo, 23, rfl, by decide, rfl, u_Mo, (ja_m4 211 rfl rfl)⟩
theorem F_Mo_36 : ja_F "WordJudgeModel" 36 9 12 2 none := ⟨R_Mo, T_Mo, 23, rfl, by decide, rfl, u_Mo, (ja_m4 212 rfl rfl)⟩
theorem K_Mo_39 : Cond.constant "WordJudgeModel" 39 525312 ∈ ja_all := (ja_m4 199 rfl rfl)
theorem F_Mo_40 : ja_F "WordJudgeModel" 40 9 13 2 none := ⟨R_Mo, T_Mo, 23, rfl, by decide, rfl, u_Mo, (ja_m4 213 rfl rfl)⟩
theorem F_Mo_43 : ja_F "WordJudgeModel" 43 9 17 2 none := ⟨R_Mo, T_Mo, 23, rfl, by decide, rfl, u_Mo, (ja_m4 217 rfl rfl)⟩
theorem F_Mo_46 : ja_F "WordJudgeModel" 46 9 18 2 none := ⟨R_Mo, T_Mo, 23, rfl, by decide, rfl, u_Mo, (ja_m4 218 rfl rfl)⟩
theorem F_Mo_49 : ja_F "WordJudgeModel" 49 9 19 2 none := ⟨R_Mo, T_Mo, 23, rfl, by decide, rfl, u_Mo, (ja_m4 219 rfl rfl)⟩
theorem F_Mo_52 : ja_F "WordJudgeModel" 52 9 20 2 none := ⟨R_Mo, T_Mo, 23, rfl, by decide, rfl, u_Mo, (ja_m4 220 rfl rfl)⟩
theorem F_Mo_55 : ja_F "WordJudgeModel" 55 9 21 2 none := ⟨R_Mo, T_Mo, 23, rfl, by decide, rfl, u_Mo, (ja_m4 221 rfl rfl)⟩
theorem F_Mo_58 : ja_F "WordJudgeModel" 58 9 22 2 none := ⟨R_Mo, T_Mo, 23, rfl, by decide, rfl, u_Mo, (ja_m4 222 rfl rfl)⟩
theorem F_Mo_61 : ja_F "WordJudgeModel" 61 9 0 0 none := ⟨R_Mo, T_Mo, 23, rfl, by decide, rfl, u_Mo, (ja_m4 200 rfl rfl)⟩
theorem F_Mo_64 : ja_F "WordJudgeModel" 64 9 2 0 none := ⟨R_Mo, T_Mo, 23, rfl, by decide, rfl, u_Mo, (ja_m4 202 rfl rfl)⟩
theorem G_Mo_67 : ja_G "WordJudgeModel" 67 y_Mo_fails b_Mo_fails 3 (some .boolean) 2 none := ⟨k_Mo_fails, (ja_m1 10 rfl rfl), ⟨by decide, by decide, by decide +kernel⟩, (ja_m5 38 rfl rfl)⟩
theorem F_Mo_71 : ja_F "WordJudgeModel" 71 9 5 0 none := ⟨R_Mo, T_Mo, 23, rfl, by decide, rfl, u_Mo, (ja_m4 205 rfl rfl)⟩
theorem F_Mo_75 : ja_F "WordJudgeModel" 75 9 9 0 none := ⟨R_Mo, T_Mo, 23, rfl, by decide, rfl, u_Mo, (ja_m4 209 rfl rfl)⟩
theorem G_Mo_78 : ja_G "WordJudgeModel" 78 y_Mo_op b_Mo_op 2 (some .int) 1 none := ⟨k_Mo_op, (ja_m1 10 rfl rfl), ⟨by decide, by decide, by decide +kernel⟩, (ja_m5 58 rfl rfl)⟩
theorem G_Mo_82 : ja_G "WordJudgeModel" 82 y_Mo_reads b_Mo_reads 1 (some .boolean) 1 none := ⟨k_Mo_reads, (ja_m1 10 rfl rfl), ⟨by decide, by decide, by decide +kernel⟩, (ja_m5 70 rfl rfl)⟩
theorem G_Mo_86 : ja_G "WordJudgeModel" 86 y_Mo_stores b_Mo_stores 1 (some .boolean) 1 none := ⟨k_Mo_stores, (ja_m1 10 rfl rfl), ⟨by decide, by decide, by decide +kernel⟩, (ja_m5 73 rfl rfl)⟩
theorem G_Mo_89 : ja_G "WordJudgeModel" 89 y_Mo_storesNumber b_Mo_storesNumber 1 (some .boolean) 1 none := ⟨k_Mo_storesNumber, (ja_m1 10 rfl rfl), ⟨by decide, by decide, by decide +kernel⟩, (ja_m5 76 rfl rfl)⟩
theorem G_Mo_92 : ja_G "WordJudgeModel" 92 y_Mo_imm b_Mo_imm 2 (some .int) 1 none := ⟨k_Mo_imm, (ja_m1 10 rfl rfl), ⟨by decide, by decide, by decide +kernel⟩, (ja_m5 79 rfl rfl)⟩
theorem G_Mo_95 : ja_G "WordJudgeModel" 95 y_Mo_sum b_Mo_sum 1 (some .boolean) 1 none := ⟨k_Mo_sum, (ja_m1 10 rfl rfl), ⟨by decide, by decide, by decide +kernel⟩, (ja_m5 95 rfl rfl)⟩
theorem G_Mo_98 : ja_G "WordJudgeModel" 98 y_Mo_test b_Mo_test 1 (some .boolean) 1 none := ⟨k_Mo_test, (ja_m1 10 rfl rfl), ⟨by decide, by decide, by decide +kernel⟩, (ja_m5 101 rfl rfl)⟩
theorem G_Mo_101 : ja_G "WordJudgeModel" 101 y_Mo_go b_Mo_go 1 (some .boolean) 1 none := ⟨k_Mo_go, (ja_m1 10 rfl rfl), ⟨by decide, by decide, by decide +kernel⟩, (ja_m5 98 rfl rfl)⟩
theorem G_Mo_104 : ja_G "WordJudgeModel" 104 y_Mo_isOne b_Mo_isOne 4 (some .boolean) 1 none := ⟨k_Mo_isOne, (ja_m1 10 rfl rfl), ⟨by decide, by decide, by decide +kernel⟩, (ja_m5 66 rfl rfl)⟩
theorem G_Mo_107 : ja_G "WordJudgeModel" 107 y_Mo_d b_Mo_d 2 (some .int) 1 none := ⟨k_Mo_d, (ja_m1 10 rfl rfl), ⟨by decide, by decide, by decide +kernel⟩, (ja_m5 83 rfl rfl)⟩
theorem G_Mo_110 : ja_G "WordJudgeModel" 110 y_Mo_s b_Mo_s 2 (some .int) 1 none := ⟨k_Mo_s, (ja_m1 10 rfl rfl), ⟨by decide, by decide, by decide +kernel⟩, (ja_m5 87 rfl rfl)⟩
theorem G_Mo_113 : ja_G "WordJudgeModel" 113 y_Mo_getsD b_Mo_getsD 2 (some .boolean) 1 none := ⟨k_Mo_getsD, (ja_m1 10 rfl rfl), ⟨by decide, by decide, by decide +kernel⟩, (ja_m5 91 rfl rfl)⟩
theorem G_Mo_116 : ja_G "WordJudgeModel" 116 y_Mo_usesS b_Mo_usesS 3 (some .boolean) 1 none := ⟨k_Mo_usesS, (ja_m1 10 rfl rfl), ⟨by decide, by decide, by decide +kernel⟩, (ja_m5 104 rfl rfl)⟩
theorem G_Mo_119 : ja_G "WordJudgeModel" 119 y_Mo_off b_Mo_off 2 (some .int) 1 none := ⟨k_Mo_off, (ja_m1 10 rfl rfl), ⟨by decide, by decide, by decide +kernel⟩, (ja_m5 108 rfl rfl)⟩
theorem K_Mo_122 : Cond.constantLong "WordJudgeModel" 122 4294967295 ∈ ja_all := (ja_m5 112 rfl rfl)
theorem F_Mo_124 : ja_F "WordJudgeModel" 124 9 6 0 none := ⟨R_Mo, T_Mo, 23, rfl, by decide, rfl, u_Mo, (ja_m4 206 rfl rfl)⟩
theorem G_Mo_127 : ja_G "WordJudgeModel" 127 y_Mo_form b_Mo_form 5 (some .int) 1 none := ⟨k_Mo_form, (ja_m1 10 rfl rfl), ⟨by decide, by decide, by decide +kernel⟩, (ja_m5 62 rfl rfl)⟩
theorem G_Mo_130 : ja_G "WordJudgeModel" 130 y_Mo_found b_Mo_found 3 (some .boolean) 2 none := ⟨k_Mo_found, (ja_m1 10 rfl rfl), ⟨by decide, by decide, by decide +kernel⟩, (ja_m5 113 rfl rfl)⟩
theorem G_Mo_134 : ja_G "WordJudgeModel" 134 y_Mo_begin b_Mo_begin 2 (none) 0 none := ⟨k_Mo_begin, (ja_m1 10 rfl rfl), ⟨by decide, by decide, by decide +kernel⟩, (ja_m5 117 rfl rfl)⟩
theorem G_Mo_137 : ja_G "WordJudgeModel" 137 y_Mo_one b_Mo_one 7 (some .int) 1 none := ⟨k_Mo_one, (ja_m1 10 rfl rfl), ⟨by decide, by decide, by decide +kernel⟩, (ja_m5 125 rfl rfl)⟩
theorem G_Mo_140 : ja_G "WordJudgeModel" 140 y_Mo_is b_Mo_is 3 (some .int) 2 none := ⟨k_Mo_is, (ja_m1 10 rfl rfl), ⟨by decide, by decide, by decide +kernel⟩, (ja_m5 133 rfl rfl)⟩
theorem G_Mo_144 : ja_G "WordJudgeModel" 144 y_Mo_give b_Mo_give 8 (none) 5 none := ⟨k_Mo_give, (ja_m1 10 rfl rfl), ⟨by decide, by decide, by decide +kernel⟩, (ja_m5 121 rfl rfl)⟩
theorem G_Mo_148 : ja_G "WordJudgeModel" 148 y_Mo_least b_Mo_least 3 (some .long) 2 none := ⟨k_Mo_least, (ja_m1 10 rfl rfl), ⟨by decide, by decide, by decide +kernel⟩, (ja_m5 149 rfl rfl)⟩
theorem G_Mo_152 : ja_G "WordJudgeModel" 152 y_Mo_most b_Mo_most 3 (some .long) 2 none := ⟨k_Mo_most, (ja_m1 10 rfl rfl), ⟨by decide, by decide, by decide +kernel⟩, (ja_m5 153 rfl rfl)⟩
theorem G_Mo_155 : ja_G "WordJudgeModel" 155 y_Mo_copy b_Mo_copy 4 (none) 2 none := ⟨k_Mo_copy, (ja_m1 10 rfl rfl), ⟨by decide, by decide, by decide +kernel⟩, (ja_m5 145 rfl rfl)⟩
theorem G_Mo_159 : ja_G "WordJudgeModel" 159 y_Mo_pointer b_Mo_pointer 3 (some .boolean) 2 none := ⟨k_Mo_pointer, (ja_m1 10 rfl rfl), ⟨by decide, by decide, by decide +kernel⟩, (ja_m5 157 rfl rfl)⟩
theorem G_Mo_162 : ja_G "WordJudgeModel" 162 y_Mt_min_J b_Mt_min_J 4 (some .long) 2 none := ⟨k_Mt_min_J, (ja_m1 15 rfl rfl), ⟨by decide, by decide, by decide +kernel⟩, (ja_m5 161 rfl rfl)⟩
theorem G_Mo_168 : ja_G "WordJudgeModel" 168 y_Mt_max_J b_Mt_max_J 4 (some .long) 2 none := ⟨k_Mt_max_J, (ja_m1 15 rfl rfl), ⟨by decide, by decide, by decide +kernel⟩, (ja_m5 162 rfl rfl)⟩
theorem G_Mo_171 : ja_G "WordJudgeModel" 171 y_Mo_usesD b_Mo_usesD 3 (some .boolean) 1 none := ⟨k_Mo_usesD, (ja_m1 10 rfl rfl), ⟨by decide, by decide, by decide +kernel⟩, (ja_m5 129 rfl rfl)⟩
theorem G_Mo_174 : ja_G "WordJudgeModel" 174 y_Mo_tested b_Mo_tested 11 (some .int) 1 none := ⟨k_Mo_tested, (ja_m1 10 rfl rfl), ⟨by decide, by decide, by decide +kernel⟩, (ja_m5 137 rfl rfl)⟩
theorem G_Mo_177 : ja_G "WordJudgeModel" 177 y_Mo_summed b_Mo_summed 27 (some .int) 1 none := ⟨k_Mo_summed, (ja_m1 10 rfl rfl), ⟨by decide, by decide, by decide +kernel⟩, (ja_m5 172 rfl rfl)⟩
theorem G_Mo_180 : ja_G "WordJudgeModel" 180 y_Mo_read b_Mo_read 12 (some .int) 1 none := ⟨k_Mo_read, (ja_m1 10 rfl rfl), ⟨by decide, by decide, by decide +kernel⟩, (ja_m5 217 rfl rfl)⟩
theorem G_Mo_183 : ja_G "WordJudgeModel" 183 y_Mo_stored b_Mo_stored 11 (some .int) 1 none := ⟨k_Mo_stored, (ja_m1 10 rfl rfl), ⟨by decide, by decide, by decide +kernel⟩, (ja_m5 229 rfl rfl)⟩
theorem G_Mo_186 : ja_G "WordJudgeModel" 186 y_Mo_comes b_Mo_comes 7 (none) 2 none := ⟨k_Mo_comes, (ja_m1 10 rfl rfl), ⟨by decide, by decide, by decide +kernel⟩, (ja_m5 141 rfl rfl)⟩
theorem K_Mo_189 : Cond.constantLong "WordJudgeModel" 189 (-400000) ∈ ja_all := (ja_m5 176 rfl rfl)
theorem K_Mo_191 : Cond.constantLong "WordJudgeModel" 191 400000 ∈ ja_all := (ja_m5 177 rfl rfl)
theorem K_Mo_193 : Cond.constantLong "WordJudgeModel" 193 (-100000) ∈ ja_all := (ja_m5 178 rfl rfl)
theorem K_Mo_195 : Cond.constantLong "WordJudgeModel" 195 100000 ∈ ja_all := (ja_m5 179 rfl rfl)
theorem G_Mo_197 : ja_G "WordJudgeModel" 197 y_Mo_numbers b_Mo_numbers 33 (none) 5 none := ⟨k_Mo_numbers, (ja_m1 10 rfl rfl), ⟨by decide, by decide, by decide +kernel⟩, (ja_m5 180 rfl rfl)⟩
theorem F_Mo_201 : ja_F "WordJudgeModel" 201 9 16 0 none := ⟨R_Mo, T_Mo, 23, rfl, by decide, rfl, u_Mo, (ja_m4 216 rfl rfl)⟩
theorem G_Mo_204 : ja_G "WordJudgeModel" 204 y_Mt_multiplyHigh b_Mt_multiplyHigh 20 (some .long) 2 none := ⟨k_Mt_multiplyHigh, (ja_m1 15 rfl rfl), ⟨by decide, by decide, by decide +kernel⟩, (ja_m5 208 rfl rfl)⟩
theorem K_Mo_207 : Cond.constantLong "WordJudgeModel" 207 (-9223372036854775808) ∈ ja_all := (ja_m5 168 rfl rfl)
theorem K_Mo_209 : Cond.constantLong "WordJudgeModel" 209 9223372036854775807 ∈ ja_all := (ja_m5 167 rfl rfl)
theorem G_Mo_211 : ja_G "WordJudgeModel" 211 y_Mo_machine b_Mo_machine 16 (some .long) 3 none := ⟨k_Mo_machine, (ja_m1 10 rfl rfl), ⟨by decide, by decide, by decide +kernel⟩, (ja_m5 184 rfl rfl)⟩
theorem G_Mo_215 : ja_G "WordJudgeModel" 215 y_Mo_plus b_Mo_plus 7 (some .long) 2 none := ⟨k_Mo_plus, (ja_m1 10 rfl rfl), ⟨by decide, by decide, by decide +kernel⟩, (ja_m5 196 rfl rfl)⟩
theorem G_Mo_218 : ja_G "WordJudgeModel" 218 y_Mo_minus b_Mo_minus 7 (some .long) 2 none := ⟨k_Mo_minus, (ja_m1 10 rfl rfl), ⟨by decide, by decide, by decide +kernel⟩, (ja_m5 200 rfl rfl)⟩
theorem G_Mo_221 : ja_G "WordJudgeModel" 221 y_Mo_times b_Mo_times 7 (some .long) 2 none := ⟨k_Mo_times, (ja_m1 10 rfl rfl), ⟨by decide, by decide, by decide +kernel⟩, (ja_m5 204 rfl rfl)⟩
theorem G_Mo_224 : ja_G "WordJudgeModel" 224 y_Mo_up b_Mo_up 6 (some .long) 2 none := ⟨k_Mo_up, (ja_m1 10 rfl rfl), ⟨by decide, by decide, by decide +kernel⟩, (ja_m5 212 rfl rfl)⟩
theorem K_Mo_228 : Cond.constantLong "WordJudgeModel" 228 2147483648 ∈ ja_all := (ja_m5 216 rfl rfl)
theorem K_Mo_230 : Cond.constantLong "WordJudgeModel" 230 255 ∈ ja_all := (ja_m5 188 rfl rfl)
theorem G_Mo_232 : ja_G "WordJudgeModel" 232 y_Lg_divideUnsigned b_Lg_divideUnsigned 8 (some .long) 2 none := ⟨k_Lg_divideUnsigned, (ja_m1 22 rfl rfl), ⟨by decide, by decide, by decide +kernel⟩, (ja_m5 189 rfl rfl)⟩
theorem G_Mo_237 : ja_G "WordJudgeModel" 237 y_Lg_remainderUnsigned b_Lg_remainderUnsigned 8 (some .long) 2 none := ⟨k_Lg_remainderUnsigned, (ja_m1 22 rfl rfl), ⟨by decide, by decide, by decide +kernel⟩, (ja_m5 193 rfl rfl)⟩
theorem G_Mo_240 : ja_G "WordJudgeModel" 240 y_Mo_left b_Mo_left 12 (some .boolean) 4 none := ⟨k_Mo_left, (ja_m1 10 rfl rfl), ⟨by decide, by decide, by decide +kernel⟩, (ja_m5 163 rfl rfl)⟩
theorem G_Mo_244 : ja_G "WordJudgeModel" 244 y_Mo_opposite b_Mo_opposite 1 (some .int) 1 none := ⟨k_Mo_opposite, (ja_m1 10 rfl rfl), ⟨by decide, by decide, by decide +kernel⟩, (ja_m5 169 rfl rfl)⟩
theorem G_Mo_247 : ja_G "WordJudgeModel" 247 y_Mo_size b_Mo_size 1 (some .int) 1 none := ⟨k_Mo_size, (ja_m1 10 rfl rfl), ⟨by decide, by decide, by decide +kernel⟩, (ja_m5 225 rfl rfl)⟩
theorem K_Mo_250 : Cond.constantLong "WordJudgeModel" 250 (-512) ∈ ja_all := (ja_m5 228 rfl rfl)
theorem G_Mo_252 : ja_G "WordJudgeModel" 252 y_Mo_access b_Mo_access 10 (some .int) 3 none := ⟨k_Mo_access, (ja_m1 10 rfl rfl), ⟨by decide, by decide, by decide +kernel⟩, (ja_m5 221 rfl rfl)⟩
theorem K_Mo_256 : Cond.constant "WordJudgeModel" 256 524288 ∈ ja_all := (ja_m5 233 rfl rfl)
theorem F_Mo_257 : ja_F "WordJudgeModel" 257 9 14 0 none := ⟨R_Mo, T_Mo, 23, rfl, by decide, rfl, u_Mo, (ja_m4 214 rfl rfl)⟩
theorem G_Mo_260 : ja_G "WordJudgeModel" 260 y_Mo_holds b_Mo_holds 15 (some .boolean) 3 none := ⟨k_Mo_holds, (ja_m1 10 rfl rfl), ⟨by decide, by decide, by decide +kernel⟩, (ja_m6 6 rfl rfl)⟩
theorem G_Mo_264 : ja_G "WordJudgeModel" 264 y_Mt_max_I b_Mt_max_I 2 (some .int) 2 none := ⟨k_Mt_max_I, (ja_m1 15 rfl rfl), ⟨by decide, by decide, by decide +kernel⟩, (ja_m6 9 rfl rfl)⟩
theorem G_Mo_266 : ja_G "WordJudgeModel" 266 y_Mo_moved b_Mo_moved 16 (some .boolean) 4 none := ⟨k_Mo_moved, (ja_m1 10 rfl rfl), ⟨by decide, by decide, by decide +kernel⟩, (ja_m6 10 rfl rfl)⟩
theorem F_Mo_270 : ja_F "WordJudgeModel" 270 9 15 0 none := ⟨R_Mo, T_Mo, 23, rfl, by decide, rfl, u_Mo, (ja_m4 215 rfl rfl)⟩
theorem K_Ar_9 : Cond.constantLong "WordJudge$Arithmetic" 9 4294967295 ∈ ja_all := (ja_m3 206 rfl rfl)
theorem G_Ar_11 : ja_G "WordJudge$Arithmetic" 11 y_Ar_reckonTaken b_Ar_reckonTaken 6 (some .long) 3 none := ⟨k_Ar_reckonTaken, (ja_m1 21 rfl rfl), ⟨by decide, by decide, by decide +kernel⟩, (ja_m3 207 rfl rfl)⟩
theorem G_Ar_17 : ja_G "WordJudge$Arithmetic" 17 y_Ar_quotient b_Ar_quotient 8 (some .long) 2 none := ⟨k_Ar_quotient, (ja_m1 21 rfl rfl), ⟨by decide, by decide, by decide +kernel⟩, (ja_m3 210 rfl rfl)⟩
theorem G_Ar_21 : ja_G "WordJudge$Arithmetic" 21 y_Ar_lowest b_Ar_lowest 4 (some .long) 2 none := ⟨k_Ar_lowest, (ja_m1 21 rfl rfl), ⟨by decide, by decide, by decide +kernel⟩, (ja_m3 213 rfl rfl)⟩
theorem G_Ar_24 : ja_G "WordJudge$Arithmetic" 24 y_Ar_turned b_Ar_turned 7 (some .long) 2 none := ⟨k_Ar_turned, (ja_m1 21 rfl rfl), ⟨by decide, by decide, by decide +kernel⟩, (ja_m3 217 rfl rfl)⟩
theorem K_Ar_27 : Cond.constantLong "WordJudge$Arithmetic" 27 (-9223372036854775808) ∈ ja_all := (ja_m4 157 rfl rfl)
theorem K_Ar_29 : Cond.constantLong "WordJudge$Arithmetic" 29 64 ∈ ja_all := (ja_m3 216 rfl rfl)
theorem K_Ar_31 : Cond.constantLong "WordJudge$Arithmetic" 31 255 ∈ ja_all := (ja_m3 220 rfl rfl)
theorem G_Ar_33 : ja_G "WordJudge$Arithmetic" 33 y_Ar_isRelated b_Ar_isRelated 5 (some .boolean) 3 none := ⟨k_Ar_isRelated, (ja_m1 21 rfl rfl), ⟨by decide, by decide, by decide +kernel⟩, (ja_m4 151 rfl rfl)⟩
theorem G_Ar_37 : ja_G "WordJudge$Arithmetic" 37 y_Ar_isBelow b_Ar_isBelow 4 (some .boolean) 2 none := ⟨k_Ar_isBelow, (ja_m1 21 rfl rfl), ⟨by decide, by decide, by decide +kernel⟩, (ja_m4 154 rfl rfl)⟩
theorem O_Co_3 : Cond.methodLink "WordJudge$Code" 3 objectInit ∈ ja_all := (ja_m1 36 rfl rfl)
theorem F_Co_9 : ja_F "WordJudge$Code" 9 1 0 2 none := ⟨R_Co, T_Co, 2, rfl, by decide, rfl, u_Co, (ja_m1 37 rfl rfl)⟩
theorem F_Co_15 : ja_F "WordJudge$Code" 15 1 1 0 none := ⟨R_Co, T_Co, 2, rfl, by decide, rfl, u_Co, (ja_m1 38 rfl rfl)⟩
theorem G_Co_19 : ja_G "WordJudge$Code" 19 y_Mt_max_I b_Mt_max_I 2 (some .int) 2 none := ⟨k_Mt_max_I, (ja_m1 15 rfl rfl), ⟨by decide, by decide, by decide +kernel⟩, (ja_m2 120 rfl rfl)⟩
theorem O_Fo_3 : Cond.methodLink "WordJudge$Form" 3 objectInit ∈ ja_all := (ja_m1 69 rfl rfl)
theorem F_Fo_9 : ja_F "WordJudge$Form" 9 3 0 2 none := ⟨R_Fo, T_Fo, 3, rfl, by decide, rfl, u_Fo, (ja_m1 120 rfl rfl)⟩
theorem N_Fo_15 : ja_GN "WordJudge$Form" 15 4 := ⟨R_Wo, T_Wo, 7, rfl, u_Wo, d_Wo, (ja_m1 70 rfl rfl), (ja_m1 71 rfl rfl), (ja_m1 5 rfl rfl), by decide +kernel⟩
theorem G_Fo_17 : ja_G "WordJudge$Form" 17 y_Wo_init b_Wo_init 1 (none) 0 (some "WordJudge") := ⟨k_Wo_init, (ja_m1 5 rfl rfl), ⟨by decide, by decide, by decide +kernel⟩, List.mem_of_getElem? (i := 3) rfl⟩
theorem F_Fo_18 : ja_F "WordJudge$Form" 18 3 1 2 none := ⟨R_Fo, T_Fo, 3, rfl, by decide, rfl, u_Fo, (ja_m1 121 rfl rfl)⟩
theorem F_Fo_22 : ja_F "WordJudge$Form" 22 3 2 0 none := ⟨R_Fo, T_Fo, 3, rfl, by decide, rfl, u_Fo, (ja_m1 122 rfl rfl)⟩
theorem G_Fo_26 : ja_G "WordJudge$Form" 26 y_Fo_markSeconds b_Fo_markSeconds 4 (none) 1 none := ⟨k_Fo_markSeconds, (ja_m1 4 rfl rfl), ⟨by decide, by decide, by decide +kernel⟩, (ja_m2 205 rfl rfl)⟩
theorem F_Fo_30 : ja_F "WordJudge$Form" 30 1 1 0 (some "WordJudge") := ⟨R_Co, T_Co, 2, rfl, by decide, rfl, u_Co, List.mem_of_getElem? (i := 2) rfl⟩
theorem G_Fo_35 : ja_G "WordJudge$Form" 35 y_Co_at b_Co_at 2 (some .long) 1 none := ⟨k_Co_at, (ja_m1 2 rfl rfl), ⟨by decide, by decide, by decide +kernel⟩, (ja_m2 209 rfl rfl)⟩
theorem G_Fo_39 : ja_G "WordJudge$Form" 39 y_Wo_take b_Wo_take 3 (none) 1 none := ⟨k_Wo_take, (ja_m1 5 rfl rfl), ⟨by decide, by decide, by decide +kernel⟩, (ja_m2 213 rfl rfl)⟩
theorem G_Fo_43 : ja_G "WordJudge$Form" 43 y_Fo_examineWord b_Fo_examineWord 4 (some .int) 2 none := ⟨k_Fo_examineWord, (ja_m1 4 rfl rfl), ⟨by decide, by decide, by decide +kernel⟩, (ja_m2 233 rfl rfl)⟩
theorem F_Fo_47 : ja_F "WordJudge$Form" 47 4 5 0 (some "WordJudge") := ⟨R_Wo, T_Wo, 7, rfl, by decide, rfl, u_Wo, List.mem_of_getElem? (i := 22) rfl⟩
theorem F_Fo_50 : ja_F "WordJudge$Form" 50 4 1 0 (some "WordJudge") := ⟨R_Wo, T_Wo, 7, rfl, by decide, rfl, u_Wo, List.mem_of_getElem? (i := 8) rfl⟩
theorem F_Fo_53 : ja_F "WordJudge$Form" 53 4 2 0 (some "WordJudge") := ⟨R_Wo, T_Wo, 7, rfl, by decide, rfl, u_Wo, List.mem_of_getElem? (i := 11) rfl⟩
theorem G_Fo_56 : ja_G "WordJudge$Form" 56 y_Wo_getsD b_Wo_getsD 1 (some .boolean) 0 none := ⟨k_Wo_getsD, (ja_m1 5 rfl rfl), ⟨by decide, by decide, by decide +kernel⟩, (ja_m2 237 rfl rfl)⟩
theorem G_Fo_60 : ja_G "WordJudge$Form" 60 y_Fo_hasUnusedNotZero b_Fo_hasUnusedNotZero 1 (some .boolean) 0 none := ⟨k_Fo_hasUnusedNotZero, (ja_m1 4 rfl rfl), ⟨by decide, by decide, by decide +kernel⟩, (ja_m3 1 rfl rfl)⟩
theorem K_Fo_63 : Cond.constantLong "WordJudge$Form" 63 4294967295 ∈ ja_all := (ja_m3 26 rfl rfl)
theorem G_Fo_65 : ja_G "WordJudge$Form" 65 y_Wo_goes b_Wo_goes 1 (some .boolean) 0 none := ⟨k_Wo_goes, (ja_m1 5 rfl rfl), ⟨by decide, by decide, by decide +kernel⟩, (ja_m3 27 rfl rfl)⟩
theorem F_Fo_68 : ja_F "WordJudge$Form" 68 4 3 0 (some "WordJudge") := ⟨R_Wo, T_Wo, 7, rfl, by decide, rfl, u_Wo, List.mem_of_getElem? (i := 14) rfl⟩
theorem G_Fo_71 : ja_G "WordJudge$Form" 71 y_Wo_words b_Wo_words 1 (some .int) 0 none := ⟨k_Wo_words, (ja_m1 5 rfl rfl), ⟨by decide, by decide, by decide +kernel⟩, (ja_m3 31 rfl rfl)⟩
theorem G_Fo_75 : ja_G "WordJudge$Form" 75 y_Wo_goalFrom b_Wo_goalFrom 2 (some .int) 1 none := ⟨k_Wo_goalFrom, (ja_m1 5 rfl rfl), ⟨by decide, by decide, by decide +kernel⟩, (ja_m3 35 rfl rfl)⟩
theorem G_Fo_79 : ja_G "WordJudge$Form" 79 y_Fo_isGoal b_Fo_isGoal 3 (some .boolean) 2 none := ⟨k_Fo_isGoal, (ja_m1 4 rfl rfl), ⟨by decide, by decide, by decide +kernel⟩, (ja_m3 39 rfl rfl)⟩
theorem F_Fo_83 : ja_F "WordJudge$Form" 83 4 4 0 (some "WordJudge") := ⟨R_Wo, T_Wo, 7, rfl, by decide, rfl, u_Wo, List.mem_of_getElem? (i := 17) rfl⟩
theorem G_Fo_86 : ja_G "WordJudge$Form" 86 y_Wo_usesImm b_Wo_usesImm 1 (some .boolean) 0 none := ⟨k_Wo_usesImm, (ja_m1 5 rfl rfl), ⟨by decide, by decide, by decide +kernel⟩, (ja_m3 5 rfl rfl)⟩
theorem G_Fo_89 : ja_G "WordJudge$Form" 89 y_Wo_usesS b_Wo_usesS 1 (some .boolean) 0 none := ⟨k_Wo_usesS, (ja_m1 5 rfl rfl), ⟨by decide, by decide, by decide +kernel⟩, (ja_m3 17 rfl rfl)⟩
theorem G_Fo_92 : ja_G "WordJudge$Form" 92 y_Wo_usesD b_Wo_usesD 1 (some .boolean) 0 none := ⟨k_Wo_usesD, (ja_m1 5 rfl rfl), ⟨by decide, by decide, by decide +kernel⟩, (ja_m3 18 rfl rfl)⟩
theorem G_Fo_95 : ja_G "WordJudge$Form" 95 y_Wo_usesOff b_Wo_usesOff 1 (some .boolean) 0 none := ⟨k_Wo_usesOff, (ja_m1 5 rfl rfl), ⟨by decide, by decide, by decide +kernel⟩, (ja_m3 22 rfl rfl)⟩
theorem O_Gi_3 : Cond.methodLink "WordJudge$Given" 3 objectInit ∈ ja_all := (ja_m1 54 rfl rfl)
theorem F_Gi_9 : ja_F "WordJudge$Given" 9 2 0 2 none := ⟨R_Gi, T_Gi, 2, rfl, by decide, rfl, u_Gi, (ja_m1 55 rfl rfl)⟩
theorem G_Gi_15 : ja_G "WordJudge$Given" 15 y_Mt_max_I b_Mt_max_I 2 (some .int) 2 none := ⟨k_Mt_max_I, (ja_m1 15 rfl rfl), ⟨by decide, by decide, by decide +kernel⟩, (ja_m2 159 rfl rfl)⟩
theorem F_Gi_21 : ja_F "WordJudge$Given" 21 2 1 0 none := ⟨R_Gi, T_Gi, 2, rfl, by decide, rfl, u_Gi, (ja_m1 56 rfl rfl)⟩
theorem G_Gi_25 : ja_G "WordJudge$Given" 25 y_Gi_has b_Gi_has 3 (some .boolean) 1 none := ⟨k_Gi_has, (ja_m1 3 rfl rfl), ⟨by decide, by decide, by decide +kernel⟩, (ja_m2 172 rfl rfl)⟩
theorem K_Gi_29 : Cond.constantLong "WordJudge$Given" 29 256 ∈ ja_all := (ja_m2 176 rfl rfl)
theorem O_Ju_3 : Cond.methodLink "WordJudge$Judge" 3 objectInit ∈ ja_all := (ja_m1 136 rfl rfl)
theorem Q_Ju_9 : Cond.classLink "WordJudge$Judge" 9 ja_elem ∈ ja_all := (ja_m1 137 rfl rfl)
theorem F_Ju_11 : ja_F "WordJudge$Judge" 11 5 0 2 none := ⟨R_Ju, T_Ju, 10, rfl, by decide, rfl, u_Ju, (ja_m1 187 rfl rfl)⟩
theorem N_Ju_9 : ja_GN "WordJudge$Judge" 9 6 := ⟨R_St, T_St, 5, rfl, u_St, d_St, (ja_m1 137 rfl rfl), (ja_m1 139 rfl rfl), (ja_m1 7 rfl rfl), by decide +kernel⟩
theorem G_Ju_17 : ja_G "WordJudge$Judge" 17 y_St_init b_St_init 1 (none) 0 (some "WordJudge") := ⟨k_St_init, (ja_m1 7 rfl rfl), ⟨by decide, by decide, by decide +kernel⟩, List.mem_of_getElem? (i := 5) rfl⟩
theorem F_Ju_18 : ja_F "WordJudge$Judge" 18 5 1 2 none := ⟨R_Ju, T_Ju, 10, rfl, by decide, rfl, u_Ju, (ja_m1 188 rfl rfl)⟩
theorem N_Ju_22 : ja_GN "WordJudge$Judge" 22 4 := ⟨R_Wo, T_Wo, 7, rfl, u_Wo, d_Wo, (ja_m1 161 rfl rfl), (ja_m1 71 rfl rfl), (ja_m1 5 rfl rfl), by decide +kernel⟩
theorem G_Ju_24 : ja_G "WordJudge$Judge" 24 y_Wo_init b_Wo_init 1 (none) 0 (some "WordJudge") := ⟨k_Wo_init, (ja_m1 5 rfl rfl), ⟨by decide, by decide, by decide +kernel⟩, List.mem_of_getElem? (i := 6) rfl⟩
theorem F_Ju_25 : ja_F "WordJudge$Judge" 25 5 2 2 none := ⟨R_Ju, T_Ju, 10, rfl, by decide, rfl, u_Ju, (ja_m1 189 rfl rfl)⟩
theorem N_Ju_29 : ja_GN "WordJudge$Judge" 29 7 := ⟨R_Va, T_Va, 3, rfl, u_Va, d_Va, (ja_m1 163 rfl rfl), (ja_m1 164 rfl rfl), (ja_m1 8 rfl rfl), by decide +kernel⟩
theorem G_Ju_31 : ja_G "WordJudge$Judge" 31 y_Va_init b_Va_init 1 (none) 0 (some "WordJudge") := ⟨k_Va_init, (ja_m1 8 rfl rfl), ⟨by decide, by decide, by decide +kernel⟩, List.mem_of_getElem? (i := 7) rfl⟩
theorem F_Ju_32 : ja_F "WordJudge$Judge" 32 5 3 2 none := ⟨R_Ju, T_Ju, 10, rfl, by decide, rfl, u_Ju, (ja_m1 190 rfl rfl)⟩
theorem F_Ju_36 : ja_F "WordJudge$Judge" 36 5 4 2 none := ⟨R_Ju, T_Ju, 10, rfl, by decide, rfl, u_Ju, (ja_m1 191 rfl rfl)⟩
theorem F_Ju_39 : ja_F "WordJudge$Judge" 39 5 5 2 none := ⟨R_Ju, T_Ju, 10, rfl, by decide, rfl, u_Ju, (ja_m1 192 rfl rfl)⟩
theorem F_Ju_42 : ja_F "WordJudge$Judge" 42 5 6 0 none := ⟨R_Ju, T_Ju, 10, rfl, by decide, rfl, u_Ju, (ja_m1 193 rfl rfl)⟩
theorem F_Ju_46 : ja_F "WordJudge$Judge" 46 6 4 0 (some "WordJudge") := ⟨R_St, T_St, 5, rfl, by decide, rfl, u_St, List.mem_of_getElem? (i := 27) rfl⟩
theorem G_Ju_50 : ja_G "WordJudge$Judge" 50 y_Ju_isComeTo b_Ju_isComeTo 2 (some .boolean) 1 none := ⟨k_Ju_isComeTo, (ja_m1 6 rfl rfl), ⟨by decide, by decide, by decide +kernel⟩, (ja_m3 94 rfl rfl)⟩
theorem G_Ju_54 : ja_G "WordJudge$Judge" 54 y_St_load b_St_load 3 (none) 2 none := ⟨k_St_load, (ja_m1 7 rfl rfl), ⟨by decide, by decide, by decide +kernel⟩, (ja_m3 104 rfl rfl)⟩
theorem F_Ju_58 : ja_F "WordJudge$Judge" 58 7 0 0 (some "WordJudge") := ⟨R_Va, T_Va, 3, rfl, by decide, rfl, u_Va, List.mem_of_getElem? (i := 28) rfl⟩
theorem F_Ju_61 : ja_F "WordJudge$Judge" 61 7 1 1 (some "WordJudge") := ⟨R_Va, T_Va, 3, rfl, by decide, rfl, u_Va, List.mem_of_getElem? (i := 31) rfl⟩
theorem F_Ju_65 : ja_F "WordJudge$Judge" 65 7 2 1 (some "WordJudge") := ⟨R_Va, T_Va, 3, rfl, by decide, rfl, u_Va, List.mem_of_getElem? (i := 33) rfl⟩
theorem F_Ju_68 : ja_F "WordJudge$Judge" 68 1 1 0 (some "WordJudge") := ⟨R_Co, T_Co, 2, rfl, by decide, rfl, u_Co, List.mem_of_getElem? (i := 3) rfl⟩
theorem G_Ju_71 : ja_G "WordJudge$Judge" 71 y_Ju_begin b_Ju_begin 4 (none) 2 none := ⟨k_Ju_begin, (ja_m1 6 rfl rfl), ⟨by decide, by decide, by decide +kernel⟩, (ja_m3 47 rfl rfl)⟩
theorem F_Ju_75 : ja_F "WordJudge$Judge" 75 5 8 0 none := ⟨R_Ju, T_Ju, 10, rfl, by decide, rfl, u_Ju, (ja_m1 195 rfl rfl)⟩
theorem G_Ju_77 : ja_G "WordJudge$Judge" 77 y_St_copy b_St_copy 2 (none) 1 none := ⟨k_St_copy, (ja_m1 7 rfl rfl), ⟨by decide, by decide, by decide +kernel⟩, (ja_m3 87 rfl rfl)⟩
theorem G_Ju_81 : ja_G "WordJudge$Judge" 81 y_Co_at b_Co_at 2 (some .long) 1 none := ⟨k_Co_at, (ja_m1 2 rfl rfl), ⟨by decide, by decide, by decide +kernel⟩, (ja_m3 98 rfl rfl)⟩
theorem G_Ju_85 : ja_G "WordJudge$Judge" 85 y_Wo_take b_Wo_take 3 (none) 1 none := ⟨k_Wo_take, (ja_m1 5 rfl rfl), ⟨by decide, by decide, by decide +kernel⟩, (ja_m3 99 rfl rfl)⟩
theorem G_Ju_89 : ja_G "WordJudge$Judge" 89 y_Ju_examineWord b_Ju_examineWord 5 (some .int) 2 none := ⟨k_Ju_examineWord, (ja_m1 6 rfl rfl), ⟨by decide, by decide, by decide +kernel⟩, (ja_m3 100 rfl rfl)⟩
theorem F_Ju_93 : ja_F "WordJudge$Judge" 93 5 9 0 none := ⟨R_Ju, T_Ju, 10, rfl, by decide, rfl, u_Ju, (ja_m1 197 rfl rfl)⟩
theorem F_Ju_96 : ja_F "WordJudge$Judge" 96 5 7 0 none := ⟨R_Ju, T_Ju, 10, rfl, by decide, rfl, u_Ju, (ja_m1 194 rfl rfl)⟩
theorem G_Ju_99 : ja_G "WordJudge$Judge" 99 y_St_begin b_St_begin 1 (none) 0 none := ⟨k_St_begin, (ja_m1 7 rfl rfl), ⟨by decide, by decide, by decide +kernel⟩, (ja_m3 51 rfl rfl)⟩
theorem G_Ju_101 : ja_G "WordJudge$Judge" 101 y_Ju_flowTo b_Ju_flowTo 2 (none) 1 none := ⟨k_Ju_flowTo, (ja_m1 6 rfl rfl), ⟨by decide, by decide, by decide +kernel⟩, (ja_m3 61 rfl rfl)⟩
theorem G_Ju_105 : ja_G "WordJudge$Judge" 105 y_St_join b_St_join 3 (none) 1 none := ⟨k_St_join, (ja_m1 7 rfl rfl), ⟨by decide, by decide, by decide +kernel⟩, (ja_m3 65 rfl rfl)⟩
theorem F_Ju_108 : ja_F "WordJudge$Judge" 108 4 1 0 (some "WordJudge") := ⟨R_Wo, T_Wo, 7, rfl, by decide, rfl, u_Wo, List.mem_of_getElem? (i := 10) rfl⟩
theorem G_Ju_111 : ja_G "WordJudge$Judge" 111 y_Ju_loadRight b_Ju_loadRight 1 (none) 0 none := ⟨k_Ju_loadRight, (ja_m1 6 rfl rfl), ⟨by decide, by decide, by decide +kernel⟩, (ja_m3 112 rfl rfl)⟩
theorem G_Ju_114 : ja_G "WordJudge$Judge" 114 y_Wo_usesOldD b_Wo_usesOldD 1 (some .boolean) 0 none := ⟨k_Wo_usesOldD, (ja_m1 5 rfl rfl), ⟨by decide, by decide, by decide +kernel⟩, (ja_m3 118 rfl rfl)⟩
theorem G_Ju_118 : ja_G "WordJudge$Judge" 118 y_Wo_usesS b_Wo_usesS 1 (some .boolean) 0 none := ⟨k_Wo_usesS, (ja_m1 5 rfl rfl), ⟨by decide, by decide, by decide +kernel⟩, (ja_m3 116 rfl rfl)⟩
theorem F_Ju_121 : ja_F "WordJudge$Judge" 121 4 5 0 (some "WordJudge") := ⟨R_Wo, T_Wo, 7, rfl, by decide, rfl, u_Wo, List.mem_of_getElem? (i := 23) rfl⟩
theorem G_Ju_124 : ja_G "WordJudge$Judge" 124 y_Ju_examineCondition b_Ju_examineCondition 2 (some .int) 1 none := ⟨k_Ju_examineCondition, (ja_m1 6 rfl rfl), ⟨by decide, by decide, by decide +kernel⟩, (ja_m3 126 rfl rfl)⟩
theorem G_Ju_128 : ja_G "WordJudge$Judge" 128 y_Ju_examineArithmetic b_Ju_examineArithmetic 1 (some .int) 0 none := ⟨k_Ju_examineArithmetic, (ja_m1 6 rfl rfl), ⟨by decide, by decide, by decide +kernel⟩, (ja_m3 167 rfl rfl)⟩
theorem G_Ju_132 : ja_G "WordJudge$Judge" 132 y_Ju_examineReading b_Ju_examineReading 5 (some .int) 0 none := ⟨k_Ju_examineReading, (ja_m1 6 rfl rfl), ⟨by decide, by decide, by decide +kernel⟩, (ja_m4 35 rfl rfl)⟩
theorem G_Ju_135 : ja_G "WordJudge$Judge" 135 y_Ju_examineStoring b_Ju_examineStoring 5 (some .int) 0 none := ⟨k_Ju_examineStoring, (ja_m1 6 rfl rfl), ⟨by decide, by decide, by decide +kernel⟩, (ja_m4 67 rfl rfl)⟩
theorem G_Ju_138 : ja_G "WordJudge$Judge" 138 y_Wo_wideNumber b_Wo_wideNumber 3 (some .long) 1 none := ⟨k_Wo_wideNumber, (ja_m1 5 rfl rfl), ⟨by decide, by decide, by decide +kernel⟩, (ja_m4 84 rfl rfl)⟩
theorem G_Ju_142 : ja_G "WordJudge$Judge" 142 y_Va_become b_Va_become 6 (none) 3 none := ⟨k_Va_become, (ja_m1 8 rfl rfl), ⟨by decide, by decide, by decide +kernel⟩, (ja_m3 117 rfl rfl)⟩
theorem G_Ju_146 : ja_G "WordJudge$Judge" 146 y_Ju_goOn b_Ju_goOn 2 (none) 1 none := ⟨k_Ju_goOn, (ja_m1 6 rfl rfl), ⟨by decide, by decide, by decide +kernel⟩, (ja_m4 89 rfl rfl)⟩
theorem G_Ju_149 : ja_G "WordJudge$Judge" 149 y_Wo_getsD b_Wo_getsD 1 (some .boolean) 0 none := ⟨k_Wo_getsD, (ja_m1 5 rfl rfl), ⟨by decide, by decide, by decide +kernel⟩, (ja_m4 93 rfl rfl)⟩
theorem G_Ju_152 : ja_G "WordJudge$Judge" 152 y_St_save b_St_save 3 (none) 2 none := ⟨k_St_save, (ja_m1 7 rfl rfl), ⟨by decide, by decide, by decide +kernel⟩, (ja_m3 158 rfl rfl)⟩
theorem G_Ju_155 : ja_G "WordJudge$Judge" 155 y_Wo_goalFrom b_Wo_goalFrom 2 (some .int) 1 none := ⟨k_Wo_goalFrom, (ja_m1 5 rfl rfl), ⟨by decide, by decide, by decide +kernel⟩, (ja_m3 162 rfl rfl)⟩
theorem G_Ju_158 : ja_G "WordJudge$Judge" 158 y_Wo_words b_Wo_words 1 (some .int) 0 none := ⟨k_Wo_words, (ja_m1 5 rfl rfl), ⟨by decide, by decide, by decide +kernel⟩, (ja_m4 94 rfl rfl)⟩
theorem F_Ju_161 : ja_F "WordJudge$Judge" 161 4 2 0 (some "WordJudge") := ⟨R_Wo, T_Wo, 7, rfl, by decide, rfl, u_Wo, List.mem_of_getElem? (i := 13) rfl⟩
theorem F_Ju_164 : ja_F "WordJudge$Judge" 164 4 4 0 (some "WordJudge") := ⟨R_Wo, T_Wo, 7, rfl, by decide, rfl, u_Wo, List.mem_of_getElem? (i := 19) rfl⟩
theorem F_Ju_167 : ja_F "WordJudge$Judge" 167 4 6 0 (some "WordJudge") := ⟨R_Wo, T_Wo, 7, rfl, by decide, rfl, u_Wo, List.mem_of_getElem? (i := 25) rfl⟩
theorem G_Ju_168 : ja_G "WordJudge$Judge" 168 y_Ju_move b_Ju_move 1 (some .int) 0 none := ⟨k_Ju_move, (ja_m1 6 rfl rfl), ⟨by decide, by decide, by decide +kernel⟩, (ja_m3 171 rfl rfl)⟩
theorem G_Ju_171 : ja_G "WordJudge$Judge" 171 y_Va_isPointer b_Va_isPointer 1 (some .boolean) 0 none := ⟨k_Va_isPointer, (ja_m1 8 rfl rfl), ⟨by decide, by decide, by decide +kernel⟩, (ja_m3 130 rfl rfl)⟩
theorem G_Ju_174 : ja_G "WordJudge$Judge" 174 y_Ju_movePointer b_Ju_movePointer 9 (some .int) 0 none := ⟨k_Ju_movePointer, (ja_m1 6 rfl rfl), ⟨by decide, by decide, by decide +kernel⟩, (ja_m3 189 rfl rfl)⟩
theorem G_Ju_177 : ja_G "WordJudge$Judge" 177 y_Nu_reckon b_Nu_reckon 5 (none) 3 none := ⟨k_Nu_reckon, (ja_m1 20 rfl rfl), ⟨by decide, by decide, by decide +kernel⟩, (ja_m3 198 rfl rfl)⟩
theorem G_Ju_183 : ja_G "WordJudge$Judge" 183 y_Wo_isOf32 b_Wo_isOf32 1 (some .boolean) 0 none := ⟨k_Wo_isOf32, (ja_m1 5 rfl rfl), ⟨by decide, by decide, by decide +kernel⟩, (ja_m3 175 rfl rfl)⟩
theorem G_Ju_186 : ja_G "WordJudge$Judge" 186 y_Nu_takeLowest32 b_Nu_takeLowest32 1 (none) 1 none := ⟨k_Nu_takeLowest32, (ja_m1 20 rfl rfl), ⟨by decide, by decide, by decide +kernel⟩, (ja_m3 179 rfl rfl)⟩
theorem G_Ju_190 : ja_G "WordJudge$Judge" 190 y_Va_isOne b_Va_isOne 1 (some .boolean) 0 none := ⟨k_Va_isOne, (ja_m1 8 rfl rfl), ⟨by decide, by decide, by decide +kernel⟩, (ja_m3 138 rfl rfl)⟩
theorem K_Ju_193 : Cond.constantLong "WordJudge$Judge" 193 (-200000) ∈ ja_all := (ja_m3 193 rfl rfl)
theorem K_Ju_195 : Cond.constantLong "WordJudge$Judge" 195 200000 ∈ ja_all := (ja_m3 194 rfl rfl)
theorem G_Ju_197 : ja_G "WordJudge$Judge" 197 y_Va_isWithin b_Va_isWithin 5 (some .boolean) 2 none := ⟨k_Va_isWithin, (ja_m1 8 rfl rfl), ⟨by decide, by decide, by decide +kernel⟩, (ja_m3 195 rfl rfl)⟩
theorem K_Ju_201 : Cond.constantLong "WordJudge$Judge" 201 (-100000) ∈ ja_all := (ja_m3 196 rfl rfl)
theorem K_Ju_203 : Cond.constantLong "WordJudge$Judge" 203 100000 ∈ ja_all := (ja_m3 197 rfl rfl)
theorem G_Ju_205 : ja_G "WordJudge$Judge" 205 y_Ju_narrowD b_Ju_narrowD 3 (some .boolean) 1 none := ⟨k_Ju_narrowD, (ja_m1 6 rfl rfl), ⟨by decide, by decide, by decide +kernel⟩, (ja_m3 134 rfl rfl)⟩
theorem G_Ju_208 : ja_G "WordJudge$Judge" 208 y_Wo_opposite b_Wo_opposite 1 (some .int) 0 none := ⟨k_Wo_opposite, (ja_m1 5 rfl rfl), ⟨by decide, by decide, by decide +kernel⟩, (ja_m3 163 rfl rfl)⟩
theorem F_Ju_211 : ja_F "WordJudge$Judge" 211 4 0 0 (some "WordJudge") := ⟨R_Wo, T_Wo, 7, rfl, by decide, rfl, u_Wo, List.mem_of_getElem? (i := 7) rfl⟩
theorem G_Ju_214 : ja_G "WordJudge$Judge" 214 y_Va_narrow b_Va_narrow 4 (some .boolean) 2 none := ⟨k_Va_narrow, (ja_m1 8 rfl rfl), ⟨by decide, by decide, by decide +kernel⟩, (ja_m3 142 rfl rfl)⟩
theorem G_Ju_218 : ja_G "WordJudge$Judge" 218 y_Wo_stores b_Wo_stores 1 (some .boolean) 0 none := ⟨k_Wo_stores, (ja_m1 5 rfl rfl), ⟨by decide, by decide, by decide +kernel⟩, (ja_m4 43 rfl rfl)⟩
theorem K_Ju_221 : Cond.constantLong "WordJudge$Judge" 221 (-512) ∈ ja_all := (ja_m4 44 rfl rfl)
theorem F_Ju_223 : ja_F "WordJudge$Judge" 223 4 3 0 (some "WordJudge") := ⟨R_Wo, T_Wo, 7, rfl, by decide, rfl, u_Wo, List.mem_of_getElem? (i := 16) rfl⟩
theorem G_Ju_226 : ja_G "WordJudge$Judge" 226 y_Wo_size b_Wo_size 1 (some .int) 0 none := ⟨k_Wo_size, (ja_m1 5 rfl rfl), ⟨by decide, by decide, by decide +kernel⟩, (ja_m4 45 rfl rfl)⟩
theorem K_Ju_229 : Cond.constantLong "WordJudge$Judge" 229 512 ∈ ja_all := (ja_m4 53 rfl rfl)
theorem G_Ju_231 : ja_G "WordJudge$Judge" 231 y_Ju_examineReach b_Ju_examineReach 8 (some .int) 1 none := ⟨k_Ju_examineReach, (ja_m1 6 rfl rfl), ⟨by decide, by decide, by decide +kernel⟩, (ja_m4 39 rfl rfl)⟩
theorem G_Ju_235 : ja_G "WordJudge$Judge" 235 y_Ju_octetAt b_Ju_octetAt 2 (some .int) 1 none := ⟨k_Ju_octetAt, (ja_m1 6 rfl rfl), ⟨by decide, by decide, by decide +kernel⟩, (ja_m4 49 rfl rfl)⟩
theorem G_Ju_238 : ja_G "WordJudge$Judge" 238 y_St_eightAt b_St_eightAt 2 (some .int) 1 none := ⟨k_St_eightAt, (ja_m1 7 rfl rfl), ⟨by decide, by decide, by decide +kernel⟩, (ja_m4 54 rfl rfl)⟩
theorem G_Ju_241 : ja_G "WordJudge$Judge" 241 y_St_isKept b_St_isKept 2 (some .boolean) 1 none := ⟨k_St_isKept, (ja_m1 7 rfl rfl), ⟨by decide, by decide, by decide +kernel⟩, (ja_m4 58 rfl rfl)⟩
theorem G_Ju_244 : ja_G "WordJudge$Judge" 244 y_St_isReadable b_St_isReadable 5 (some .boolean) 2 none := ⟨k_St_isReadable, (ja_m1 7 rfl rfl), ⟨by decide, by decide, by decide +kernel⟩, (ja_m4 62 rfl rfl)⟩
theorem G_Ju_248 : ja_G "WordJudge$Judge" 248 y_Va_becomeAny b_Va_becomeAny 1 (none) 0 none := ⟨k_Va_becomeAny, (ja_m1 8 rfl rfl), ⟨by decide, by decide, by decide +kernel⟩, (ja_m4 66 rfl rfl)⟩
theorem G_Ju_251 : ja_G "WordJudge$Judge" 251 y_St_keep b_St_keep 3 (none) 2 none := ⟨k_St_keep, (ja_m1 7 rfl rfl), ⟨by decide, by decide, by decide +kernel⟩, (ja_m4 71 rfl rfl)⟩
theorem G_Ju_254 : ja_G "WordJudge$Judge" 254 y_St_store b_St_store 4 (none) 2 none := ⟨k_St_store, (ja_m1 7 rfl rfl), ⟨by decide, by decide, by decide +kernel⟩, (ja_m4 76 rfl rfl)⟩
theorem O_Ma_3 : Cond.methodLink "WordJudge$Machine" 3 objectInit ∈ ja_all := (ja_m1 225 rfl rfl)
theorem F_Ma_9 : ja_F "WordJudge$Machine" 9 8 0 2 none := ⟨R_Ma, T_Ma, 8, rfl, by decide, rfl, u_Ma, (ja_m1 228 rfl rfl)⟩
theorem F_Ma_15 : ja_F "WordJudge$Machine" 15 8 1 2 none := ⟨R_Ma, T_Ma, 8, rfl, by decide, rfl, u_Ma, (ja_m1 229 rfl rfl)⟩
theorem F_Ma_19 : ja_F "WordJudge$Machine" 19 8 2 2 none := ⟨R_Ma, T_Ma, 8, rfl, by decide, rfl, u_Ma, (ja_m1 230 rfl rfl)⟩
theorem F_Ma_23 : ja_F "WordJudge$Machine" 23 8 3 2 none := ⟨R_Ma, T_Ma, 8, rfl, by decide, rfl, u_Ma, (ja_m1 231 rfl rfl)⟩
theorem N_Ma_26 : ja_GN "WordJudge$Machine" 26 4 := ⟨R_Wo, T_Wo, 7, rfl, u_Wo, d_Wo, (ja_m1 226 rfl rfl), (ja_m1 71 rfl rfl), (ja_m1 5 rfl rfl), by decide +kernel⟩
theorem G_Ma_28 : ja_G "WordJudge$Machine" 28 y_Wo_init b_Wo_init 1 (none) 0 (some "WordJudge") := ⟨k_Wo_init, (ja_m1 5 rfl rfl), ⟨by decide, by decide, by decide +kernel⟩, List.mem_of_getElem? (i := 9) rfl⟩
theorem F_Ma_29 : ja_F "WordJudge$Machine" 29 8 4 2 none := ⟨R_Ma, T_Ma, 8, rfl, by decide, rfl, u_Ma, (ja_m1 232 rfl rfl)⟩
theorem G_Ma_33 : ja_G "WordJudge$Machine" 33 y_Ma_begin b_Ma_begin 2 (none) 0 none := ⟨k_Ma_begin, (ja_m1 9 rfl rfl), ⟨by decide, by decide, by decide +kernel⟩, (ja_m4 121 rfl rfl)⟩
theorem F_Ma_36 : ja_F "WordJudge$Machine" 36 1 1 0 (some "WordJudge") := ⟨R_Co, T_Co, 2, rfl, by decide, rfl, u_Co, List.mem_of_getElem? (i := 0) rfl⟩
theorem F_Ma_42 : ja_F "WordJudge$Machine" 42 8 5 0 none := ⟨R_Ma, T_Ma, 8, rfl, by decide, rfl, u_Ma, (ja_m1 233 rfl rfl)⟩
theorem G_Ma_45 : ja_G "WordJudge$Machine" 45 y_Co_at b_Co_at 2 (some .long) 1 none := ⟨k_Co_at, (ja_m1 2 rfl rfl), ⟨by decide, by decide, by decide +kernel⟩, (ja_m4 131 rfl rfl)⟩
theorem G_Ma_49 : ja_G "WordJudge$Machine" 49 y_Wo_take b_Wo_take 3 (none) 1 none := ⟨k_Wo_take, (ja_m1 5 rfl rfl), ⟨by decide, by decide, by decide +kernel⟩, (ja_m4 132 rfl rfl)⟩
theorem F_Ma_53 : ja_F "WordJudge$Machine" 53 4 5 0 (some "WordJudge") := ⟨R_Wo, T_Wo, 7, rfl, by decide, rfl, u_Wo, List.mem_of_getElem? (i := 21) rfl⟩
theorem G_Ma_56 : ja_G "WordJudge$Machine" 56 y_Ma_step b_Ma_step 5 (some .int) 3 none := ⟨k_Ma_step, (ja_m1 9 rfl rfl), ⟨by decide, by decide, by decide +kernel⟩, (ja_m4 133 rfl rfl)⟩
theorem G_Ma_60 : ja_G "WordJudge$Machine" 60 y_Ma_use b_Ma_use 2 (some .long) 1 none := ⟨k_Ma_use, (ja_m1 9 rfl rfl), ⟨by decide, by decide, by decide +kernel⟩, (ja_m4 138 rfl rfl)⟩
theorem F_Ma_63 : ja_F "WordJudge$Machine" 63 8 7 0 none := ⟨R_Ma, T_Ma, 8, rfl, by decide, rfl, u_Ma, (ja_m1 237 rfl rfl)⟩
theorem F_Ma_67 : ja_F "WordJudge$Machine" 67 8 6 0 none := ⟨R_Ma, T_Ma, 8, rfl, by decide, rfl, u_Ma, (ja_m1 235 rfl rfl)⟩
theorem K_Ma_70 : Cond.constantLong "WordJudge$Machine" 70 1099511627776 ∈ ja_all := (ja_m4 125 rfl rfl)
theorem G_Ma_72 : ja_G "WordJudge$Machine" 72 y_Ma_give b_Ma_give 4 (none) 2 none := ⟨k_Ma_give, (ja_m1 9 rfl rfl), ⟨by decide, by decide, by decide +kernel⟩, (ja_m4 126 rfl rfl)⟩
theorem K_Ma_76 : Cond.constantLong "WordJudge$Machine" 76 2199023256064 ∈ ja_all := (ja_m4 130 rfl rfl)
theorem F_Ma_78 : ja_F "WordJudge$Machine" 78 4 1 0 (some "WordJudge") := ⟨R_Wo, T_Wo, 7, rfl, by decide, rfl, u_Wo, List.mem_of_getElem? (i := 9) rfl⟩
theorem F_Ma_81 : ja_F "WordJudge$Machine" 81 4 0 0 (some "WordJudge") := ⟨R_Wo, T_Wo, 7, rfl, by decide, rfl, u_Wo, List.mem_of_getElem? (i := 6) rfl⟩
theorem G_Ma_84 : ja_G "WordJudge$Machine" 84 y_Wo_usesOldD b_Wo_usesOldD 1 (some .boolean) 0 none := ⟨k_Wo_usesOldD, (ja_m1 5 rfl rfl), ⟨by decide, by decide, by decide +kernel⟩, (ja_m4 137 rfl rfl)⟩
theorem G_Ma_88 : ja_G "WordJudge$Machine" 88 y_Ma_useRight b_Ma_useRight 1 (some .long) 0 none := ⟨k_Ma_useRight, (ja_m1 9 rfl rfl), ⟨by decide, by decide, by decide +kernel⟩, (ja_m4 142 rfl rfl)⟩
theorem G_Ma_92 : ja_G "WordJudge$Machine" 92 y_Ar_reckon b_Ar_reckon 12 (some .long) 3 none := ⟨k_Ar_reckon, (ja_m1 21 rfl rfl), ⟨by decide, by decide, by decide +kernel⟩, (ja_m4 147 rfl rfl)⟩
theorem G_Ma_98 : ja_G "WordJudge$Machine" 98 y_Ar_holds b_Ar_holds 6 (some .boolean) 3 none := ⟨k_Ar_holds, (ja_m1 21 rfl rfl), ⟨by decide, by decide, by decide +kernel⟩, (ja_m4 148 rfl rfl)⟩
theorem G_Ma_102 : ja_G "WordJudge$Machine" 102 y_Wo_goalFrom b_Wo_goalFrom 2 (some .int) 1 none := ⟨k_Wo_goalFrom, (ja_m1 5 rfl rfl), ⟨by decide, by decide, by decide +kernel⟩, (ja_m4 158 rfl rfl)⟩
theorem F_Ma_106 : ja_F "WordJudge$Machine" 106 4 3 0 (some "WordJudge") := ⟨R_Wo, T_Wo, 7, rfl, by decide, rfl, u_Wo, List.mem_of_getElem? (i := 15) rfl⟩
theorem G_Ma_109 : ja_G "WordJudge$Machine" 109 y_Wo_size b_Wo_size 1 (some .int) 0 none := ⟨k_Wo_size, (ja_m1 5 rfl rfl), ⟨by decide, by decide, by decide +kernel⟩, (ja_m4 159 rfl rfl)⟩
theorem G_Ma_113 : ja_G "WordJudge$Machine" 113 y_Ma_read b_Ma_read 8 (some .long) 3 none := ⟨k_Ma_read, (ja_m1 9 rfl rfl), ⟨by decide, by decide, by decide +kernel⟩, (ja_m4 160 rfl rfl)⟩
theorem G_Ma_117 : ja_G "WordJudge$Machine" 117 y_Ma_write b_Ma_write 8 (none) 3 none := ⟨k_Ma_write, (ja_m1 9 rfl rfl), ⟨by decide, by decide, by decide +kernel⟩, (ja_m4 179 rfl rfl)⟩
theorem G_Ma_121 : ja_G "WordJudge$Machine" 121 y_Wo_wideNumber b_Wo_wideNumber 3 (some .long) 1 none := ⟨k_Wo_wideNumber, (ja_m1 5 rfl rfl), ⟨by decide, by decide, by decide +kernel⟩, (ja_m4 183 rfl rfl)⟩
theorem G_Ma_125 : ja_G "WordJudge$Machine" 125 y_Wo_usesS b_Wo_usesS 1 (some .boolean) 0 none := ⟨k_Wo_usesS, (ja_m1 5 rfl rfl), ⟨by decide, by decide, by decide +kernel⟩, (ja_m4 146 rfl rfl)⟩
theorem F_Ma_128 : ja_F "WordJudge$Machine" 128 4 2 0 (some "WordJudge") := ⟨R_Wo, T_Wo, 7, rfl, by decide, rfl, u_Wo, List.mem_of_getElem? (i := 12) rfl⟩
theorem F_Ma_131 : ja_F "WordJudge$Machine" 131 4 4 0 (some "WordJudge") := ⟨R_Wo, T_Wo, 7, rfl, by decide, rfl, u_Wo, List.mem_of_getElem? (i := 18) rfl⟩
theorem G_Ma_134 : ja_G "WordJudge$Machine" 134 y_Ma_readOctet b_Ma_readOctet 5 (some .int) 2 none := ⟨k_Ma_readOctet, (ja_m1 9 rfl rfl), ⟨by decide, by decide, by decide +kernel⟩, (ja_m4 164 rfl rfl)⟩
theorem G_Ma_138 : ja_G "WordJudge$Machine" 138 y_Gi_has b_Gi_has 3 (some .boolean) 1 none := ⟨k_Gi_has, (ja_m1 3 rfl rfl), ⟨by decide, by decide, by decide +kernel⟩, (ja_m4 168 rfl rfl)⟩
theorem G_Ma_144 : ja_G "WordJudge$Machine" 144 y_Gi_octet b_Gi_octet 3 (some .int) 1 none := ⟨k_Gi_octet, (ja_m1 3 rfl rfl), ⟨by decide, by decide, by decide +kernel⟩, (ja_m4 169 rfl rfl)⟩
theorem G_Ma_148 : ja_G "WordJudge$Machine" 148 y_Ma_stackIndex b_Ma_stackIndex 5 (some .int) 1 none := ⟨k_Ma_stackIndex, (ja_m1 9 rfl rfl), ⟨by decide, by decide, by decide +kernel⟩, (ja_m4 173 rfl rfl)⟩
theorem K_Ma_151 : Cond.constantLong "WordJudge$Machine" 151 2199023255552 ∈ ja_all := (ja_m4 177 rfl rfl)
theorem K_Ma_153 : Cond.constantLong "WordJudge$Machine" 153 512 ∈ ja_all := (ja_m4 178 rfl rfl)
theorem G_Nu_9 : ja_G "WordJudge$Numbers" 9 y_Wo_isOf32 b_Wo_isOf32 1 (some .boolean) 0 none := ⟨k_Wo_isOf32, (ja_m1 5 rfl rfl), ⟨by decide, by decide, by decide +kernel⟩, (ja_m3 201 rfl rfl)⟩
theorem G_Nu_15 : ja_G "WordJudge$Numbers" 15 y_Nu_takeLowest32 b_Nu_takeLowest32 1 (none) 1 none := ⟨k_Nu_takeLowest32, (ja_m1 20 rfl rfl), ⟨by decide, by decide, by decide +kernel⟩, (ja_m3 202 rfl rfl)⟩
theorem G_Nu_21 : ja_G "WordJudge$Numbers" 21 y_Va_isOne b_Va_isOne 1 (some .boolean) 0 none := ⟨k_Va_isOne, (ja_m1 8 rfl rfl), ⟨by decide, by decide, by decide +kernel⟩, (ja_m3 182 rfl rfl)⟩
theorem F_Nu_26 : ja_F "WordJudge$Numbers" 26 4 0 0 (some "WordJudge") := ⟨R_Wo, T_Wo, 7, rfl, by decide, rfl, u_Wo, List.mem_of_getElem? (i := 5) rfl⟩
theorem F_Nu_30 : ja_F "WordJudge$Numbers" 30 7 1 1 (some "WordJudge") := ⟨R_Va, T_Va, 3, rfl, by decide, rfl, u_Va, List.mem_of_getElem? (i := 30) rfl⟩
theorem G_Nu_34 : ja_G "WordJudge$Numbers" 34 y_Ar_reckon b_Ar_reckon 12 (some .long) 3 none := ⟨k_Ar_reckon, (ja_m1 21 rfl rfl), ⟨by decide, by decide, by decide +kernel⟩, (ja_m3 203 rfl rfl)⟩
theorem G_Nu_40 : ja_G "WordJudge$Numbers" 40 y_Va_become b_Va_become 6 (none) 3 none := ⟨k_Va_become, (ja_m1 8 rfl rfl), ⟨by decide, by decide, by decide +kernel⟩, (ja_m3 184 rfl rfl)⟩
theorem G_Nu_44 : ja_G "WordJudge$Numbers" 44 y_Nu_reckonSpans b_Nu_reckonSpans 3 (none) 3 none := ⟨k_Nu_reckonSpans, (ja_m1 20 rfl rfl), ⟨by decide, by decide, by decide +kernel⟩, (ja_m3 221 rfl rfl)⟩
theorem K_Nu_48 : Cond.constantLong "WordJudge$Numbers" 48 4294967295 ∈ ja_all := (ja_m3 183 rfl rfl)
theorem G_Nu_50 : ja_G "WordJudge$Numbers" 50 y_Va_isWithin b_Va_isWithin 5 (some .boolean) 2 none := ⟨k_Va_isWithin, (ja_m1 8 rfl rfl), ⟨by decide, by decide, by decide +kernel⟩, (ja_m3 185 rfl rfl)⟩
theorem F_Nu_54 : ja_F "WordJudge$Numbers" 54 4 6 0 (some "WordJudge") := ⟨R_Wo, T_Wo, 7, rfl, by decide, rfl, u_Wo, List.mem_of_getElem? (i := 24) rfl⟩
theorem G_Nu_57 : ja_G "WordJudge$Numbers" 57 y_Nu_add b_Nu_add 2 (none) 2 none := ⟨k_Nu_add, (ja_m1 20 rfl rfl), ⟨by decide, by decide, by decide +kernel⟩, (ja_m3 224 rfl rfl)⟩
theorem G_Nu_61 : ja_G "WordJudge$Numbers" 61 y_Nu_subtract b_Nu_subtract 2 (none) 2 none := ⟨k_Nu_subtract, (ja_m1 20 rfl rfl), ⟨by decide, by decide, by decide +kernel⟩, (ja_m3 234 rfl rfl)⟩
theorem G_Nu_64 : ja_G "WordJudge$Numbers" 64 y_Nu_multiply b_Nu_multiply 10 (none) 2 none := ⟨k_Nu_multiply, (ja_m1 20 rfl rfl), ⟨by decide, by decide, by decide +kernel⟩, (ja_m4 0 rfl rfl)⟩
theorem G_Nu_67 : ja_G "WordJudge$Numbers" 67 y_Nu_divide b_Nu_divide 2 (none) 2 none := ⟨k_Nu_divide, (ja_m1 20 rfl rfl), ⟨by decide, by decide, by decide +kernel⟩, (ja_m4 10 rfl rfl)⟩
theorem G_Nu_70 : ja_G "WordJudge$Numbers" 70 y_Nu_leaveOver b_Nu_leaveOver 2 (none) 2 none := ⟨k_Nu_leaveOver, (ja_m1 20 rfl rfl), ⟨by decide, by decide, by decide +kernel⟩, (ja_m4 13 rfl rfl)⟩
theorem G_Nu_73 : ja_G "WordJudge$Numbers" 73 y_Nu_and b_Nu_and 2 (none) 2 none := ⟨k_Nu_and, (ja_m1 20 rfl rfl), ⟨by decide, by decide, by decide +kernel⟩, (ja_m4 16 rfl rfl)⟩
theorem G_Nu_76 : ja_G "WordJudge$Numbers" 76 y_Nu_or b_Nu_or 7 (none) 2 none := ⟨k_Nu_or, (ja_m1 20 rfl rfl), ⟨by decide, by decide, by decide +kernel⟩, (ja_m4 19 rfl rfl)⟩
theorem G_Nu_79 : ja_G "WordJudge$Numbers" 79 y_Nu_shiftLeft b_Nu_shiftLeft 4 (none) 3 none := ⟨k_Nu_shiftLeft, (ja_m1 20 rfl rfl), ⟨by decide, by decide, by decide +kernel⟩, (ja_m4 22 rfl rfl)⟩
theorem G_Nu_82 : ja_G "WordJudge$Numbers" 82 y_Nu_shiftRight b_Nu_shiftRight 5 (none) 3 none := ⟨k_Nu_shiftRight, (ja_m1 20 rfl rfl), ⟨by decide, by decide, by decide +kernel⟩, (ja_m4 25 rfl rfl)⟩
theorem G_Nu_85 : ja_G "WordJudge$Numbers" 85 y_Nu_negate b_Nu_negate 1 (none) 1 none := ⟨k_Nu_negate, (ja_m1 20 rfl rfl), ⟨by decide, by decide, by decide +kernel⟩, (ja_m4 29 rfl rfl)⟩
theorem G_Nu_88 : ja_G "WordJudge$Numbers" 88 y_Nu_turn b_Nu_turn 2 (none) 2 none := ⟨k_Nu_turn, (ja_m1 20 rfl rfl), ⟨by decide, by decide, by decide +kernel⟩, (ja_m4 32 rfl rfl)⟩
theorem G_Nu_92 : ja_G "WordJudge$Numbers" 92 y_Nu_sumFits b_Nu_sumFits 4 (some .boolean) 2 none := ⟨k_Nu_sumFits, (ja_m1 20 rfl rfl), ⟨by decide, by decide, by decide +kernel⟩, (ja_m3 227 rfl rfl)⟩
theorem F_Nu_95 : ja_F "WordJudge$Numbers" 95 7 2 1 (some "WordJudge") := ⟨R_Va, T_Va, 3, rfl, by decide, rfl, u_Va, List.mem_of_getElem? (i := 34) rfl⟩
theorem G_Nu_98 : ja_G "WordJudge$Numbers" 98 y_Va_becomeAny b_Va_becomeAny 1 (none) 0 none := ⟨k_Va_becomeAny, (ja_m1 8 rfl rfl), ⟨by decide, by decide, by decide +kernel⟩, (ja_m3 230 rfl rfl)⟩
theorem G_Nu_101 : ja_G "WordJudge$Numbers" 101 y_Nu_differenceFits b_Nu_differenceFits 4 (some .boolean) 2 none := ⟨k_Nu_differenceFits, (ja_m1 20 rfl rfl), ⟨by decide, by decide, by decide +kernel⟩, (ja_m3 237 rfl rfl)⟩
theorem G_Nu_104 : ja_G "WordJudge$Numbers" 104 y_Nu_productFits b_Nu_productFits 4 (some .boolean) 2 none := ⟨k_Nu_productFits, (ja_m1 20 rfl rfl), ⟨by decide, by decide, by decide +kernel⟩, (ja_m4 3 rfl rfl)⟩
theorem G_Nu_107 : ja_G "WordJudge$Numbers" 107 y_Mt_min_J b_Mt_min_J 4 (some .long) 2 none := ⟨k_Mt_min_J, (ja_m1 15 rfl rfl), ⟨by decide, by decide, by decide +kernel⟩, (ja_m4 8 rfl rfl)⟩
theorem G_Nu_113 : ja_G "WordJudge$Numbers" 113 y_Mt_max_J b_Mt_max_J 4 (some .long) 2 none := ⟨k_Mt_max_J, (ja_m1 15 rfl rfl), ⟨by decide, by decide, by decide +kernel⟩, (ja_m4 9 rfl rfl)⟩
theorem K_Nu_116 : Cond.constantLong "WordJudge$Numbers" 116 2147483648 ∈ ja_all := (ja_m4 28 rfl rfl)
theorem K_Nu_118 : Cond.constantLong "WordJudge$Numbers" 118 (-9223372036854775808) ∈ ja_all := (ja_m4 7 rfl rfl)
theorem F_Nu_120 : ja_F "WordJudge$Numbers" 120 4 4 0 (some "WordJudge") := ⟨R_Wo, T_Wo, 7, rfl, by decide, rfl, u_Wo, List.mem_of_getElem? (i := 20) rfl⟩
theorem K_Nu_123 : Cond.constantLong "WordJudge$Numbers" 123 (-1) ∈ ja_all := (ja_m4 6 rfl rfl)
theorem O_St_5 : Cond.methodLink "WordJudge$State" 5 objectInit ∈ ja_all := (ja_m1 143 rfl rfl)
theorem F_St_11 : ja_F "WordJudge$State" 11 6 0 2 none := ⟨R_St, T_St, 5, rfl, by decide, rfl, u_St, (ja_m1 144 rfl rfl)⟩
theorem F_St_15 : ja_F "WordJudge$State" 15 6 1 2 none := ⟨R_St, T_St, 5, rfl, by decide, rfl, u_St, (ja_m1 145 rfl rfl)⟩
theorem F_St_19 : ja_F "WordJudge$State" 19 6 2 2 none := ⟨R_St, T_St, 5, rfl, by decide, rfl, u_St, (ja_m1 146 rfl rfl)⟩
theorem F_St_22 : ja_F "WordJudge$State" 22 6 3 2 none := ⟨R_St, T_St, 5, rfl, by decide, rfl, u_St, (ja_m1 147 rfl rfl)⟩
theorem G_St_25 : ja_G "WordJudge$State" 25 y_As_fill_I b_As_fill_I 4 (none) 2 none := ⟨k_As_fill_I, (ja_m1 18 rfl rfl), ⟨by decide, by decide, by decide +kernel⟩, (ja_m3 55 rfl rfl)⟩
theorem G_St_31 : ja_G "WordJudge$State" 31 y_As_fill_J b_As_fill_J 5 (none) 2 none := ⟨k_As_fill_J, (ja_m1 18 rfl rfl), ⟨by decide, by decide, by decide +kernel⟩, (ja_m3 58 rfl rfl)⟩
theorem Y_St_34 : Cond.methodLink "WordJudge$State" 34 arraycopyName ∈ ja_all := (ja_m3 91 rfl rfl)
theorem G_St_40 : ja_G "WordJudge$State" 40 y_St_joinCell b_St_joinCell 4 (none) 2 none := ⟨k_St_joinCell, (ja_m1 7 rfl rfl), ⟨by decide, by decide, by decide +kernel⟩, (ja_m3 69 rfl rfl)⟩
theorem G_St_44 : ja_G "WordJudge$State" 44 y_Mt_min_J b_Mt_min_J 4 (some .long) 2 none := ⟨k_Mt_min_J, (ja_m1 15 rfl rfl), ⟨by decide, by decide, by decide +kernel⟩, (ja_m3 73 rfl rfl)⟩
theorem G_St_50 : ja_G "WordJudge$State" 50 y_Mt_max_J b_Mt_max_J 4 (some .long) 2 none := ⟨k_Mt_max_J, (ja_m1 15 rfl rfl), ⟨by decide, by decide, by decide +kernel⟩, (ja_m3 76 rfl rfl)⟩
theorem G_St_53 : ja_G "WordJudge$State" 53 y_St_points b_St_points 2 (some .boolean) 1 none := ⟨k_St_points, (ja_m1 7 rfl rfl), ⟨by decide, by decide, by decide +kernel⟩, (ja_m3 79 rfl rfl)⟩
theorem G_St_57 : ja_G "WordJudge$State" 57 y_St_clear b_St_clear 2 (none) 1 none := ⟨k_St_clear, (ja_m1 7 rfl rfl), ⟨by decide, by decide, by decide +kernel⟩, (ja_m3 83 rfl rfl)⟩
theorem G_St_61 : ja_G "WordJudge$State" 61 y_Va_become b_Va_become 6 (none) 3 none := ⟨k_Va_become, (ja_m1 8 rfl rfl), ⟨by decide, by decide, by decide +kernel⟩, (ja_m3 108 rfl rfl)⟩
theorem F_St_67 : ja_F "WordJudge$State" 67 7 0 0 (some "WordJudge") := ⟨R_Va, T_Va, 3, rfl, by decide, rfl, u_Va, List.mem_of_getElem? (i := 29) rfl⟩
theorem F_St_71 : ja_F "WordJudge$State" 71 7 1 1 (some "WordJudge") := ⟨R_Va, T_Va, 3, rfl, by decide, rfl, u_Va, List.mem_of_getElem? (i := 32) rfl⟩
theorem F_St_75 : ja_F "WordJudge$State" 75 7 2 1 (some "WordJudge") := ⟨R_Va, T_Va, 3, rfl, by decide, rfl, u_Va, List.mem_of_getElem? (i := 35) rfl⟩
theorem G_St_78 : ja_G "WordJudge$State" 78 y_St_save b_St_save 3 (none) 2 none := ⟨k_St_save, (ja_m1 7 rfl rfl), ⟨by decide, by decide, by decide +kernel⟩, (ja_m4 75 rfl rfl)⟩
theorem G_St_82 : ja_G "WordJudge$State" 82 y_St_loseKept b_St_loseKept 2 (none) 1 none := ⟨k_St_loseKept, (ja_m1 7 rfl rfl), ⟨by decide, by decide, by decide +kernel⟩, (ja_m4 80 rfl rfl)⟩
theorem O_Va_3 : Cond.methodLink "WordJudge$Value" 3 objectInit ∈ ja_all := (ja_m1 168 rfl rfl)
theorem F_Va_9 : ja_F "WordJudge$Value" 9 7 0 0 none := ⟨R_Va, T_Va, 3, rfl, by decide, rfl, u_Va, (ja_m1 169 rfl rfl)⟩
theorem F_Va_15 : ja_F "WordJudge$Value" 15 7 1 1 none := ⟨R_Va, T_Va, 3, rfl, by decide, rfl, u_Va, (ja_m1 172 rfl rfl)⟩
theorem F_Va_19 : ja_F "WordJudge$Value" 19 7 2 1 none := ⟨R_Va, T_Va, 3, rfl, by decide, rfl, u_Va, (ja_m1 176 rfl rfl)⟩
theorem K_Va_22 : Cond.constantLong "WordJudge$Value" 22 (-9223372036854775808) ∈ ja_all := (ja_m3 156 rfl rfl)
theorem K_Va_24 : Cond.constantLong "WordJudge$Value" 24 9223372036854775807 ∈ ja_all := (ja_m3 157 rfl rfl)
theorem G_Va_26 : ja_G "WordJudge$Value" 26 y_Mt_max_J b_Mt_max_J 4 (some .long) 2 none := ⟨k_Mt_max_J, (ja_m1 15 rfl rfl), ⟨by decide, by decide, by decide +kernel⟩, (ja_m3 146 rfl rfl)⟩
theorem G_Va_32 : ja_G "WordJudge$Value" 32 y_Mt_min_J b_Mt_min_J 4 (some .long) 2 none := ⟨k_Mt_min_J, (ja_m1 15 rfl rfl), ⟨by decide, by decide, by decide +kernel⟩, (ja_m3 147 rfl rfl)⟩
theorem G_Va_35 : ja_G "WordJudge$Value" 35 y_Va_leaveOut b_Va_leaveOut 3 (some .boolean) 1 none := ⟨k_Va_leaveOut, (ja_m1 8 rfl rfl), ⟨by decide, by decide, by decide +kernel⟩, (ja_m3 148 rfl rfl)⟩
theorem G_Va_39 : ja_G "WordJudge$Value" 39 y_Va_narrowSigned b_Va_narrowSigned 4 (some .boolean) 2 none := ⟨k_Va_narrowSigned, (ja_m1 8 rfl rfl), ⟨by decide, by decide, by decide +kernel⟩, (ja_m3 152 rfl rfl)⟩
theorem O_Wo_3 : Cond.methodLink "WordJudge$Word" 3 objectInit ∈ ja_all := (ja_m1 75 rfl rfl)
theorem F_Wo_9 : ja_F "WordJudge$Word" 9 4 0 0 none := ⟨R_Wo, T_Wo, 7, rfl, by decide, rfl, u_Wo, (ja_m1 76 rfl rfl)⟩
theorem F_Wo_15 : ja_F "WordJudge$Word" 15 4 1 0 none := ⟨R_Wo, T_Wo, 7, rfl, by decide, rfl, u_Wo, (ja_m1 80 rfl rfl)⟩
theorem F_Wo_18 : ja_F "WordJudge$Word" 18 4 2 0 none := ⟨R_Wo, T_Wo, 7, rfl, by decide, rfl, u_Wo, (ja_m1 84 rfl rfl)⟩
theorem F_Wo_21 : ja_F "WordJudge$Word" 21 4 3 0 none := ⟨R_Wo, T_Wo, 7, rfl, by decide, rfl, u_Wo, (ja_m1 88 rfl rfl)⟩
theorem F_Wo_24 : ja_F "WordJudge$Word" 24 4 4 0 none := ⟨R_Wo, T_Wo, 7, rfl, by decide, rfl, u_Wo, (ja_m1 92 rfl rfl)⟩
theorem F_Wo_27 : ja_F "WordJudge$Word" 27 4 6 0 none := ⟨R_Wo, T_Wo, 7, rfl, by decide, rfl, u_Wo, (ja_m1 101 rfl rfl)⟩
theorem G_Wo_30 : ja_G "WordJudge$Word" 30 y_Wo_findSort b_Wo_findSort 1 (some .int) 0 none := ⟨k_Wo_findSort, (ja_m1 5 rfl rfl), ⟨by decide, by decide, by decide +kernel⟩, (ja_m2 217 rfl rfl)⟩
theorem F_Wo_34 : ja_F "WordJudge$Word" 34 4 5 0 none := ⟨R_Wo, T_Wo, 7, rfl, by decide, rfl, u_Wo, (ja_m1 98 rfl rfl)⟩
theorem G_Wo_37 : ja_G "WordJudge$Word" 37 y_Wo_movesOctets b_Wo_movesOctets 1 (some .boolean) 0 none := ⟨k_Wo_movesOctets, (ja_m1 5 rfl rfl), ⟨by decide, by decide, by decide +kernel⟩, (ja_m2 221 rfl rfl)⟩
theorem G_Wo_41 : ja_G "WordJudge$Word" 41 y_Wo_reckons b_Wo_reckons 1 (some .boolean) 0 none := ⟨k_Wo_reckons, (ja_m1 5 rfl rfl), ⟨by decide, by decide, by decide +kernel⟩, (ja_m2 225 rfl rfl)⟩
theorem G_Wo_44 : ja_G "WordJudge$Word" 44 y_Wo_findSortOfGoing b_Wo_findSortOfGoing 2 (some .int) 0 none := ⟨k_Wo_findSortOfGoing, (ja_m1 5 rfl rfl), ⟨by decide, by decide, by decide +kernel⟩, (ja_m2 229 rfl rfl)⟩
theorem G_Wo_47 : ja_G "WordJudge$Word" 47 y_Wo_stores b_Wo_stores 1 (some .boolean) 0 none := ⟨k_Wo_stores, (ja_m1 5 rfl rfl), ⟨by decide, by decide, by decide +kernel⟩, (ja_m3 122 rfl rfl)⟩
theorem G_Wo_50 : ja_G "WordJudge$Word" 50 y_Wo_hasRegisterOperand b_Wo_hasRegisterOperand 1 (some .boolean) 0 none := ⟨k_Wo_hasRegisterOperand, (ja_m1 5 rfl rfl), ⟨by decide, by decide, by decide +kernel⟩, (ja_m3 13 rfl rfl)⟩
theorem G_Wo_53 : ja_G "WordJudge$Word" 53 y_Wo_usesS b_Wo_usesS 1 (some .boolean) 0 none := ⟨k_Wo_usesS, (ja_m1 5 rfl rfl), ⟨by decide, by decide, by decide +kernel⟩, (ja_m3 9 rfl rfl)⟩
theorem K_Wo_56 : Cond.constantLong "WordJudge$Word" 56 4294967295 ∈ ja_all := (ja_m4 88 rfl rfl)
theorem G_La_7 : ja_G "WordJudgeLaw" 7 y_WJ_word b_WJ_word 4 (some .int) 2 none := ⟨k_WJ_word, (ja_m1 1 rfl rfl), ⟨by decide, by decide, by decide +kernel⟩, (ja_m2 45 rfl rfl)⟩
theorem G_La_15 : ja_G "WordJudgeLaw" 15 y_WJ_cut b_WJ_cut 2 (none) 1 none := ⟨k_WJ_cut, (ja_m1 1 rfl rfl), ⟨by decide, by decide, by decide +kernel⟩, (ja_m2 126 rfl rfl)⟩
theorem G_La_19 : ja_G "WordJudgeLaw" 19 y_WJ_context b_WJ_context 2 (none) 1 none := ⟨k_WJ_context, (ja_m1 1 rfl rfl), ⟨by decide, by decide, by decide +kernel⟩, (ja_m2 135 rfl rfl)⟩
theorem G_La_24 : ja_G "WordJudgeLaw" 24 y_WJ_put b_WJ_put 4 (none) 2 none := ⟨k_WJ_put, (ja_m1 1 rfl rfl), ⟨by decide, by decide, by decide +kernel⟩, (ja_m2 163 rfl rfl)⟩
theorem G_La_28 : ja_G "WordJudgeLaw" 28 y_WJ_verify b_WJ_verify 2 (some .int) 0 none := ⟨k_WJ_verify, (ja_m1 1 rfl rfl), ⟨by decide, by decide, by decide +kernel⟩, (ja_m2 181 rfl rfl)⟩
theorem G_La_34 : ja_G "WordJudgeLaw" 34 y_WJ_state b_WJ_state 4 (some .long) 3 none := ⟨k_WJ_state, (ja_m1 1 rfl rfl), ⟨by decide, by decide, by decide +kernel⟩, (ja_m4 98 rfl rfl)⟩
theorem G_La_38 : ja_G "WordJudgeLaw" 38 y_WJ_run b_WJ_run 1 (some .long) 0 none := ⟨k_WJ_run, (ja_m1 1 rfl rfl), ⟨by decide, by decide, by decide +kernel⟩, (ja_m4 113 rfl rfl)⟩
theorem G_La_42 : ja_G "WordJudgeLaw" 42 y_WJ_count b_WJ_count 2 (some .int) 1 none := ⟨k_WJ_count, (ja_m1 1 rfl rfl), ⟨by decide, by decide, by decide +kernel⟩, (ja_m4 187 rfl rfl)⟩
theorem K_Lg_306 : Cond.constantLong "java/lang/Long" 306 (-1) ∈ ja_all := (ja_m5 192 rfl rfl)
theorem K_Mt_138 : Cond.constantLong "java/lang/Math" 138 4294967295 ∈ ja_all := (ja_m5 211 rfl rfl)
end
