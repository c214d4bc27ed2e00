section
-- ===== PART A: goes FIRST, ahead of the names: the tables' words, and 'selects' of the private methods out of them =====
/-- a private method of a class that the tables say can be made, by its rows of tables_1 -/
def lw_okq (q : MethodName × Nat) : Prop := (q.1.cls ≠ "java/lang/invoke/MethodHandle" ∧ q.1.cls ≠ "java/lang/invoke/VarHandle") ∧ Cond.instantiable q.1.cls q.2 ∈ tables_1 ∧ Cond.privateMethod q.1 ∈ tables_1 ∧ Cond.instanceMethod q.1 ∈ tables_1
theorem lw_p0 : lw_okq (⟨"EditGuess", "poolChanged", "()V"⟩, 10) := ⟨⟨by decide +kernel, by decide +kernel⟩, List.mem_of_getElem? (i := 13) (by decide +kernel), List.mem_of_getElem? (i := 181) (by decide +kernel), List.mem_of_getElem? (i := 182) (by decide +kernel)⟩
theorem lw_p1 : lw_okq (⟨"EditGuess", "exampleFault", "()I"⟩, 10) := ⟨⟨by decide +kernel, by decide +kernel⟩, List.mem_of_getElem? (i := 13) (by decide +kernel), List.mem_of_getElem? (i := 244) (by decide +kernel), List.mem_of_getElem? (i := 245) (by decide +kernel)⟩
theorem lw_p2 : lw_okq (⟨"EditGuess", "lineFault", "()I"⟩, 10) := ⟨⟨by decide +kernel, by decide +kernel⟩, List.mem_of_getElem? (i := 13) (by decide +kernel), List.mem_of_getElem? (i := 260) (by decide +kernel), List.mem_of_getElem? (i := 261) (by decide +kernel)⟩
theorem lw_p3 : lw_okq (⟨"EditGuess", "examplesChanged", "()V"⟩, 10) := ⟨⟨by decide +kernel, by decide +kernel⟩, List.mem_of_getElem? (i := 13) (by decide +kernel), List.mem_of_getElem? (i := 284) (by decide +kernel), List.mem_of_getElem? (i := 285) (by decide +kernel)⟩
theorem lw_p4 : lw_okq (⟨"EditGuess", "guess", "()V"⟩, 10) := ⟨⟨by decide +kernel, by decide +kernel⟩, List.mem_of_getElem? (i := 13) (by decide +kernel), List.mem_of_getElem? (i := 332) (by decide +kernel), List.mem_of_getElem? (i := 333) (by decide +kernel)⟩
theorem lw_p5 : lw_okq (⟨"EditGuess$Row", "countAlike", "(LEditGuess$Signs;II)I"⟩, 3) := ⟨⟨by decide +kernel, by decide +kernel⟩, List.mem_of_getElem? (i := 94) (by decide +kernel), List.mem_of_getElem? (i := 377) (by decide +kernel), List.mem_of_getElem? (i := 378) (by decide +kernel)⟩
theorem lw_p6 : lw_okq (⟨"EditGuess$Fitting", "groupMarks", "()V"⟩, 10) := ⟨⟨by decide +kernel, by decide +kernel⟩, List.mem_of_getElem? (i := 67) (by decide +kernel), List.mem_of_getElem? (i := 387) (by decide +kernel), List.mem_of_getElem? (i := 388) (by decide +kernel)⟩
theorem lw_p7 : lw_okq (⟨"EditGuess$Fitting", "isToldInAll", "(I)Z"⟩, 10) := ⟨⟨by decide +kernel, by decide +kernel⟩, List.mem_of_getElem? (i := 67) (by decide +kernel), List.mem_of_getElem? (i := 391) (by decide +kernel), List.mem_of_getElem? (i := 392) (by decide +kernel)⟩
theorem lw_p8 : lw_okq (⟨"EditGuess$Fitting", "joinGroup", "(I)V"⟩, 10) := ⟨⟨by decide +kernel, by decide +kernel⟩, List.mem_of_getElem? (i := 67) (by decide +kernel), List.mem_of_getElem? (i := 399) (by decide +kernel), List.mem_of_getElem? (i := 400) (by decide +kernel)⟩
theorem lw_p9 : lw_okq (⟨"EditGuess$Fitting", "tellSame", "(II)Z"⟩, 10) := ⟨⟨by decide +kernel, by decide +kernel⟩, List.mem_of_getElem? (i := 67) (by decide +kernel), List.mem_of_getElem? (i := 403) (by decide +kernel), List.mem_of_getElem? (i := 404) (by decide +kernel)⟩
theorem lw_p10 : lw_okq (⟨"EditGuess$Fitting", "lastState", "()I"⟩, 10) := ⟨⟨by decide +kernel, by decide +kernel⟩, List.mem_of_getElem? (i := 67) (by decide +kernel), List.mem_of_getElem? (i := 413) (by decide +kernel), List.mem_of_getElem? (i := 414) (by decide +kernel)⟩
theorem lw_p11 : lw_okq (⟨"EditGuess$Fitting", "listMoves", "(I)V"⟩, 10) := ⟨⟨by decide +kernel, by decide +kernel⟩, List.mem_of_getElem? (i := 67) (by decide +kernel), List.mem_of_getElem? (i := 422) (by decide +kernel), List.mem_of_getElem? (i := 423) (by decide +kernel)⟩
theorem lw_p12 : lw_okq (⟨"EditGuess$Fitting", "reach", "(I)V"⟩, 10) := ⟨⟨by decide +kernel, by decide +kernel⟩, List.mem_of_getElem? (i := 67) (by decide +kernel), List.mem_of_getElem? (i := 430) (by decide +kernel), List.mem_of_getElem? (i := 431) (by decide +kernel)⟩
theorem lw_p13 : lw_okq (⟨"EditGuess$Fitting", "canBegin", "(I)Z"⟩, 10) := ⟨⟨by decide +kernel, by decide +kernel⟩, List.mem_of_getElem? (i := 67) (by decide +kernel), List.mem_of_getElem? (i := 434) (by decide +kernel), List.mem_of_getElem? (i := 435) (by decide +kernel)⟩
theorem lw_p14 : lw_okq (⟨"EditGuess$Fitting", "listCuts", "(II)V"⟩, 10) := ⟨⟨by decide +kernel, by decide +kernel⟩, List.mem_of_getElem? (i := 67) (by decide +kernel), List.mem_of_getElem? (i := 442) (by decide +kernel), List.mem_of_getElem? (i := 443) (by decide +kernel)⟩
theorem lw_p15 : lw_okq (⟨"EditGuess$Fitting", "cutTarget", "(III)I"⟩, 10) := ⟨⟨by decide +kernel, by decide +kernel⟩, List.mem_of_getElem? (i := 67) (by decide +kernel), List.mem_of_getElem? (i := 446) (by decide +kernel), List.mem_of_getElem? (i := 447) (by decide +kernel)⟩
def lw_privs_1 : List (MethodName × Nat) := [(⟨"EditGuess", "poolChanged", "()V"⟩, 10), (⟨"EditGuess", "exampleFault", "()I"⟩, 10), (⟨"EditGuess", "lineFault", "()I"⟩, 10), (⟨"EditGuess", "examplesChanged", "()V"⟩, 10), (⟨"EditGuess", "guess", "()V"⟩, 10), (⟨"EditGuess$Row", "countAlike", "(LEditGuess$Signs;II)I"⟩, 3), (⟨"EditGuess$Fitting", "groupMarks", "()V"⟩, 10), (⟨"EditGuess$Fitting", "isToldInAll", "(I)Z"⟩, 10), (⟨"EditGuess$Fitting", "joinGroup", "(I)V"⟩, 10), (⟨"EditGuess$Fitting", "tellSame", "(II)Z"⟩, 10), (⟨"EditGuess$Fitting", "lastState", "()I"⟩, 10), (⟨"EditGuess$Fitting", "listMoves", "(I)V"⟩, 10), (⟨"EditGuess$Fitting", "reach", "(I)V"⟩, 10), (⟨"EditGuess$Fitting", "canBegin", "(I)Z"⟩, 10), (⟨"EditGuess$Fitting", "listCuts", "(II)V"⟩, 10), (⟨"EditGuess$Fitting", "cutTarget", "(III)I"⟩, 10)]
theorem lw_r1 : ∀ q ∈ lw_privs_1, lw_okq q := List.forall_mem_cons.mpr ⟨lw_p0, List.forall_mem_cons.mpr ⟨lw_p1, List.forall_mem_cons.mpr ⟨lw_p2, List.forall_mem_cons.mpr ⟨lw_p3, List.forall_mem_cons.mpr ⟨lw_p4, List.forall_mem_cons.mpr ⟨lw_p5, List.forall_mem_cons.mpr ⟨lw_p6, List.forall_mem_cons.mpr ⟨lw_p7, List.forall_mem_cons.mpr ⟨lw_p8, List.forall_mem_cons.mpr ⟨lw_p9, List.forall_mem_cons.mpr ⟨lw_p10, List.forall_mem_cons.mpr ⟨lw_p11, List.forall_mem_cons.mpr ⟨lw_p12, List.forall_mem_cons.mpr ⟨lw_p13, List.forall_mem_cons.mpr ⟨lw_p14, List.forall_mem_cons.mpr ⟨lw_p15, fun _ h => absurd h List.not_mem_nil⟩⟩⟩⟩⟩⟩⟩⟩⟩⟩⟩⟩⟩⟩⟩⟩
theorem lw_p16 : lw_okq (⟨"EditGuess$Fitting", "longestText", "()I"⟩, 10) := ⟨⟨by decide +kernel, by decide +kernel⟩, List.mem_of_getElem? (i := 67) (by decide +kernel), List.mem_of_getElem? (i := 463) (by decide +kernel), List.mem_of_getElem? (i := 464) (by decide +kernel)⟩
theorem lw_p17 : lw_okq (⟨"EditGuess$Fitting", "isNextInAll", "(I)Z"⟩, 10) := ⟨⟨by decide +kernel, by decide +kernel⟩, List.mem_of_getElem? (i := 67) (by decide +kernel), List.mem_of_getElem? (i := 467) (by decide +kernel), List.mem_of_getElem? (i := 468) (by decide +kernel)⟩
theorem lw_p18 : lw_okq (⟨"EditGuess$Fitting", "textTarget", "(II)I"⟩, 10) := ⟨⟨by decide +kernel, by decide +kernel⟩, List.mem_of_getElem? (i := 67) (by decide +kernel), List.mem_of_getElem? (i := 472) (by decide +kernel), List.mem_of_getElem? (i := 473) (by decide +kernel)⟩
theorem lw_p19 : lw_okq (⟨"EditGuess$Fitting", "addWays", "(IJ)V"⟩, 10) := ⟨⟨by decide +kernel, by decide +kernel⟩, List.mem_of_getElem? (i := 67) (by decide +kernel), List.mem_of_getElem? (i := 491) (by decide +kernel), List.mem_of_getElem? (i := 492) (by decide +kernel)⟩
theorem lw_p20 : lw_okq (⟨"EditGuess$Fitting", "leastFrom", "(I)I"⟩, 10) := ⟨⟨by decide +kernel, by decide +kernel⟩, List.mem_of_getElem? (i := 67) (by decide +kernel), List.mem_of_getElem? (i := 508) (by decide +kernel), List.mem_of_getElem? (i := 509) (by decide +kernel)⟩
theorem lw_p21 : lw_okq (⟨"EditGuess$Fitting", "tellCut", "(ILEditGuess$Plan;)I"⟩, 10) := ⟨⟨by decide +kernel, by decide +kernel⟩, List.mem_of_getElem? (i := 67) (by decide +kernel), List.mem_of_getElem? (i := 516) (by decide +kernel), List.mem_of_getElem? (i := 517) (by decide +kernel)⟩
theorem lw_p22 : lw_okq (⟨"EditGuess$Fitting", "tellText", "(ILEditGuess$Plan;)I"⟩, 10) := ⟨⟨by decide +kernel, by decide +kernel⟩, List.mem_of_getElem? (i := 67) (by decide +kernel), List.mem_of_getElem? (i := 532) (by decide +kernel), List.mem_of_getElem? (i := 533) (by decide +kernel)⟩
theorem lw_p23 : lw_okq (⟨"EditGuess", "makesResult", "(I)Z"⟩, 10) := ⟨⟨by decide +kernel, by decide +kernel⟩, List.mem_of_getElem? (i := 13) (by decide +kernel), List.mem_of_getElem? (i := 605) (by decide +kernel), List.mem_of_getElem? (i := 606) (by decide +kernel)⟩
theorem lw_p24 : lw_okq (⟨"EditGuess", "countAgreeing", "(I)J"⟩, 10) := ⟨⟨by decide +kernel, by decide +kernel⟩, List.mem_of_getElem? (i := 13) (by decide +kernel), List.mem_of_getElem? (i := 617) (by decide +kernel), List.mem_of_getElem? (i := 618) (by decide +kernel)⟩
theorem lw_p25 : lw_okq (⟨"EditGuessModel", "exampleFault", "()I"⟩, 28) := ⟨⟨by decide +kernel, by decide +kernel⟩, List.mem_of_getElem? (i := 646) (by decide +kernel), List.mem_of_getElem? (i := 755) (by decide +kernel), List.mem_of_getElem? (i := 756) (by decide +kernel)⟩
theorem lw_p26 : lw_okq (⟨"EditGuessModel", "lineFault", "()I"⟩, 28) := ⟨⟨by decide +kernel, by decide +kernel⟩, List.mem_of_getElem? (i := 646) (by decide +kernel), List.mem_of_getElem? (i := 762) (by decide +kernel), List.mem_of_getElem? (i := 763) (by decide +kernel)⟩
theorem lw_p27 : lw_okq (⟨"EditGuessModel", "goFrom", "(I)V"⟩, 28) := ⟨⟨by decide +kernel, by decide +kernel⟩, List.mem_of_getElem? (i := 646) (by decide +kernel), List.mem_of_getElem? (i := 782) (by decide +kernel), List.mem_of_getElem? (i := 783) (by decide +kernel)⟩
theorem lw_p28 : lw_okq (⟨"EditGuessModel", "lookAtPad", "()V"⟩, 28) := ⟨⟨by decide +kernel, by decide +kernel⟩, List.mem_of_getElem? (i := 646) (by decide +kernel), List.mem_of_getElem? (i := 790) (by decide +kernel), List.mem_of_getElem? (i := 791) (by decide +kernel)⟩
theorem lw_p29 : lw_okq (⟨"EditGuessModel", "placeOf", "(I)I"⟩, 28) := ⟨⟨by decide +kernel, by decide +kernel⟩, List.mem_of_getElem? (i := 646) (by decide +kernel), List.mem_of_getElem? (i := 794) (by decide +kernel), List.mem_of_getElem? (i := 795) (by decide +kernel)⟩
theorem lw_p30 : lw_okq (⟨"EditGuessModel", "runAt", "(IIZ)I"⟩, 28) := ⟨⟨by decide +kernel, by decide +kernel⟩, List.mem_of_getElem? (i := 646) (by decide +kernel), List.mem_of_getElem? (i := 798) (by decide +kernel), List.mem_of_getElem? (i := 799) (by decide +kernel)⟩
theorem lw_p31 : lw_okq (⟨"EditGuessModel", "layExamples", "()V"⟩, 28) := ⟨⟨by decide +kernel, by decide +kernel⟩, List.mem_of_getElem? (i := 646) (by decide +kernel), List.mem_of_getElem? (i := 807) (by decide +kernel), List.mem_of_getElem? (i := 808) (by decide +kernel)⟩
def lw_privs_2 : List (MethodName × Nat) := [(⟨"EditGuess$Fitting", "longestText", "()I"⟩, 10), (⟨"EditGuess$Fitting", "isNextInAll", "(I)Z"⟩, 10), (⟨"EditGuess$Fitting", "textTarget", "(II)I"⟩, 10), (⟨"EditGuess$Fitting", "addWays", "(IJ)V"⟩, 10), (⟨"EditGuess$Fitting", "leastFrom", "(I)I"⟩, 10), (⟨"EditGuess$Fitting", "tellCut", "(ILEditGuess$Plan;)I"⟩, 10), (⟨"EditGuess$Fitting", "tellText", "(ILEditGuess$Plan;)I"⟩, 10), (⟨"EditGuess", "makesResult", "(I)Z"⟩, 10), (⟨"EditGuess", "countAgreeing", "(I)J"⟩, 10), (⟨"EditGuessModel", "exampleFault", "()I"⟩, 28), (⟨"EditGuessModel", "lineFault", "()I"⟩, 28), (⟨"EditGuessModel", "goFrom", "(I)V"⟩, 28), (⟨"EditGuessModel", "lookAtPad", "()V"⟩, 28), (⟨"EditGuessModel", "placeOf", "(I)I"⟩, 28), (⟨"EditGuessModel", "runAt", "(IIZ)I"⟩, 28), (⟨"EditGuessModel", "layExamples", "()V"⟩, 28)]
theorem lw_r2 : ∀ q ∈ lw_privs_2, lw_okq q := List.forall_mem_cons.mpr ⟨lw_p16, List.forall_mem_cons.mpr ⟨lw_p17, List.forall_mem_cons.mpr ⟨lw_p18, List.forall_mem_cons.mpr ⟨lw_p19, List.forall_mem_cons.mpr ⟨lw_p20, List.forall_mem_cons.mpr ⟨lw_p21, List.forall_mem_cons.mpr ⟨lw_p22, List.forall_mem_cons.mpr ⟨lw_p23, List.forall_mem_cons.mpr ⟨lw_p24, List.forall_mem_cons.mpr ⟨lw_p25, List.forall_mem_cons.mpr ⟨lw_p26, List.forall_mem_cons.mpr ⟨lw_p27, List.forall_mem_cons.mpr ⟨lw_p28, List.forall_mem_cons.mpr ⟨lw_p29, List.forall_mem_cons.mpr ⟨lw_p30, List.forall_mem_cons.mpr ⟨lw_p31, fun _ h => absurd h List.not_mem_nil⟩⟩⟩⟩⟩⟩⟩⟩⟩⟩⟩⟩⟩⟩⟩⟩
theorem lw_p32 : lw_okq (⟨"EditGuessModel", "addWork", "()V"⟩, 28) := ⟨⟨by decide +kernel, by decide +kernel⟩, List.mem_of_getElem? (i := 646) (by decide +kernel), List.mem_of_getElem? (i := 811) (by decide +kernel), List.mem_of_getElem? (i := 812) (by decide +kernel)⟩
theorem lw_p33 : lw_okq (⟨"EditGuessModel", "count", "()J"⟩, 28) := ⟨⟨by decide +kernel, by decide +kernel⟩, List.mem_of_getElem? (i := 646) (by decide +kernel), List.mem_of_getElem? (i := 815) (by decide +kernel), List.mem_of_getElem? (i := 816) (by decide +kernel)⟩
theorem lw_p34 : lw_okq (⟨"EditGuessModel", "rows", "()I"⟩, 28) := ⟨⟨by decide +kernel, by decide +kernel⟩, List.mem_of_getElem? (i := 646) (by decide +kernel), List.mem_of_getElem? (i := 819) (by decide +kernel), List.mem_of_getElem? (i := 820) (by decide +kernel)⟩
theorem lw_p35 : lw_okq (⟨"EditGuessModel", "cut", "(III)I"⟩, 28) := ⟨⟨by decide +kernel, by decide +kernel⟩, List.mem_of_getElem? (i := 646) (by decide +kernel), List.mem_of_getElem? (i := 826) (by decide +kernel), List.mem_of_getElem? (i := 827) (by decide +kernel)⟩
theorem lw_p36 : lw_okq (⟨"EditGuessModel", "text", "(II)I"⟩, 28) := ⟨⟨by decide +kernel, by decide +kernel⟩, List.mem_of_getElem? (i := 646) (by decide +kernel), List.mem_of_getElem? (i := 833) (by decide +kernel), List.mem_of_getElem? (i := 834) (by decide +kernel)⟩
theorem lw_p37 : lw_okq (⟨"EditGuessModel", "end", "()I"⟩, 28) := ⟨⟨by decide +kernel, by decide +kernel⟩, List.mem_of_getElem? (i := 646) (by decide +kernel), List.mem_of_getElem? (i := 837) (by decide +kernel), List.mem_of_getElem? (i := 838) (by decide +kernel)⟩
theorem lw_p38 : lw_okq (⟨"EditGuessModel", "layBest", "()Z"⟩, 28) := ⟨⟨by decide +kernel, by decide +kernel⟩, List.mem_of_getElem? (i := 646) (by decide +kernel), List.mem_of_getElem? (i := 845) (by decide +kernel), List.mem_of_getElem? (i := 846) (by decide +kernel)⟩
theorem lw_p39 : lw_okq (⟨"EditGuessModel", "costOfCut", "(II)I"⟩, 28) := ⟨⟨by decide +kernel, by decide +kernel⟩, List.mem_of_getElem? (i := 646) (by decide +kernel), List.mem_of_getElem? (i := 850) (by decide +kernel), List.mem_of_getElem? (i := 851) (by decide +kernel)⟩
theorem lw_p40 : lw_okq (⟨"EditGuessModel", "goOn", "(I)I"⟩, 28) := ⟨⟨by decide +kernel, by decide +kernel⟩, List.mem_of_getElem? (i := 646) (by decide +kernel), List.mem_of_getElem? (i := 857) (by decide +kernel), List.mem_of_getElem? (i := 858) (by decide +kernel)⟩
theorem lw_p41 : lw_okq (⟨"EditGuessModel", "costOfPiece", "(I)I"⟩, 28) := ⟨⟨by decide +kernel, by decide +kernel⟩, List.mem_of_getElem? (i := 646) (by decide +kernel), List.mem_of_getElem? (i := 861) (by decide +kernel), List.mem_of_getElem? (i := 862) (by decide +kernel)⟩
theorem lw_p42 : lw_okq (⟨"EditGuessModel", "make", "()I"⟩, 28) := ⟨⟨by decide +kernel, by decide +kernel⟩, List.mem_of_getElem? (i := 646) (by decide +kernel), List.mem_of_getElem? (i := 873) (by decide +kernel), List.mem_of_getElem? (i := 874) (by decide +kernel)⟩
theorem lw_p43 : lw_okq (⟨"EditGuessModel", "lookAtPool", "(I)V"⟩, 28) := ⟨⟨by decide +kernel, by decide +kernel⟩, List.mem_of_getElem? (i := 646) (by decide +kernel), List.mem_of_getElem? (i := 881) (by decide +kernel), List.mem_of_getElem? (i := 882) (by decide +kernel)⟩
theorem lw_p44 : lw_okq (⟨"EditGuessModel", "agreeingOf", "(I)J"⟩, 28) := ⟨⟨by decide +kernel, by decide +kernel⟩, List.mem_of_getElem? (i := 646) (by decide +kernel), List.mem_of_getElem? (i := 890) (by decide +kernel), List.mem_of_getElem? (i := 891) (by decide +kernel)⟩
def lw_privs_3 : List (MethodName × Nat) := [(⟨"EditGuessModel", "addWork", "()V"⟩, 28), (⟨"EditGuessModel", "count", "()J"⟩, 28), (⟨"EditGuessModel", "rows", "()I"⟩, 28), (⟨"EditGuessModel", "cut", "(III)I"⟩, 28), (⟨"EditGuessModel", "text", "(II)I"⟩, 28), (⟨"EditGuessModel", "end", "()I"⟩, 28), (⟨"EditGuessModel", "layBest", "()Z"⟩, 28), (⟨"EditGuessModel", "costOfCut", "(II)I"⟩, 28), (⟨"EditGuessModel", "goOn", "(I)I"⟩, 28), (⟨"EditGuessModel", "costOfPiece", "(I)I"⟩, 28), (⟨"EditGuessModel", "make", "()I"⟩, 28), (⟨"EditGuessModel", "lookAtPool", "(I)V"⟩, 28), (⟨"EditGuessModel", "agreeingOf", "(I)J"⟩, 28)]
theorem lw_r3 : ∀ q ∈ lw_privs_3, lw_okq q := List.forall_mem_cons.mpr ⟨lw_p32, List.forall_mem_cons.mpr ⟨lw_p33, List.forall_mem_cons.mpr ⟨lw_p34, List.forall_mem_cons.mpr ⟨lw_p35, List.forall_mem_cons.mpr ⟨lw_p36, List.forall_mem_cons.mpr ⟨lw_p37, List.forall_mem_cons.mpr ⟨lw_p38, List.forall_mem_cons.mpr ⟨lw_p39, List.forall_mem_cons.mpr ⟨lw_p40, List.forall_mem_cons.mpr ⟨lw_p41, List.forall_mem_cons.mpr ⟨lw_p42, List.forall_mem_cons.mpr ⟨lw_p43, List.forall_mem_cons.mpr ⟨lw_p44, fun _ h => absurd h List.not_mem_nil⟩⟩⟩⟩⟩⟩⟩⟩⟩⟩⟩⟩⟩
def lw_privs : List (MethodName × Nat) := lw_privs_1 ++ (lw_privs_2 ++ (lw_privs_3))
def lw_tbl : List Cond := k2_sels lw_privs ++ tables_1
theorem lw_privs_ok : ∀ q ∈ lw_privs, lw_okq q := by
  show ∀ q ∈ lw_privs_1 ++ (lw_privs_2 ++ (lw_privs_3)), lw_okq q
  exact List.forall_mem_append.mpr ⟨lw_r1, List.forall_mem_append.mpr ⟨lw_r2, lw_r3⟩⟩
-- ===== end of PART A; then your names; then what follows =====
end
section
/-! the words that a method may need: those of the tables that stay as they are while the machine runs -/
def zG : List Cond := lw_tbl.filter goodWord
theorem zgm {w : Cond} (h : w ∈ lw_tbl) (hg : goodWord w = true) : w ∈ zG := List.mem_filter.mpr ⟨h, hg⟩
theorem zg_good {w : Cond} (h : w ∈ zG) : (w.onTables && w.keeps) = true ∨ ∃ ty, w = .arrayClass ty := good_of_word (List.mem_filter.mp h).2
/-! the classes: their fields -/
def zN0 : String := "EditGuess$Book"
def zT0 : u_T := fun k => match k with
  | 0 => ("EditGuess$Book", "exampleLines", "[LEditGuess$Signs;", true)
  | 1 => ("EditGuess$Book", "results", "[LEditGuess$Signs;", true)
  | 2 => ("EditGuess$Book", "lines", "[LEditGuess$Signs;", true)
  | 3 => ("EditGuess$Book", "examples", "I", false)
  | _ => ("EditGuess$Book", "pooled", "I", false)
def zt0 : Nat → FieldType := fun k => match k with
  | 0 => (.array (.object "EditGuess$Signs"))
  | 1 => (.array (.object "EditGuess$Signs"))
  | 2 => (.array (.object "EditGuess$Signs"))
  | 3 => .int
  | _ => .int
theorem zin0 : ∀ w ∈ u_ws zN0 zT0 5, w ∈ zG := by decide +kernel
theorem znm0 : ∀ a, a < 5 → ∀ b, b < 5 → a ≠ b → (zT0 a).2.1 ≠ (zT0 b).2.1 := by decide +kernel
theorem ztk0 : ∀ k, k < 5 → parseFieldDescriptor (zT0 k).2.2.1 = some (zt0 k) := by decide +kernel
def zN1 : String := "EditGuess$Fitting"
def zT1 : u_T := fun k => match k with
  | 0 => ("EditGuess$Fitting", "rows", "[LEditGuess$Row;", true)
  | 1 => ("EditGuess$Fitting", "reached", "[I", true)
  | 2 => ("EditGuess$Fitting", "heads", "[I", true)
  | 3 => ("EditGuess$Fitting", "sizes", "[I", true)
  | 4 => ("EditGuess$Fitting", "prices", "[I", true)
  | 5 => ("EditGuess$Fitting", "moves", "LEditGuess$Moves;", true)
  | 6 => ("EditGuess$Fitting", "ways", "[J", true)
  | 7 => ("EditGuess$Fitting", "least", "[I", true)
  | 8 => ("EditGuess$Fitting", "many", "I", false)
  | _ => ("EditGuess$Fitting", "groups", "I", false)
def zt1 : Nat → FieldType := fun k => match k with
  | 0 => (.array (.object "EditGuess$Row"))
  | 1 => (.array .int)
  | 2 => (.array .int)
  | 3 => (.array .int)
  | 4 => (.array .int)
  | 5 => (.object "EditGuess$Moves")
  | 6 => (.array .long)
  | 7 => (.array .int)
  | 8 => .int
  | _ => .int
theorem zin1 : ∀ w ∈ u_ws zN1 zT1 10, w ∈ zG := by decide +kernel
theorem znm1 : ∀ a, a < 10 → ∀ b, b < 10 → a ≠ b → (zT1 a).2.1 ≠ (zT1 b).2.1 := by decide +kernel
theorem ztk1 : ∀ k, k < 10 → parseFieldDescriptor (zT1 k).2.2.1 = some (zt1 k) := by decide +kernel
def zN2 : String := "EditGuess$Moves"
def zT2 : u_T := fun k => match k with
  | 0 => ("EditGuess$Moves", "targets", "[I", true)
  | 1 => ("EditGuess$Moves", "times", "[I", true)
  | 2 => ("EditGuess$Moves", "prices", "[I", true)
  | _ => ("EditGuess$Moves", "many", "I", false)
def zt2 : Nat → FieldType := fun k => match k with
  | 0 => (.array .int)
  | 1 => (.array .int)
  | 2 => (.array .int)
  | _ => .int
theorem zin2 : ∀ w ∈ u_ws zN2 zT2 4, w ∈ zG := by decide +kernel
theorem znm2 : ∀ a, a < 4 → ∀ b, b < 4 → a ≠ b → (zT2 a).2.1 ≠ (zT2 b).2.1 := by decide +kernel
theorem ztk2 : ∀ k, k < 4 → parseFieldDescriptor (zT2 k).2.2.1 = some (zt2 k) := by decide +kernel
def zN3 : String := "EditGuess$Piece"
def zT3 : u_T := fun k => match k with
  | 0 => ("EditGuess$Piece", "text", "LEditGuess$Signs;", true)
  | 1 => ("EditGuess$Piece", "isText", "Z", false)
  | 2 => ("EditGuess$Piece", "first", "I", false)
  | _ => ("EditGuess$Piece", "second", "I", false)
def zt3 : Nat → FieldType := fun k => match k with
  | 0 => (.object "EditGuess$Signs")
  | 1 => .boolean
  | 2 => .int
  | _ => .int
theorem zin3 : ∀ w ∈ u_ws zN3 zT3 4, w ∈ zG := by decide +kernel
theorem znm3 : ∀ a, a < 4 → ∀ b, b < 4 → a ≠ b → (zT3 a).2.1 ≠ (zT3 b).2.1 := by decide +kernel
theorem ztk3 : ∀ k, k < 4 → parseFieldDescriptor (zT3 k).2.2.1 = some (zt3 k) := by decide +kernel
def zN4 : String := "EditGuess$Plan"
def zT4 : u_T := fun k => match k with
  | 0 => ("EditGuess$Plan", "pieces", "[LEditGuess$Piece;", true)
  | _ => ("EditGuess$Plan", "many", "I", false)
def zt4 : Nat → FieldType := fun k => match k with
  | 0 => (.array (.object "EditGuess$Piece"))
  | _ => .int
theorem zin4 : ∀ w ∈ u_ws zN4 zT4 2, w ∈ zG := by decide +kernel
theorem znm4 : ∀ a, a < 2 → ∀ b, b < 2 → a ≠ b → (zT4 a).2.1 ≠ (zT4 b).2.1 := by decide +kernel
theorem ztk4 : ∀ k, k < 2 → parseFieldDescriptor (zT4 k).2.2.1 = some (zt4 k) := by decide +kernel
def zN5 : String := "EditGuess$Row"
def zT5 : u_T := fun k => match k with
  | 0 => ("EditGuess$Row", "result", "LEditGuess$Signs;", true)
  | 1 => ("EditGuess$Row", "places", "[I", true)
  | _ => ("EditGuess$Row", "alike", "[[I", true)
def zt5 : Nat → FieldType := fun k => match k with
  | 0 => (.object "EditGuess$Signs")
  | 1 => (.array .int)
  | _ => (.array (.array .int))
theorem zin5 : ∀ w ∈ u_ws zN5 zT5 3, w ∈ zG := by decide +kernel
theorem znm5 : ∀ a, a < 3 → ∀ b, b < 3 → a ≠ b → (zT5 a).2.1 ≠ (zT5 b).2.1 := by decide +kernel
theorem ztk5 : ∀ k, k < 3 → parseFieldDescriptor (zT5 k).2.2.1 = some (zt5 k) := by decide +kernel
def zN6 : String := "EditGuess$Signs"
def zT6 : u_T := fun k => match k with
  | 0 => ("EditGuess$Signs", "codes", "[I", true)
  | 1 => ("EditGuess$Signs", "kinds", "[I", true)
  | _ => ("EditGuess$Signs", "many", "I", false)
def zt6 : Nat → FieldType := fun k => match k with
  | 0 => (.array .int)
  | 1 => (.array .int)
  | _ => .int
theorem zin6 : ∀ w ∈ u_ws zN6 zT6 3, w ∈ zG := by decide +kernel
theorem znm6 : ∀ a, a < 3 → ∀ b, b < 3 → a ≠ b → (zT6 a).2.1 ≠ (zT6 b).2.1 := by decide +kernel
theorem ztk6 : ∀ k, k < 3 → parseFieldDescriptor (zT6 k).2.2.1 = some (zt6 k) := by decide +kernel
def zN7 : String := "EditGuess"
def zT7 : u_T := fun k => match k with
  | 0 => ("EditGuess", "pad", "LEditGuess$Signs;", true)
  | 1 => ("EditGuess", "book", "LEditGuess$Book;", true)
  | 2 => ("EditGuess", "images", "[LEditGuess$Book;", true)
  | 3 => ("EditGuess", "kept", "[Z", true)
  | 4 => ("EditGuess", "fitting", "LEditGuess$Fitting;", true)
  | 5 => ("EditGuess", "best", "LEditGuess$Plan;", true)
  | 6 => ("EditGuess", "made", "LEditGuess$Signs;", true)
  | 7 => ("EditGuess", "agreed", "[J", true)
  | 8 => ("EditGuess", "guessed", "Z", false)
  | _ => ("EditGuess", "fitted", "J", false)
def zt7 : Nat → FieldType := fun k => match k with
  | 0 => (.object "EditGuess$Signs")
  | 1 => (.object "EditGuess$Book")
  | 2 => (.array (.object "EditGuess$Book"))
  | 3 => (.array .boolean)
  | 4 => (.object "EditGuess$Fitting")
  | 5 => (.object "EditGuess$Plan")
  | 6 => (.object "EditGuess$Signs")
  | 7 => (.array .long)
  | 8 => .boolean
  | _ => .long
theorem zin7 : ∀ w ∈ u_ws zN7 zT7 10, w ∈ zG := by decide +kernel
theorem znm7 : ∀ a, a < 10 → ∀ b, b < 10 → a ≠ b → (zT7 a).2.1 ≠ (zT7 b).2.1 := by decide +kernel
theorem ztk7 : ∀ k, k < 10 → parseFieldDescriptor (zT7 k).2.2.1 = some (zt7 k) := by decide +kernel
def zN8 : String := "EditGuessModel"
def zT8 : u_T := fun k => match k with
  | 0 => ("EditGuessModel", "lines", "[I", true)
  | 1 => ("EditGuessModel", "lineSize", "[I", true)
  | 2 => ("EditGuessModel", "outs", "[I", true)
  | 3 => ("EditGuessModel", "outSize", "[I", true)
  | 4 => ("EditGuessModel", "examples", "I", false)
  | 5 => ("EditGuessModel", "pools", "[I", true)
  | 6 => ("EditGuessModel", "poolSize", "[I", true)
  | 7 => ("EditGuessModel", "many", "I", false)
  | 8 => ("EditGuessModel", "signs", "I", false)
  | 9 => ("EditGuessModel", "pad", "[I", true)
  | 10 => ("EditGuessModel", "codes", "[I", true)
  | 11 => ("EditGuessModel", "now", "[I", true)
  | 12 => ("EditGuessModel", "size", "I", false)
  | 13 => ("EditGuessModel", "workLine", "[I", true)
  | 14 => ("EditGuessModel", "workOut", "[I", true)
  | 15 => ("EditGuessModel", "workSize", "[I", true)
  | 16 => ("EditGuessModel", "marks", "[I", true)
  | 17 => ("EditGuessModel", "work", "I", false)
  | 18 => ("EditGuessModel", "ways", "[J", true)
  | 19 => ("EditGuessModel", "least", "[I", true)
  | 20 => ("EditGuessModel", "kind", "[I", true)
  | 21 => ("EditGuessModel", "one", "[I", true)
  | 22 => ("EditGuessModel", "other", "[I", true)
  | 23 => ("EditGuessModel", "pieces", "I", false)
  | 24 => ("EditGuessModel", "cost", "I", false)
  | 25 => ("EditGuessModel", "made", "[I", true)
  | 26 => ("EditGuessModel", "image", "[I", true)
  | _ => ("EditGuessModel", "isKept", "[Z", true)
def zt8 : Nat → FieldType := fun k => match k with
  | 0 => (.array .int)
  | 1 => (.array .int)
  | 2 => (.array .int)
  | 3 => (.array .int)
  | 4 => .int
  | 5 => (.array .int)
  | 6 => (.array .int)
  | 7 => .int
  | 8 => .int
  | 9 => (.array .int)
  | 10 => (.array .int)
  | 11 => (.array .int)
  | 12 => .int
  | 13 => (.array .int)
  | 14 => (.array .int)
  | 15 => (.array .int)
  | 16 => (.array .int)
  | 17 => .int
  | 18 => (.array .long)
  | 19 => (.array .int)
  | 20 => (.array .int)
  | 21 => (.array .int)
  | 22 => (.array .int)
  | 23 => .int
  | 24 => .int
  | 25 => (.array .int)
  | 26 => (.array .int)
  | _ => (.array .boolean)
theorem zin8 : ∀ w ∈ u_ws zN8 zT8 28, w ∈ zG := by decide +kernel
theorem znm8 : ∀ a, a < 28 → ∀ b, b < 28 → a ≠ b → (zT8 a).2.1 ≠ (zT8 b).2.1 := by decide +kernel
theorem ztk8 : ∀ k, k < 28 → parseFieldDescriptor (zT8 k).2.2.1 = some (zt8 k) := by decide +kernel
def zcl : List vw_C := [(zN0, zT0, 5), (zN1, zT1, 10), (zN2, zT2, 4), (zN3, zT3, 4), (zN4, zT4, 2), (zN5, zT5, 3), (zN6, zT6, 3), (zN7, zT7, 10), (zN8, zT8, 28)]
def ztf (ci : Nat) : Nat → FieldType := match ci with
  | 0 => zt0
  | 1 => zt1
  | 2 => zt2
  | 3 => zt3
  | 4 => zt4
  | 5 => zt5
  | 6 => zt6
  | 7 => zt7
  | _ => zt8
theorem zcl_in : ∀ (ci : Nat) (q : vw_C), zcl[ci]? = some q → ∀ w ∈ u_ws q.1 q.2.1 q.2.2, w ∈ zG := by
  intro ci q h
  match ci, h with
  | 0, h => cases h; exact zin0
  | 1, h => cases h; exact zin1
  | 2, h => cases h; exact zin2
  | 3, h => cases h; exact zin3
  | 4, h => cases h; exact zin4
  | 5, h => cases h; exact zin5
  | 6, h => cases h; exact zin6
  | 7, h => cases h; exact zin7
  | 8, h => cases h; exact zin8
  | ci + 9, h => simp [zcl] at h
theorem zcl_nm : ∀ (ci : Nat) (q : vw_C), zcl[ci]? = some q → ∀ a, a < q.2.2 → ∀ b, b < q.2.2 → a ≠ b → (q.2.1 a).2.1 ≠ (q.2.1 b).2.1 := by
  intro ci q h
  match ci, h with
  | 0, h => cases h; exact znm0
  | 1, h => cases h; exact znm1
  | 2, h => cases h; exact znm2
  | 3, h => cases h; exact znm3
  | 4, h => cases h; exact znm4
  | 5, h => cases h; exact znm5
  | 6, h => cases h; exact znm6
  | 7, h => cases h; exact znm7
  | 8, h => cases h; exact znm8
  | ci + 9, h => simp [zcl] at h
theorem zcl_ty : ∀ (ci : Nat) (q : vw_C), zcl[ci]? = some q → ∀ k, k < q.2.2 → parseFieldDescriptor (q.2.1 k).2.2.1 = some (ztf ci k) := by
  intro ci q h
  match ci, h with
  | 0, h => cases h; exact ztk0
  | 1, h => cases h; exact ztk1
  | 2, h => cases h; exact ztk2
  | 3, h => cases h; exact ztk3
  | 4, h => cases h; exact ztk4
  | 5, h => cases h; exact ztk5
  | 6, h => cases h; exact ztk6
  | 7, h => cases h; exact ztk7
  | 8, h => cases h; exact ztk8
  | ci + 9, h => simp [zcl] at h
end
section
/-! A program logic over the machine: wp0 m Q pc lo st cs ss n f: from the place pc of the method m, with the locals lo, the stack st, over a world of n cells whose contents are f, the method comes to its end with Q. References are numbers of cells; the machine's addresses are these numbers and the base of the world. -/
abbrev Zm : Type := MethodName × ByteArray × Nat × Option FieldType × (Nat × Nat × Nat × Nat) × Bool
def zy (m : Zm) : MethodName := m.1
def zb (m : Zm) : ByteArray := m.2.1
def zl (m : Zm) : Nat := m.2.2.1
def zr (m : Zm) : Option FieldType := m.2.2.2.1
def zk (m : Zm) : Nat × Nat × Nat × Nat := m.2.2.2.2.1
def zg (m : Zm) : Bool := m.2.2.2.2.2
def zR (m : Zm) : Room := { frames := (zk m).1, cells := (zk m).2.1, slots := (zk m).2.2.1, locals := (zk m).2.2.2 }
def zw (m : Zm) : List Cond := Cond.code (zy m) (zb m) (zl m) (zr m) :: zG
/-- the world: its base, the classes and slots, the array classes -/
abbrev Zo : Type := Nat × va_G × (Nat → ClassId)
def trV (B : Nat) (v : Value) : Value := match v with
  | .ref a => .ref (B + a)
  | w => w
def trL (B : Nat) (q : Nat × Value) : Nat × Value := (q.1, trV B q.2)
theorem trV_cat (B : Nat) (v : Value) : (trV B v).category = v.category := by cases v <;> rfl
/-- what a cell holds: an array (its type's number, its length, its contents) or an object (its class's number, its fields) -/
abbrev En : Type := (Nat × Nat × ((Nat → Int32) ⊕ (Nat → Int64) ⊕ (Nat → Option Nat))) ⊕ (Nat × List Value)
def trE (o : Zo) (e : En) : va_E := match e with
  | .inl (t, n, .inl f) => .inl (o.2.2 t, n, .inl f)
  | .inl (t, n, .inr (.inl f)) => .inl (o.2.2 t, n, .inr (.inl f))
  | .inl (t, n, .inr (.inr f)) => .inl (o.2.2 t, n, .inr (.inr (.inr (.inr (fun i => (f i).map (fun a => o.1 + a))))))
  | .inr (ci, fs) => .inr (ci, fs.map (trV o.1))
def ztys (o : Zo) : List (ClassId × FieldType) := [(o.2.2 0, .int), (o.2.2 1, .long), (o.2.2 2, .boolean), (o.2.2 3, .object "EditGuess$Signs"), (o.2.2 4, .object "EditGuess$Book"), (o.2.2 5, .object "EditGuess$Piece"), (o.2.2 6, .object "EditGuess$Row"), (o.2.2 7, .array .int)]
/-- the world's cells in a heap -/
def Hw (o : Zo) (n : Nat) (f : Nat → En) (H : Heap) : Prop := ∀ a : Nat, a < n → va_at o.2.1 zcl (o.1 + a, trE o (f a)) H
theorem Hw.congr {o : Zo} {n : Nat} {f g : Nat → En} {H : Heap} (h : Hw o n f H) (e : ∀ a, a < n → f a = g a) : Hw o n g H := fun a ha => by rw [← e a ha]; exact h a ha
theorem Hw.put {o : Zo} {n a : Nat} {f : Nat → En} {H H1 : Heap} {e : En} (h : Hw o n f H) (he : va_at o.2.1 zcl (o.1 + a, trE o e) H1) (oq : ∀ q : Nat, q ≠ o.1 + a → H1[q]? = H[q]?) : Hw o n (va_up f a e) H1 := fun b hb => by
  by_cases hba : b = a
  · subst hba
    rw [show va_up f b e b = e from if_pos rfl]
    exact he
  · rw [show va_up f a e b = f b from if_neg hba]
    exact (h b hb).kept (oq _ (fun z => hba (by omega)))
theorem Hw.push {o : Zo} {n : Nat} {f : Nat → En} {H H1 : Heap} {e : En} (h : Hw o n f H) (he : va_at o.2.1 zcl (o.1 + n, trE o e) H1) (oq : ∀ q : Nat, q < o.1 + n → H1[q]? = H[q]?) : Hw o (n + 1) (va_up f n e) H1 := fun b hb => by
  by_cases hba : b = n
  · subst hba
    rw [show va_up f b e b = e from if_pos rfl]
    exact he
  · rw [show va_up f n e b = f b from if_neg hba]
    exact (h b (by omega)).kept (oq _ (by show o.1 + b < _; omega))
/-- the nest mates' private constructors that are called -/
def znest : List (String × Nat × MethodName × String) := [("EditGuess$Fitting", 34, ⟨"EditGuess$Moves", "<init>", "()V"⟩, "EditGuess"), ("EditGuess$Fitting", 46, ⟨"EditGuess$Row", "<init>", "()V"⟩, "EditGuess"), ("EditGuess$Plan", 17, ⟨"EditGuess$Piece", "<init>", "()V"⟩, "EditGuess")]
/-- what the tables say of the machine's classes -/
def Zk (o : Zo) (U : State) : Prop := va_K o.2.1 zcl (ztys o) U ∧ (va_AO "EditGuess$Signs" U ∧ va_AO "EditGuess$Book" U ∧ va_AO "EditGuess$Piece" U ∧ va_AO "EditGuess$Row" U) ∧ ∀ q ∈ znest, va_Nw (.methodLinkNest q.1 q.2.1 q.2.2.1 q.2.2.2) U
theorem Zk.warm {o : Zo} {u U : State} (hW : u.WarmedH U.vm) (h : Zk o u) : Zk o U := ⟨va_K.moved hW.alike h.1, ⟨h.2.1.1.moved hW.alike, h.2.1.2.1.moved hW.alike, h.2.1.2.2.1.moved hW.alike, h.2.1.2.2.2.moved hW.alike⟩, fun q hq => va_Nw.warmM hW (h.2.2 q hq)⟩
theorem Zk.same {o : Zo} {u U : State} (e : u.vm = U.vm) (h : Zk o u) : Zk o U := by
  have hA : u.vm.Alike U.vm := by rw [e]; exact Vm.Alike.refl _
  exact ⟨va_K.moved hA h.1, ⟨h.2.1.1.moved hA, h.2.1.2.1.moved hA, h.2.1.2.2.1.moved hA, h.2.1.2.2.2.moved hA⟩, fun q hq => va_Nw.same rfl e (h.2.2 q hq)⟩
/-- which cells a method may change: the world's, and those that it makes -/
def zA (B n sz : Nat) : Nat → Prop := fun q => (B ≤ q ∧ q < B + n) ∨ sz ≤ q
/-- what holds of the machine while a method runs -/
def Zx (m : Zm) (p : Program) (s : State) (mi : MethodId) (args : Array Value) (meth : Method) (c : Code) (o : Zo) (n0 : Nat) : Prop :=
  p.tables.exec = Jvm.exec ∧ c.code = zb m ∧ meth.sig.returnType = zr m ∧ c.maxLocals = zl m ∧ s.vm.findClass (zy m).cls = some mi.cls ∧ (∀ w ∈ zw m, w.before args s = true) ∧ meth.locks = false ∧ meth.name = (zy m).name ∧ Zk o s ∧ (zg m = true → s.heap.size = o.1 + n0) ∧ o.1 + n0 ≤ s.heap.size
/-- the end of a method -/
def Zq (m : Zm) (o : Zo) (n0 : Nat) (Q : Option Value → Nat → (Nat → En) → Prop) (A : Nat → Prop) : Array Value → State → Outcome → State → Prop := fun _ st oc t =>
  (∃ (v : Option Value) (n' : Nat) (f' : Nat → En), oc = .returned (v.map (trV o.1)) ∧ Q v n' f' ∧ n0 ≤ n' ∧ Hw o n' f' t.heap ∧ t.heap.size + n0 = st.heap.size + n' ∧ (zg m = false → n' = n0)) ∧ va_F A st t
/-- where a method's walk stands -/
def Zs (m : Zm) (s : State) (o : Zo) (n0 : Nat) (H : Heap) (locs : List Loc) (ls : Array Slot) (lo : List (Nat × Value)) (n : Nat) (f : Nat → En) : Prop :=
  Hw o n f H ∧ n0 ≤ n ∧ H.size + n0 = s.heap.size + n ∧ (zg m = false → n = n0) ∧ va_S (zA o.1 n0 s.heap.size) s.heap H locs ∧ lv_has ls (zl m) (lo.map (trL o.1))
def wp0 (m : Zm) (Q : Option Value → Nat → (Nat → En) → Prop) (pc : Nat) (lo : List (Nat × Value)) (st : List Value) (cs ss : Nat) (n : Nat) (f : Nat → En) : Prop :=
  ∀ (p : Program) (l : Launch) (e : Env) (s : State) (mi : MethodId) (args : Array Value) (below : List Frame) (meth : Method) (c : Code) (o : Zo) (n0 : Nat) (H : Heap) (locs : List Loc) (ls : Array Slot),
    Zx m p s mi args meth c o n0 → Zs m s o n0 H locs ls lo n f →
    W p l e (headSpec (zw m) (zR m)).room s mi args below meth c H locs cs ss (MQ below (Zq m o n0 Q (zA o.1 n0 s.heap.size)) args s (zR m).cells (zR m).slots (zA o.1 n0 s.heap.size)) (F0 mi pc ls (st.map (trV o.1)))
/-- a method's contract at given arguments and a given world -/
def Call0 (m : Zm) (as : List Value) (n : Nat) (f : Nat → En) (Q : Option Value → Nat → (Nat → En) → Prop) : Prop :=
  ∀ (l : Launch) (o : Zo) (sz : Nat), Met l (zy m) (zw m) (zR m) (va_Pc (as.map (trV o.1)) (fun U => U.heap.size = sz ∧ Hw o n f U.heap ∧ Zk o U ∧ (zg m = true → sz = o.1 + n) ∧ o.1 + n ≤ sz)) (Zq m o n Q (zA o.1 n sz)) (zR m).cells (zR m).slots (zA o.1 n sz)
theorem lv_args_tr (B : Nat) : ∀ (as : List Value) (i : Nat), lv_args i (as.map (trV B)) = (lv_args i as).map (trL B)
  | [], _ => rfl
  | v :: vs, i => by
    show (i, trV B v) :: lv_args (if (trV B v).category = 2 then i + 2 else i + 1) (vs.map (trV B)) = (i, trV B v) :: (lv_args (if v.category = 2 then i + 2 else i + 1) vs).map (trL B)
    rw [trV_cat, lv_args_tr B vs]
theorem lg_sl_tr (B : Nat) : ∀ (as : List Value), (lg_sl (as.map (trV B))).length = (lg_sl as).length
  | [] => rfl
  | v :: vs => by
    have ih := lg_sl_tr B vs
    simp only [lg_sl, List.map_cons, List.flatMap_cons, List.length_append] at ih ⊢
    rw [ih, trV_cat]
    split <;> rfl
/-- a contract out of a walk -/
theorem call0_of {m : Zm} {as : List Value} {n : Nat} {f : Nat → En} {Q : Option Value → Nat → (Nat → En) → Prop} (hpl : plainName (zy m).cls = true) (hlen : (lg_sl as).length ≤ zl m) (h : wp0 m Q 0 (lv_args 0 as) [] 0 0 n f) : Call0 m as n f Q := by
  intro l o sz
  refine Met.ofW (cc := zb m) (maxL := zl m) (ret := zr m) hpl rfl ?_
  intro p e s mi args below meth c s₁ B hml hv
  obtain ⟨rfl, hsz, hH, hK, hg, hb⟩ := hv
  subst hsz
  have hts := atoms_spec (ws := zw m) B.pre
  have hx : Zx m p s mi (as.map (trV o.1)).toArray meth c o n := ⟨B.exec, B.bytes, B.returns, hml, findClass_of_methodNamed B.named, hts, B.notSynchronized, (name_of_methodNamed B.named B.method).1, hK, hg, hb⟩
  have hl := lv_entry (as.map (trV o.1)) (n := zl m) (by rw [lg_sl_tr]; exact hlen)
  rw [lg_entry_eq]
  generalize (lg_sl (as.map (trV o.1)) ++ List.replicate (zl m - (lg_sl (as.map (trV o.1))).length) Slot.unset).toArray = ls at hl ⊢
  rw [lv_args_tr] at hl
  exact h p l e s mi _ below meth c o n s.heap [] ls hx ⟨hH, Nat.le_refl _, rfl, fun _ => rfl, va_S.rf, hl⟩
end
section
/-! the rows of the logic: an instruction a row -/
section ZST
variable {m : Zm} {Q : Option Value → Nat → (Nat → En) → Prop} {pc : Nat} {lo lo' : List (Nat × Value)} {st : List Value} {cs ss n : Nat} {f : Nat → En}
theorem zlo {o : Zo} {ls : Array Slot} {nL : Nat} (h : lv_has ls nL (lo.map (trL o.1))) (k : Nat) {i : Nat} {v : Value} (hk : lo[k]? = some (i, v)) : ls[i]? = some (.val (trV o.1 v)) :=
  h.2.2 (i, trV o.1 v) (List.mem_of_getElem? (i := k) (by rw [List.getElem?_map, hk]; rfl))
theorem zfil1 (B i : Nat) : ∀ l : List (Nat × Value), (l.map (trL B)).filter (fun q => !(q.1 == i) && !(q.1 + 1 == i && q.2.category == 2)) = (l.filter (fun q => !(q.1 == i) && !(q.1 + 1 == i && q.2.category == 2))).map (trL B) := fun l => by
  rw [List.filter_map]
  congr 1
  apply List.filter_congr
  intro q _
  show (!(q.1 == i) && !(q.1 + 1 == i && (trV B q.2).category == 2)) = _
  rw [trV_cat]
theorem zfil2 (B i : Nat) : ∀ l : List (Nat × Value), (l.map (trL B)).filter (fun q => !(q.1 == i) && (!(q.1 == i + 1) && !(q.1 + 1 == i && q.2.category == 2))) = (l.filter (fun q => !(q.1 == i) && (!(q.1 == i + 1) && !(q.1 + 1 == i && q.2.category == 2)))).map (trL B) := fun l => by
  rw [List.filter_map]
  congr 1
  apply List.filter_congr
  intro q _
  show (!(q.1 == i) && (!(q.1 == i + 1) && !(q.1 + 1 == i && (trV B q.2).category == 2))) = _
  rw [trV_cat]
/-- fewer locals, in any order -/
theorem s_sub (ks : List Nat) (hl : lv_pick lo ks = lo') (kk : wp0 m Q pc lo' st cs ss n f) : wp0 m Q pc lo st cs ss n f := fun p l e s mi args below meth c o n0 H locs ls C S =>
  kk p l e s mi args below meth c o n0 H locs ls C ⟨S.1, S.2.1, S.2.2.1, S.2.2.2.1, S.2.2.2.2.1, lv_sub S.2.2.2.2.2 ks (by
    rw [← hl]
    unfold lv_pick
    rw [List.map_filterMap]
    congr 1
    funext k
    rw [List.getElem?_map])⟩
theorem s_mono {Q' : Option Value → Nat → (Nat → En) → Prop} (h : ∀ v n f, Q' v n f → Q v n f) (kk : wp0 m Q' pc lo st cs ss n f) : wp0 m Q pc lo st cs ss n f := fun p l e s mi args below meth c o n0 H locs ls C S T hT X => by
  obtain ⟨t, a, oc, b1, b2, ⟨⟨v, n', f', c1, c2, c3⟩, c4⟩, b4⟩ := kk p l e s mi args below meth c o n0 H locs ls C S T hT X
  exact ⟨t, a, oc, b1, b2, ⟨⟨v, n', f', c1, h _ _ _ c2, c3⟩, c4⟩, b4⟩

theorem s_iconst {z : Int} {v : Int32} (hd : decode (zb m) pc = .ok (.iconst z, 1)) (hv : Int32.ofInt z = v) (kk : wp0 m Q (pc + 1) lo (.int v :: st) cs ss n f) : wp0 m Q pc lo st cs ss n f := fun p l e s mi args below meth c o n0 H locs ls C S => lv_iconst C.1 C.2.1 hd hv (kk p l e s mi args below meth c o n0 H locs ls C S)
theorem s_bipush {z : Int} {v : Int32} (hd : decode (zb m) pc = .ok (.bipush z, 2)) (hv : (Int8.ofInt z).toInt32 = v) (kk : wp0 m Q (pc + 2) lo (.int v :: st) cs ss n f) : wp0 m Q pc lo st cs ss n f := fun p l e s mi args below meth c o n0 H locs ls C S => lv_bipush C.1 C.2.1 hd hv (kk p l e s mi args below meth c o n0 H locs ls C S)
theorem s_sipush {z : Int} {v : Int32} (hd : decode (zb m) pc = .ok (.sipush z, 3)) (hv : (Int16.ofInt z).toInt32 = v) (kk : wp0 m Q (pc + 3) lo (.int v :: st) cs ss n f) : wp0 m Q pc lo st cs ss n f := fun p l e s mi args below meth c o n0 H locs ls C S => lv_sipush C.1 C.2.1 hd hv (kk p l e s mi args below meth c o n0 H locs ls C S)
theorem s_lconst {z : Fin 2} {v : Int64} (hd : decode (zb m) pc = .ok (.lconst z, 1)) (hv : Int64.ofNat (z : Nat) = v) (kk : wp0 m Q (pc + 1) lo (.long v :: st) cs ss n f) : wp0 m Q pc lo st cs ss n f := fun p l e s mi args below meth c o n0 H locs ls C S => lv_lconst C.1 C.2.1 hd hv (kk p l e s mi args below meth c o n0 H locs ls C S)
theorem s_ldc {i : Nat} {v : Int32} (hd : decode (zb m) pc = .ok (.ldc i, 2)) (hw : Cond.constant (zy m).cls i v ∈ zG) (kk : wp0 m Q (pc + 2) lo (.int v :: st) cs ss n f) : wp0 m Q pc lo st cs ss n f := fun p l e s mi args below meth c o n0 H locs ls C S => lv_ldc C.1 C.2.1 C.2.2.2.2.1 (C.2.2.2.2.2.1 _ (List.mem_cons_of_mem _ hw)) hd (kk p l e s mi args below meth c o n0 H locs ls C S)
theorem s_ldc2_w {i : Nat} {v : Int64} (hd : decode (zb m) pc = .ok (.ldc2_w i, 3)) (hw : Cond.constantLong (zy m).cls i v ∈ zG) (kk : wp0 m Q (pc + 3) lo (.long v :: st) cs ss n f) : wp0 m Q pc lo st cs ss n f := fun p l e s mi args below meth c o n0 H locs ls C S => lv_ldc2 C.1 C.2.1 C.2.2.2.2.1 (C.2.2.2.2.2.1 _ (List.mem_cons_of_mem _ hw)) hd (kk p l e s mi args below meth c o n0 H locs ls C S)
theorem s_iload {i : Nat} {v : Int32} (k : Nat) (hd : decode (zb m) pc = .ok (.iload i, 2)) (hl : lo[k]? = some (i, .int v)) (kk : wp0 m Q (pc + 2) lo (.int v :: st) cs ss n f) : wp0 m Q pc lo st cs ss n f := fun p l e s mi args below meth c o n0 H locs ls C S => lv_iload C.1 C.2.1 hd (zlo S.2.2.2.2.2 k hl) (kk p l e s mi args below meth c o n0 H locs ls C S)
theorem s_iload_n {j : Fin 4} {i : Nat} {v : Int32} (k : Nat) (hd : decode (zb m) pc = .ok (.iload_n j, 1)) (hi : (j : Nat) = i) (hl : lo[k]? = some (i, .int v)) (kk : wp0 m Q (pc + 1) lo (.int v :: st) cs ss n f) : wp0 m Q pc lo st cs ss n f := fun p l e s mi args below meth c o n0 H locs ls C S => lv_iload_n C.1 C.2.1 hd hi (zlo S.2.2.2.2.2 k hl) (kk p l e s mi args below meth c o n0 H locs ls C S)
theorem s_lload {i : Nat} {v : Int64} (k : Nat) (hd : decode (zb m) pc = .ok (.lload i, 2)) (hl : lo[k]? = some (i, .long v)) (kk : wp0 m Q (pc + 2) lo (.long v :: st) cs ss n f) : wp0 m Q pc lo st cs ss n f := fun p l e s mi args below meth c o n0 H locs ls C S => lv_lload C.1 C.2.1 hd (zlo S.2.2.2.2.2 k hl) (kk p l e s mi args below meth c o n0 H locs ls C S)
theorem s_lload_n {j : Fin 4} {i : Nat} {v : Int64} (k : Nat) (hd : decode (zb m) pc = .ok (.lload_n j, 1)) (hi : (j : Nat) = i) (hl : lo[k]? = some (i, .long v)) (kk : wp0 m Q (pc + 1) lo (.long v :: st) cs ss n f) : wp0 m Q pc lo st cs ss n f := fun p l e s mi args below meth c o n0 H locs ls C S => lv_lload_n C.1 C.2.1 hd hi (zlo S.2.2.2.2.2 k hl) (kk p l e s mi args below meth c o n0 H locs ls C S)
theorem s_aload {i : Nat} {v : Nat} (k : Nat) (hd : decode (zb m) pc = .ok (.aload i, 2)) (hl : lo[k]? = some (i, .ref v)) (kk : wp0 m Q (pc + 2) lo (.ref v :: st) cs ss n f) : wp0 m Q pc lo st cs ss n f := fun p l e s mi args below meth c o n0 H locs ls C S => lv_aload C.1 C.2.1 hd (zlo S.2.2.2.2.2 k hl) (kk p l e s mi args below meth c o n0 H locs ls C S)
theorem s_aload_n {j : Fin 4} {i : Nat} {v : Nat} (k : Nat) (hd : decode (zb m) pc = .ok (.aload_n j, 1)) (hi : (j : Nat) = i) (hl : lo[k]? = some (i, .ref v)) (kk : wp0 m Q (pc + 1) lo (.ref v :: st) cs ss n f) : wp0 m Q pc lo st cs ss n f := fun p l e s mi args below meth c o n0 H locs ls C S => lv_aload_n C.1 C.2.1 hd hi (zlo S.2.2.2.2.2 k hl) (kk p l e s mi args below meth c o n0 H locs ls C S)
theorem s_istore {i : Nat} {v : Int32} (hd : decode (zb m) pc = .ok (.istore i, 2)) (hn : i < zl m) (hl : (i, Value.int v) :: lo.filter (fun q => !(q.1 == i) && !(q.1 + 1 == i && q.2.category == 2)) = lo') (kk : wp0 m Q (pc + 2) lo' st cs ss n f) : wp0 m Q pc lo (.int v :: st) cs ss n f := fun p l e s mi args below meth c o n0 H locs ls C S => lv_istore C.1 C.2.1 hd S.2.2.2.2.2 hn (by rw [zfil1, ← hl]; rfl) (fun ls hl => kk p l e s mi args below meth c o n0 H locs ls C ⟨S.1, S.2.1, S.2.2.1, S.2.2.2.1, S.2.2.2.2.1, hl⟩)
theorem s_istore_n {j : Fin 4} {i : Nat} {v : Int32} (hd : decode (zb m) pc = .ok (.istore_n j, 1)) (hi : (j : Nat) = i) (hn : i < zl m) (hl : (i, Value.int v) :: lo.filter (fun q => !(q.1 == i) && !(q.1 + 1 == i && q.2.category == 2)) = lo') (kk : wp0 m Q (pc + 1) lo' st cs ss n f) : wp0 m Q pc lo (.int v :: st) cs ss n f := fun p l e s mi args below meth c o n0 H locs ls C S => lv_istore_n C.1 C.2.1 hd hi S.2.2.2.2.2 hn (by rw [zfil1, ← hl]; rfl) (fun ls hl => kk p l e s mi args below meth c o n0 H locs ls C ⟨S.1, S.2.1, S.2.2.1, S.2.2.2.1, S.2.2.2.2.1, hl⟩)
theorem s_astore {i : Nat} {v : Nat} (hd : decode (zb m) pc = .ok (.astore i, 2)) (hn : i < zl m) (hl : (i, Value.ref v) :: lo.filter (fun q => !(q.1 == i) && !(q.1 + 1 == i && q.2.category == 2)) = lo') (kk : wp0 m Q (pc + 2) lo' st cs ss n f) : wp0 m Q pc lo (.ref v :: st) cs ss n f := fun p l e s mi args below meth c o n0 H locs ls C S => lv_astore C.1 C.2.1 hd S.2.2.2.2.2 hn (by rw [zfil1, ← hl]; rfl) (fun ls hl => kk p l e s mi args below meth c o n0 H locs ls C ⟨S.1, S.2.1, S.2.2.1, S.2.2.2.1, S.2.2.2.2.1, hl⟩)
theorem s_astore_n {j : Fin 4} {i : Nat} {v : Nat} (hd : decode (zb m) pc = .ok (.astore_n j, 1)) (hi : (j : Nat) = i) (hn : i < zl m) (hl : (i, Value.ref v) :: lo.filter (fun q => !(q.1 == i) && !(q.1 + 1 == i && q.2.category == 2)) = lo') (kk : wp0 m Q (pc + 1) lo' st cs ss n f) : wp0 m Q pc lo (.ref v :: st) cs ss n f := fun p l e s mi args below meth c o n0 H locs ls C S => lv_astore_n C.1 C.2.1 hd hi S.2.2.2.2.2 hn (by rw [zfil1, ← hl]; rfl) (fun ls hl => kk p l e s mi args below meth c o n0 H locs ls C ⟨S.1, S.2.1, S.2.2.1, S.2.2.2.1, S.2.2.2.2.1, hl⟩)
theorem s_lstore {i : Nat} {v : Int64} (hd : decode (zb m) pc = .ok (.lstore i, 2)) (hn : i + 1 < zl m) (hl : (i, Value.long v) :: lo.filter (fun q => !(q.1 == i) && (!(q.1 == i + 1) && !(q.1 + 1 == i && q.2.category == 2))) = lo') (kk : wp0 m Q (pc + 2) lo' st cs ss n f) : wp0 m Q pc lo (.long v :: st) cs ss n f := fun p l e s mi args below meth c o n0 H locs ls C S => lv_lstore C.1 C.2.1 hd S.2.2.2.2.2 hn (by rw [zfil2, ← hl]; rfl) (fun ls hl => kk p l e s mi args below meth c o n0 H locs ls C ⟨S.1, S.2.1, S.2.2.1, S.2.2.2.1, S.2.2.2.2.1, hl⟩)
theorem s_lstore_n {j : Fin 4} {i : Nat} {v : Int64} (hd : decode (zb m) pc = .ok (.lstore_n j, 1)) (hi : (j : Nat) = i) (hn : i + 1 < zl m) (hl : (i, Value.long v) :: lo.filter (fun q => !(q.1 == i) && (!(q.1 == i + 1) && !(q.1 + 1 == i && q.2.category == 2))) = lo') (kk : wp0 m Q (pc + 1) lo' st cs ss n f) : wp0 m Q pc lo (.long v :: st) cs ss n f := fun p l e s mi args below meth c o n0 H locs ls C S => lv_lstore_n C.1 C.2.1 hd hi S.2.2.2.2.2 hn (by rw [zfil2, ← hl]; rfl) (fun ls hl => kk p l e s mi args below meth c o n0 H locs ls C ⟨S.1, S.2.1, S.2.2.1, S.2.2.2.1, S.2.2.2.2.1, hl⟩)
theorem s_iinc {i : Nat} {z : Int} {x v : Int32} (k : Nat) (hd : decode (zb m) pc = .ok (.iinc i z, 3)) (hk : lo[k]? = some (i, .int x)) (hv : x + Int32.ofInt z = v) (hn : i < zl m) (hl : (i, Value.int v) :: lo.filter (fun q => !(q.1 == i) && !(q.1 + 1 == i && q.2.category == 2)) = lo') (kk : wp0 m Q (pc + 3) lo' st cs ss n f) : wp0 m Q pc lo st cs ss n f := fun p l e s mi args below meth c o n0 H locs ls C S => lv_iinc (k := k) C.1 C.2.1 hd S.2.2.2.2.2 (by rw [List.getElem?_map, hk]; rfl) hv hn (by rw [zfil1, ← hl]; rfl) (fun ls hl => kk p l e s mi args below meth c o n0 H locs ls C ⟨S.1, S.2.1, S.2.2.1, S.2.2.2.1, S.2.2.2.2.1, hl⟩)
theorem s_iadd {x y : Int32} (hd : decode (zb m) pc = .ok (.iadd, 1)) (kk : wp0 m Q (pc + 1) lo (.int (x + y) :: st) cs ss n f) : wp0 m Q pc lo (.int y :: .int x :: st) cs ss n f := fun p l e s mi args below meth c o n0 H locs ls C S => lv_iadd C.1 C.2.1 hd (kk p l e s mi args below meth c o n0 H locs ls C S)
theorem s_isub {x y : Int32} (hd : decode (zb m) pc = .ok (.isub, 1)) (kk : wp0 m Q (pc + 1) lo (.int (x - y) :: st) cs ss n f) : wp0 m Q pc lo (.int y :: .int x :: st) cs ss n f := fun p l e s mi args below meth c o n0 H locs ls C S => lv_isub C.1 C.2.1 hd (kk p l e s mi args below meth c o n0 H locs ls C S)
theorem s_imul {x y : Int32} (hd : decode (zb m) pc = .ok (.imul, 1)) (kk : wp0 m Q (pc + 1) lo (.int (x * y) :: st) cs ss n f) : wp0 m Q pc lo (.int y :: .int x :: st) cs ss n f := fun p l e s mi args below meth c o n0 H locs ls C S => lv_imul C.1 C.2.1 hd (kk p l e s mi args below meth c o n0 H locs ls C S)
theorem s_iand {x y : Int32} (hd : decode (zb m) pc = .ok (.iand, 1)) (kk : wp0 m Q (pc + 1) lo (.int (x &&& y) :: st) cs ss n f) : wp0 m Q pc lo (.int y :: .int x :: st) cs ss n f := fun p l e s mi args below meth c o n0 H locs ls C S => lv_iand C.1 C.2.1 hd (kk p l e s mi args below meth c o n0 H locs ls C S)
theorem s_ladd {x y : Int64} (hd : decode (zb m) pc = .ok (.ladd, 1)) (kk : wp0 m Q (pc + 1) lo (.long (x + y) :: st) cs ss n f) : wp0 m Q pc lo (.long y :: .long x :: st) cs ss n f := fun p l e s mi args below meth c o n0 H locs ls C S => lv_ladd C.1 C.2.1 hd (kk p l e s mi args below meth c o n0 H locs ls C S)
theorem s_lmul {x y : Int64} (hd : decode (zb m) pc = .ok (.lmul, 1)) (kk : wp0 m Q (pc + 1) lo (.long (x * y) :: st) cs ss n f) : wp0 m Q pc lo (.long y :: .long x :: st) cs ss n f := fun p l e s mi args below meth c o n0 H locs ls C S => lv_lmul C.1 C.2.1 hd (kk p l e s mi args below meth c o n0 H locs ls C S)
theorem s_idiv {x y : Int32} (hd : decode (zb m) pc = .ok (.idiv, 1)) (hne : ¬ y = 0) (kk : wp0 m Q (pc + 1) lo (.int (x / y) :: st) cs ss n f) : wp0 m Q pc lo (.int y :: .int x :: st) cs ss n f := fun p l e s mi args below meth c o n0 H locs ls C S => lv_idiv C.1 C.2.1 hd hne (kk p l e s mi args below meth c o n0 H locs ls C S)
theorem s_irem {x y : Int32} (hd : decode (zb m) pc = .ok (.irem, 1)) (hne : ¬ y = 0) (kk : wp0 m Q (pc + 1) lo (.int (x - x / y * y) :: st) cs ss n f) : wp0 m Q pc lo (.int y :: .int x :: st) cs ss n f := fun p l e s mi args below meth c o n0 H locs ls C S => lv_irem C.1 C.2.1 hd hne (kk p l e s mi args below meth c o n0 H locs ls C S)
theorem s_ineg {x : Int32} (hd : decode (zb m) pc = .ok (.ineg, 1)) (kk : wp0 m Q (pc + 1) lo (.int (-x) :: st) cs ss n f) : wp0 m Q pc lo (.int x :: st) cs ss n f := fun p l e s mi args below meth c o n0 H locs ls C S => lv_ineg C.1 C.2.1 hd (kk p l e s mi args below meth c o n0 H locs ls C S)
theorem s_i2l {x : Int32} (hd : decode (zb m) pc = .ok (.i2l, 1)) (kk : wp0 m Q (pc + 1) lo (.long x.toInt64 :: st) cs ss n f) : wp0 m Q pc lo (.int x :: st) cs ss n f := fun p l e s mi args below meth c o n0 H locs ls C S => lv_i2l C.1 C.2.1 hd rfl (kk p l e s mi args below meth c o n0 H locs ls C S)
theorem s_lcmp {x y : Int64} (hd : decode (zb m) pc = .ok (.lcmp, 1)) (kk : wp0 m Q (pc + 1) lo (.int (lg_cmp x y) :: st) cs ss n f) : wp0 m Q pc lo (.long y :: .long x :: st) cs ss n f := fun p l e s mi args below meth c o n0 H locs ls C S => W.lcmp C.1 C.2.1 hd (kk p l e s mi args below meth c o n0 H locs ls C S)
theorem s_dup {v : Value} (hd : decode (zb m) pc = .ok (.dup, 1)) (hv : v.category = 1) (kk : wp0 m Q (pc + 1) lo (v :: v :: st) cs ss n f) : wp0 m Q pc lo (v :: st) cs ss n f := fun p l e s mi args below meth c o n0 H locs ls C S => lv_dup C.1 C.2.1 hd (by rw [trV_cat]; exact hv) (kk p l e s mi args below meth c o n0 H locs ls C S)
theorem s_pop {v : Value} (hd : decode (zb m) pc = .ok (.pop, 1)) (hv : v.category = 1) (kk : wp0 m Q (pc + 1) lo st cs ss n f) : wp0 m Q pc lo (v :: st) cs ss n f := fun p l e s mi args below meth c o n0 H locs ls C S => lv_pop C.1 C.2.1 hd (by rw [trV_cat]; exact hv) (kk p l e s mi args below meth c o n0 H locs ls C S)
theorem s_dup2 {v w : Value} (hd : decode (zb m) pc = .ok (.dup2, 1)) (hv : v.category = 1) (hw : w.category = 1) (kk : wp0 m Q (pc + 1) lo (v :: w :: v :: w :: st) cs ss n f) : wp0 m Q pc lo (v :: w :: st) cs ss n f := fun p l e s mi args below meth c o n0 H locs ls C S => lv_dup2_11 C.1 C.2.1 hd (by rw [trV_cat]; exact hv) (by rw [trV_cat]; exact hw) (kk p l e s mi args below meth c o n0 H locs ls C S)
theorem s_goto {off : Int} {tgt : Nat} (hd : decode (zb m) pc = .ok (.goto off, 3)) (ht : (pc : Int) + off = (tgt : Int)) (kk : wp0 m Q tgt lo st cs ss n f) : wp0 m Q pc lo st cs ss n f := fun p l e s mi args below meth c o n0 H locs ls C S => lv_goto C.1 C.2.1 hd ht (kk p l e s mi args below meth c o n0 H locs ls C S)
theorem s_if_eq {x : Int32} {off : Int} {tgt : Nat} (hd : decode (zb m) pc = .ok (.ifCond .eq off, 3)) (ht : (pc : Int) + off = (tgt : Int)) (kk : (x = 0 → wp0 m Q tgt lo st cs ss n f) ∧ (¬ x = 0 → wp0 m Q (pc + 3) lo st cs ss n f)) : wp0 m Q pc lo (.int x :: st) cs ss n f := fun p l e s mi args below meth c o n0 H locs ls C S => lv_if_eq C.1 C.2.1 hd ht (fun q => kk.1 q p l e s mi args below meth c o n0 H locs ls C S) (fun q => kk.2 q p l e s mi args below meth c o n0 H locs ls C S)
theorem s_if_lt {x : Int32} {off : Int} {tgt : Nat} (hd : decode (zb m) pc = .ok (.ifCond .lt off, 3)) (ht : (pc : Int) + off = (tgt : Int)) (kk : (x < 0 → wp0 m Q tgt lo st cs ss n f) ∧ (¬ x < 0 → wp0 m Q (pc + 3) lo st cs ss n f)) : wp0 m Q pc lo (.int x :: st) cs ss n f := fun p l e s mi args below meth c o n0 H locs ls C S => lv_if_lt C.1 C.2.1 hd ht (fun q => kk.1 q p l e s mi args below meth c o n0 H locs ls C S) (fun q => kk.2 q p l e s mi args below meth c o n0 H locs ls C S)
theorem s_if_ge {x : Int32} {off : Int} {tgt : Nat} (hd : decode (zb m) pc = .ok (.ifCond .ge off, 3)) (ht : (pc : Int) + off = (tgt : Int)) (kk : (0 ≤ x → wp0 m Q tgt lo st cs ss n f) ∧ (¬ 0 ≤ x → wp0 m Q (pc + 3) lo st cs ss n f)) : wp0 m Q pc lo (.int x :: st) cs ss n f := fun p l e s mi args below meth c o n0 H locs ls C S => lv_if_ge C.1 C.2.1 hd ht (fun q => kk.1 q p l e s mi args below meth c o n0 H locs ls C S) (fun q => kk.2 q p l e s mi args below meth c o n0 H locs ls C S)
theorem s_if_gt {x : Int32} {off : Int} {tgt : Nat} (hd : decode (zb m) pc = .ok (.ifCond .gt off, 3)) (ht : (pc : Int) + off = (tgt : Int)) (kk : (0 < x → wp0 m Q tgt lo st cs ss n f) ∧ (¬ 0 < x → wp0 m Q (pc + 3) lo st cs ss n f)) : wp0 m Q pc lo (.int x :: st) cs ss n f := fun p l e s mi args below meth c o n0 H locs ls C S => lv_if_gt C.1 C.2.1 hd ht (fun q => kk.1 q p l e s mi args below meth c o n0 H locs ls C S) (fun q => kk.2 q p l e s mi args below meth c o n0 H locs ls C S)
theorem s_if_le {x : Int32} {off : Int} {tgt : Nat} (hd : decode (zb m) pc = .ok (.ifCond .le off, 3)) (ht : (pc : Int) + off = (tgt : Int)) (kk : (x ≤ 0 → wp0 m Q tgt lo st cs ss n f) ∧ (¬ x ≤ 0 → wp0 m Q (pc + 3) lo st cs ss n f)) : wp0 m Q pc lo (.int x :: st) cs ss n f := fun p l e s mi args below meth c o n0 H locs ls C S => lv_if_le C.1 C.2.1 hd ht (fun q => kk.1 q p l e s mi args below meth c o n0 H locs ls C S) (fun q => kk.2 q p l e s mi args below meth c o n0 H locs ls C S)
theorem s_if_ne {x : Int32} {off : Int} {tgt : Nat} (hd : decode (zb m) pc = .ok (.ifCond .ne off, 3)) (ht : (pc : Int) + off = (tgt : Int)) (kk : (x = 0 → wp0 m Q (pc + 3) lo st cs ss n f) ∧ (¬ x = 0 → wp0 m Q tgt lo st cs ss n f)) : wp0 m Q pc lo (.int x :: st) cs ss n f := fun p l e s mi args below meth c o n0 H locs ls C S => lv_if_ne C.1 C.2.1 hd ht (fun q => kk.2 q p l e s mi args below meth c o n0 H locs ls C S) (fun q => kk.1 q p l e s mi args below meth c o n0 H locs ls C S)
theorem s_icmp_eq {x y : Int32} {off : Int} {tgt : Nat} (hd : decode (zb m) pc = .ok (.if_icmp .eq off, 3)) (ht : (pc : Int) + off = (tgt : Int)) (kk : (x = y → wp0 m Q tgt lo st cs ss n f) ∧ (¬ x = y → wp0 m Q (pc + 3) lo st cs ss n f)) : wp0 m Q pc lo (.int y :: .int x :: st) cs ss n f := fun p l e s mi args below meth c o n0 H locs ls C S => lv_icmp_eq C.1 C.2.1 hd ht (fun q => kk.1 q p l e s mi args below meth c o n0 H locs ls C S) (fun q => kk.2 q p l e s mi args below meth c o n0 H locs ls C S)
theorem s_icmp_lt {x y : Int32} {off : Int} {tgt : Nat} (hd : decode (zb m) pc = .ok (.if_icmp .lt off, 3)) (ht : (pc : Int) + off = (tgt : Int)) (kk : (x < y → wp0 m Q tgt lo st cs ss n f) ∧ (¬ x < y → wp0 m Q (pc + 3) lo st cs ss n f)) : wp0 m Q pc lo (.int y :: .int x :: st) cs ss n f := fun p l e s mi args below meth c o n0 H locs ls C S => lv_icmp_lt C.1 C.2.1 hd ht (fun q => kk.1 q p l e s mi args below meth c o n0 H locs ls C S) (fun q => kk.2 q p l e s mi args below meth c o n0 H locs ls C S)
theorem s_icmp_ge {x y : Int32} {off : Int} {tgt : Nat} (hd : decode (zb m) pc = .ok (.if_icmp .ge off, 3)) (ht : (pc : Int) + off = (tgt : Int)) (kk : (y ≤ x → wp0 m Q tgt lo st cs ss n f) ∧ (¬ y ≤ x → wp0 m Q (pc + 3) lo st cs ss n f)) : wp0 m Q pc lo (.int y :: .int x :: st) cs ss n f := fun p l e s mi args below meth c o n0 H locs ls C S => lv_icmp_ge C.1 C.2.1 hd ht (fun q => kk.1 q p l e s mi args below meth c o n0 H locs ls C S) (fun q => kk.2 q p l e s mi args below meth c o n0 H locs ls C S)
theorem s_icmp_gt {x y : Int32} {off : Int} {tgt : Nat} (hd : decode (zb m) pc = .ok (.if_icmp .gt off, 3)) (ht : (pc : Int) + off = (tgt : Int)) (kk : (y < x → wp0 m Q tgt lo st cs ss n f) ∧ (¬ y < x → wp0 m Q (pc + 3) lo st cs ss n f)) : wp0 m Q pc lo (.int y :: .int x :: st) cs ss n f := fun p l e s mi args below meth c o n0 H locs ls C S => lv_icmp_gt C.1 C.2.1 hd ht (fun q => kk.1 q p l e s mi args below meth c o n0 H locs ls C S) (fun q => kk.2 q p l e s mi args below meth c o n0 H locs ls C S)
theorem s_icmp_le {x y : Int32} {off : Int} {tgt : Nat} (hd : decode (zb m) pc = .ok (.if_icmp .le off, 3)) (ht : (pc : Int) + off = (tgt : Int)) (kk : (x ≤ y → wp0 m Q tgt lo st cs ss n f) ∧ (¬ x ≤ y → wp0 m Q (pc + 3) lo st cs ss n f)) : wp0 m Q pc lo (.int y :: .int x :: st) cs ss n f := fun p l e s mi args below meth c o n0 H locs ls C S => lv_icmp_le C.1 C.2.1 hd ht (fun q => kk.1 q p l e s mi args below meth c o n0 H locs ls C S) (fun q => kk.2 q p l e s mi args below meth c o n0 H locs ls C S)
theorem s_icmp_ne {x y : Int32} {off : Int} {tgt : Nat} (hd : decode (zb m) pc = .ok (.if_icmp .ne off, 3)) (ht : (pc : Int) + off = (tgt : Int)) (kk : (x = y → wp0 m Q (pc + 3) lo st cs ss n f) ∧ (¬ x = y → wp0 m Q tgt lo st cs ss n f)) : wp0 m Q pc lo (.int y :: .int x :: st) cs ss n f := fun p l e s mi args below meth c o n0 H locs ls C S => lv_icmp_ne C.1 C.2.1 hd ht (fun q => kk.2 q p l e s mi args below meth c o n0 H locs ls C S) (fun q => kk.1 q p l e s mi args below meth c o n0 H locs ls C S)
theorem s_tabOut {dflt a b : Int} {offs : Array Int} {len : Nat} {x : Int32} {tgt : Nat} (hd : decode (zb m) pc = .ok (.tableswitch dflt a b offs, len)) (h : x.toInt < a ∨ b < x.toInt) (ht : (pc : Int) + dflt = (tgt : Int)) (kk : wp0 m Q tgt lo st cs ss n f) : wp0 m Q pc lo (.int x :: st) cs ss n f := fun p l e s mi args below meth c o n0 H locs ls C S => lv_tableOut C.1 C.2.1 hd h ht (kk p l e s mi args below meth c o n0 H locs ls C S)
theorem s_tabIn {dflt a b : Int} {offs : Array Int} {len : Nat} {x : Int32} {off : Int} {tgt : Nat} (hd : decode (zb m) pc = .ok (.tableswitch dflt a b offs, len)) (h1 : ¬ x.toInt < a) (h2 : ¬ b < x.toInt) (ho : offs[(x.toInt - a).toNat]? = some off) (ht : (pc : Int) + off = (tgt : Int)) (kk : wp0 m Q tgt lo st cs ss n f) : wp0 m Q pc lo (.int x :: st) cs ss n f := fun p l e s mi args below meth c o n0 H locs ls C S => lv_tableIn C.1 C.2.1 hd h1 h2 ho ht (kk p l e s mi args below meth c o n0 H locs ls C S)
theorem s_iret {v : Int32} (hr : zr m = some .int) (hd : decode (zb m) pc = .ok (.ireturn, 1)) (hc : cs ≤ (zR m).cells) (hs : ss ≤ (zR m).slots) (hq : Q (some (.int v)) n f) : wp0 m Q pc lo [.int v] cs ss n f := fun p l e s mi args below meth c o n0 H locs ls C S => W.widen hc hs (W.iret (v := v) C.1 C.2.1 (C.2.2.1.trans hr) (fun t ht _ => ⟨⟨some (.int v), n, f, rfl, hq, S.2.1, by rw [ht]; exact S.1, by rw [ht]; exact S.2.2.1, S.2.2.2.1⟩, S.2.2.2.2.1.F ht⟩) (fun q hq => S.2.2.2.2.1.2.2 q hq) hd C.2.2.2.2.2.2.1)
theorem s_zret {v : Int32} (hr : zr m = some .boolean) (hd : decode (zb m) pc = .ok (.ireturn, 1)) (hc : cs ≤ (zR m).cells) (hs : ss ≤ (zR m).slots) (hn : narrow .boolean (.int v) = .int v) (hq : Q (some (.int v)) n f) : wp0 m Q pc lo [.int v] cs ss n f := fun p l e s mi args below meth c o n0 H locs ls C S => W.widen hc hs (W.zret (v := v) C.1 C.2.1 (C.2.2.1.trans hr) hn (fun t ht _ => ⟨⟨some (.int v), n, f, rfl, hq, S.2.1, by rw [ht]; exact S.1, by rw [ht]; exact S.2.2.1, S.2.2.2.1⟩, S.2.2.2.2.1.F ht⟩) (fun q hq => S.2.2.2.2.1.2.2 q hq) hd C.2.2.2.2.2.2.1)
theorem s_lret {v : Int64} (hr : zr m = some .long) (hd : decode (zb m) pc = .ok (.lreturn, 1)) (hc : cs ≤ (zR m).cells) (hs : ss ≤ (zR m).slots) (hq : Q (some (.long v)) n f) : wp0 m Q pc lo [.long v] cs ss n f := fun p l e s mi args below meth c o n0 H locs ls C S => W.widen hc hs (W.lret (v := v) C.1 C.2.1 (C.2.2.1.trans hr) (fun t ht _ => ⟨⟨some (.long v), n, f, rfl, hq, S.2.1, by rw [ht]; exact S.1, by rw [ht]; exact S.2.2.1, S.2.2.2.1⟩, S.2.2.2.2.1.F ht⟩) (fun q hq => S.2.2.2.2.1.2.2 q hq) hd C.2.2.2.2.2.2.1)
theorem s_vret  (hr : zr m = none) (hd : decode (zb m) pc = .ok (.return_, 1)) (hc : cs ≤ (zR m).cells) (hs : ss ≤ (zR m).slots) (hq : Q none n f) : wp0 m Q pc lo [] cs ss n f := fun p l e s mi args below meth c o n0 H locs ls C S => W.widen hc hs (W.vret C.1 C.2.1 (C.2.2.1.trans hr) (fun t ht _ => ⟨⟨none, n, f, rfl, hq, S.2.1, by rw [ht]; exact S.1, by rw [ht]; exact S.2.2.1, S.2.2.2.1⟩, S.2.2.2.2.1.F ht⟩) (fun q hq => S.2.2.2.2.1.2.2 q hq) hd C.2.2.2.2.2.2.1)
theorem s_aret {v : Nat} {rt : FieldType} (hr : zr m = some rt) (hrt : (∃ q, rt = .object q) ∨ ∃ t, rt = .array t) (hd : decode (zb m) pc = .ok (.areturn, 1)) (hc : cs ≤ (zR m).cells) (hs : ss ≤ (zR m).slots) (hq : Q (some (.ref v)) n f) : wp0 m Q pc lo [.ref v] cs ss n f := fun p l e s mi args below meth c o n0 H locs ls C S => W.widen hc hs (W.aret (v := .ref (o.1 + v)) C.1 C.2.1 (C.2.2.1.trans hr) hrt (Or.inr ⟨_, rfl⟩) (fun t ht _ => ⟨⟨some (.ref v), n, f, rfl, hq, S.2.1, by rw [ht]; exact S.1, by rw [ht]; exact S.2.2.1, S.2.2.2.1⟩, S.2.2.2.2.1.F ht⟩) (fun q hq => S.2.2.2.2.1.2.2 q hq) hd C.2.2.2.2.2.2.1)
end ZST
end
section
/-! the rows of the logic that look at the world, and the calls -/
section ZHP
variable {m : Zm} {Q : Option Value → Nat → (Nat → En) → Prop} {pc : Nat} {lo lo' : List (Nat × Value)} {st : List Value} {cs ss n : Nat} {f : Nat → En}
theorem zone {D : va_G} {x : Nat × va_E} {H : Heap} (h : va_at D zcl x H) : va_P D zcl [x] H := fun k q hk => by
  have h0 : k < 1 := (List.getElem?_eq_some_iff.mp hk).1
  rw [show k = 0 by omega] at hk
  cases hk
  exact h
theorem zmem {p : Program} {s : State} {mi : MethodId} {args : Array Value} {meth : Method} {c : Code} {o : Zo} {n0 : Nat} {H : Heap} {locs : List Loc} {ls : Array Slot} (C : Zx m p s mi args meth c o n0) (S : Zs m s o n0 H locs ls lo n f) {a : Nat} (ha : a < n) : zA o.1 n0 s.heap.size (o.1 + a) := by
  obtain ⟨-, -, -, -, -, -, -, -, -, hg, hb⟩ := C
  obtain ⟨-, h1, h2, h3, -⟩ := S
  by_cases h : a < n0
  · exact Or.inl ⟨by omega, by omega⟩
  · cases hgm : zg m with
    | true =>
      have := hg hgm
      exact Or.inr (by omega)
    | false =>
      have := h3 hgm
      omega
theorem zaddr {p : Program} {s : State} {mi : MethodId} {args : Array Value} {meth : Method} {c : Code} {o : Zo} {n0 : Nat} {H : Heap} {locs : List Loc} {ls : Array Slot} (C : Zx m p s mi args meth c o n0) (S : Zs m s o n0 H locs ls lo n f) (hgm : zg m = true) : H.size = o.1 + n := by
  have h1 := C.2.2.2.2.2.2.2.2.2.1 hgm
  have h2 := S.2.2.1
  omega
theorem s_get {ci k index a : Nat} {fs : List Value} {q : vw_C} {v : Value} (hd : decode (zb m) pc = .ok (.getfield index, 3)) (hq : zcl[ci]? = some q) (hk : k < q.2.2) (hw : Cond.fieldLink (zy m).cls index (q.2.1 k).1 (q.2.1 k).2.1 (q.2.1 k).2.2.1 ∈ zG) (hf : f a = .inr (ci, fs)) (ha : a < n) (hv : fs[k]? = some v) (kk : wp0 m Q (pc + 3) lo (v :: st) cs ss n f) : wp0 m Q pc lo (.ref a :: st) cs ss n f := fun p l e s mi args below meth c o n0 H locs ls C S =>
  va_get (D := o.2.1) (ws := [(o.1 + a, trE o (f a))]) (tys := ztys o) (Ts := zw m) C.1 C.2.1 C.2.2.2.2.2.1 (fun w h => List.mem_cons_of_mem _ (zcl_in ci q hq w h)) C.2.2.2.2.1 C.2.2.2.2.2.2.2.2.1.1 (zone (S.1 a ha)) 0 (by rw [hf]; rfl) hq k hk (C.2.2.2.2.2.1 _ (List.mem_cons_of_mem _ hw)) (fun _ h => h) (by rw [List.getElem?_map, hv]; rfl) hd (kk p l e s mi args below meth c o n0 H locs ls C S)
theorem s_put {ci k index a : Nat} {fs : List Value} {q : vw_C} {v : Value} (hd : decode (zb m) pc = .ok (.putfield index, 3)) (hq : zcl[ci]? = some q) (hk : k < q.2.2) (hw : Cond.fieldLink (zy m).cls index (q.2.1 k).1 (q.2.1 k).2.1 (q.2.1 k).2.2.1 ∈ zG) (hfin : (q.2.1 k).2.2.2 = false) (hf : f a = .inr (ci, fs)) (ha : a < n) (hn : ∀ B, narrow (ztf ci k) (trV B v) = trV B v ∧ fits (ztf ci k) (trV B v) = true) (hl : k < fs.length) (kk : wp0 m Q (pc + 3) lo st cs ss n (va_up f a (.inr (ci, fs.set k v)))) : wp0 m Q pc lo (v :: .ref a :: st) cs ss n f := by
  intro p l e s mi args below meth c o n0 H locs ls C S
  have hts := C.2.2.2.2.2.1
  have hin : ∀ w ∈ u_ws q.1 q.2.1 q.2.2, w ∈ zw m := fun w h => List.mem_cons_of_mem _ (zcl_in ci q hq w h)
  have hK := C.2.2.2.2.2.2.2.2.1.1
  have hap := va_apart (own := (zy m).cls) (C := q.1) (T := q.2.1) (N := q.2.2) hts hin (ztf ci) (zcl_ty ci q hq) (zcl_nm ci q hq) hK hq
  have hat := S.1 a ha
  rw [hf] at hat
  obtain ⟨r, h1, cell, q1, q2, q3, q4⟩ := hat
  have hr : r = q := Option.some.inj (h1.symm.trans hq)
  subst hr
  obtain ⟨hS, hfc, kC, hkC, hkind⟩ := hK.1 ci _ hq
  obtain ⟨cf, kf, fi, fd, hi, hsl⟩ := hS k hk
  have hlay := hts _ (hin _ (u_in_lay hk))
  unfold u_lay at hlay
  rw [if_neg (by rw [hfin]; decide)] at hlay
  have hst := (u_facts hfc hkC (u_lays hts hin hk) hi).1
  have h6 := u_store hfc hkC hkind hlay hi (zcl_ty ci r hq k hk) (hn o.1).1 (hn o.1).2
  refine W.putK C.1 C.2.1 (f := fd) ⟨C.2.2.2.2.1, hts _ (List.mem_cons_of_mem _ hw), ⟨_, _, _, hi⟩, hst⟩ (by rw [q2]; exact h6) q1 q3 (by rw [hsl]; exact k2_hasslot (q4 k hk)) rfl rfl hd fun H' e1 e2 e3 => ?_
  rw [hsl] at e1 ⊢
  refine kk p l e s mi args below meth c o n0 H' _ ls C ⟨S.1.put (e := .inr (ci, fs.set k v)) ?_ e3, S.2.1, by rw [e2]; exact S.2.2.1, S.2.2.2.1, S.2.2.2.2.1.put e2 e3 (zmem C S ha), S.2.2.2.2.2⟩
  refine ⟨_, hq, t_OB.to (V := updV (vp_V (fs.map (trV o.1))) k (trV o.1 v)) ⟨_, e1, q2, q3, t_set q4 hap hk (trV o.1 v)⟩ (fun j _ => ?_)⟩
  rw [List.map_set]
  exact vp_updV_set (by rw [List.length_map]; exact hl) _ j
theorem s_putF {ci k index a : Nat} {fs : List Value} {q : vw_C} {v : Value} (hd : decode (zb m) pc = .ok (.putfield index, 3)) (hq : zcl[ci]? = some q) (hk : k < q.2.2) (hw : Cond.fieldLink (zy m).cls index (q.2.1 k).1 (q.2.1 k).2.1 (q.2.1 k).2.2.1 ∈ zG) (hfin : (q.2.1 k).2.2.2 = true) (hini : (zy m).name = "<init>") (hdecl : (q.2.1 k).1 = (zy m).cls) (hf : f a = .inr (ci, fs)) (ha : a < n) (hn : ∀ B, narrow (ztf ci k) (trV B v) = trV B v ∧ fits (ztf ci k) (trV B v) = true) (hl : k < fs.length) (kk : wp0 m Q (pc + 3) lo st cs ss n (va_up f a (.inr (ci, fs.set k v)))) : wp0 m Q pc lo (v :: .ref a :: st) cs ss n f := by
  intro p l e s mi args below meth c o n0 H locs ls C S
  have hts := C.2.2.2.2.2.1
  have hown := C.2.2.2.2.1
  have hin : ∀ w ∈ u_ws q.1 q.2.1 q.2.2, w ∈ zw m := fun w h => List.mem_cons_of_mem _ (zcl_in ci q hq w h)
  have hK := C.2.2.2.2.2.2.2.2.1.1
  have hap := va_apart (own := (zy m).cls) (C := q.1) (T := q.2.1) (N := q.2.2) hts hin (ztf ci) (zcl_ty ci q hq) (zcl_nm ci q hq) hK hq
  have hat := S.1 a ha
  rw [hf] at hat
  obtain ⟨r, h1, cell, q1, q2, q3, q4⟩ := hat
  have hr : r = q := Option.some.inj (h1.symm.trans hq)
  subst hr
  obtain ⟨hS, hfc, kC, hkC, hkind⟩ := hK.1 ci _ hq
  obtain ⟨cf, kf, fi, fd, hi, hsl⟩ := hS k hk
  have hlay := hts _ (hin _ (u_in_lay hk))
  unfold u_lay at hlay
  rw [if_pos hfin] at hlay
  have hst := (u_facts hfc hkC (u_lays hts hin hk) hi).1
  have hcf : mi.cls = cf := by
    obtain ⟨_, _, c', _, _, _, -, -, hf', -, -, -, hown2, -⟩ := Cond.laysFinal_spec hlay
    have e1 : c' = cf := by have := hi.symm.trans hf'; simp at this; exact this.1.symm
    rw [hdecl] at hown2
    rw [← e1]; exact Option.some.inj (hown.symm.trans hown2)
  have h6 := u_fits hfc hkC hkind (Or.inr hlay) hi (zcl_ty ci r hq k hk) (hn o.1).1 (hn o.1).2
  refine W.putFinK C.1 C.2.1 hown (hts _ (List.mem_cons_of_mem _ hw)) hi hst hcf (C.2.2.2.2.2.2.2.1.trans hini) (by rw [q2]; exact h6) q1 q3 (by rw [hsl]; exact k2_hasslot (q4 k hk)) rfl rfl hd fun H' e1 e2 e3 => ?_
  rw [hsl] at e1 ⊢
  refine kk p l e s mi args below meth c o n0 H' _ ls C ⟨S.1.put (e := .inr (ci, fs.set k v)) ?_ e3, S.2.1, by rw [e2]; exact S.2.2.1, S.2.2.2.1, S.2.2.2.2.1.put e2 e3 (zmem C S ha), S.2.2.2.2.2⟩
  refine ⟨_, hq, t_OB.to (V := updV (vp_V (fs.map (trV o.1))) k (trV o.1 v)) ⟨_, e1, q2, q3, t_set q4 hap hk (trV o.1 v)⟩ (fun j _ => ?_)⟩
  rw [List.map_set]
  exact vp_updV_set (by rw [List.length_map]; exact hl) _ j
theorem s_iald {a len : Nat} {g : Nat → Int32} {i : Int32} (hd : decode (zb m) pc = .ok (.iaload, 1)) (hf : f a = .inl (0, len, .inl g)) (ha : a < n) (hin : vp_in i len) (kk : wp0 m Q (pc + 1) lo (.int (g i.toNatClampNeg) :: st) cs ss n f) : wp0 m Q pc lo (.int i :: .ref a :: st) cs ss n f := fun p l e s mi args below meth c o n0 H locs ls C S =>
  va_iald (D := o.2.1) (ws := [(o.1 + a, trE o (f a))]) (tys := ztys o) C.1 C.2.1 C.2.2.2.2.2.2.2.2.1.1 (zone (S.1 a ha)) 0 0 (by rw [hf]; rfl) rfl hin hd (kk p l e s mi args below meth c o n0 H locs ls C S)
theorem s_zald {a len : Nat} {g : Nat → Int32} {i : Int32} (hd : decode (zb m) pc = .ok (.baload, 1)) (hf : f a = .inl (2, len, .inl g)) (ha : a < n) (hin : vp_in i len) (kk : wp0 m Q (pc + 1) lo (.int (g i.toNatClampNeg) :: st) cs ss n f) : wp0 m Q pc lo (.int i :: .ref a :: st) cs ss n f := fun p l e s mi args below meth c o n0 H locs ls C S =>
  va_zald (D := o.2.1) (ws := [(o.1 + a, trE o (f a))]) (tys := ztys o) C.1 C.2.1 C.2.2.2.2.2.2.2.2.1.1 (zone (S.1 a ha)) 0 2 (by rw [hf]; rfl) rfl hin hd (kk p l e s mi args below meth c o n0 H locs ls C S)
theorem s_lald {a len : Nat} {g : Nat → Int64} {i : Int32} (hd : decode (zb m) pc = .ok (.laload, 1)) (hf : f a = .inl (1, len, .inr (.inl g))) (ha : a < n) (hin : vp_in i len) (kk : wp0 m Q (pc + 1) lo (.long (g i.toNatClampNeg) :: st) cs ss n f) : wp0 m Q pc lo (.int i :: .ref a :: st) cs ss n f := fun p l e s mi args below meth c o n0 H locs ls C S =>
  va_lald (D := o.2.1) (ws := [(o.1 + a, trE o (f a))]) (tys := ztys o) C.1 C.2.1 C.2.2.2.2.2.2.2.2.1.1 (zone (S.1 a ha)) 0 1 (by rw [hf]; rfl) rfl hin hd (kk p l e s mi args below meth c o n0 H locs ls C S)
theorem s_aald {t a b len : Nat} {ty : FieldType} {g : Nat → Option Nat} {i : Int32} (hd : decode (zb m) pc = .ok (.aaload, 1)) (ht : ∀ o : Zo, (ztys o)[t]? = some (o.2.2 t, ty)) (hty : ty.isReference = true) (hf : f a = .inl (t, len, .inr (.inr g))) (ha : a < n) (hin : vp_in i len) (hg : g i.toNatClampNeg = some b) (kk : wp0 m Q (pc + 1) lo (.ref b :: st) cs ss n f) : wp0 m Q pc lo (.int i :: .ref a :: st) cs ss n f := by
  intro p l e s mi args below meth c o n0 H locs ls C S
  have hlt : i.toNatClampNeg < len := Nat.not_le.mp fun q => hin (Or.inr q)
  have hat := S.1 a ha
  rw [hf] at hat
  have hat : H[o.1 + a]? = some (arrV (o.2.2 t) len (fun j => va_rf ((g j).map (fun a => o.1 + a)))) := hat
  refine W.aald (v := .ref (o.1 + b)) (ty := ty) C.1 C.2.1 hat ((C.2.2.2.2.2.2.2.2.1.1.2 t _ (ht o)).1 len (fun j => va_rf ((g j).map (fun a => o.1 + a)))) hty (fun q => by cases q) (by rw [arrV_size]; exact hin) (by rw [arrV_read _ _ hlt, hg]; rfl) rfl rfl hd (kk p l e s mi args below meth c o n0 H locs ls C S)
theorem s_alen {t a len : Nat} {ty : FieldType} {g : (Nat → Int32) ⊕ (Nat → Int64) ⊕ (Nat → Option Nat)} (hd : decode (zb m) pc = .ok (.arraylength, 1)) (ht : ∀ o : Zo, (ztys o)[t]? = some (o.2.2 t, ty)) (hf : f a = .inl (t, len, g)) (ha : a < n) (kk : wp0 m Q (pc + 1) lo (.int (Int32.ofNat len) :: st) cs ss n f) : wp0 m Q pc lo (.ref a :: st) cs ss n f := by
  intro p l e s mi args below meth c o n0 H locs ls C S
  have kk' := kk p l e s mi args below meth c o n0 H locs ls C S
  obtain g | g | g := g
  · exact va_alen (D := o.2.1) (x := (len, .inl g)) (ws := [(o.1 + a, trE o (f a))]) (tys := ztys o) C.1 C.2.1 C.2.2.2.2.2.2.2.2.1.1 (zone (S.1 a ha)) 0 t (by rw [hf]; rfl) (ht o) rfl hd kk'
  · exact va_alen (D := o.2.1) (x := (len, .inr (.inl g))) (ws := [(o.1 + a, trE o (f a))]) (tys := ztys o) C.1 C.2.1 C.2.2.2.2.2.2.2.2.1.1 (zone (S.1 a ha)) 0 t (by rw [hf]; rfl) (ht o) rfl hd kk'
  · exact va_alen (D := o.2.1) (x := (len, .inr (.inr (.inr (.inr (fun i => (g i).map (fun a => o.1 + a))))))) (ws := [(o.1 + a, trE o (f a))]) (tys := ztys o) C.1 C.2.1 C.2.2.2.2.2.2.2.2.1.1 (zone (S.1 a ha)) 0 t (by rw [hf]; rfl) (ht o) rfl hd kk'
theorem s_iast {a len : Nat} {g : Nat → Int32} {i x : Int32} (hd : decode (zb m) pc = .ok (.iastore, 1)) (hf : f a = .inl (0, len, .inl g)) (ha : a < n) (hin : vp_in i len) (kk : wp0 m Q (pc + 1) lo st cs ss n (va_up f a (.inl (0, len, .inl (upd g i.toNatClampNeg x))))) : wp0 m Q pc lo (.int x :: .int i :: .ref a :: st) cs ss n f := by
  intro p l e s mi args below meth c o n0 H locs ls C S
  have hat := S.1 a ha
  rw [hf] at hat
  have hat : H[o.1 + a]? = some (arrV (o.2.2 0) len (fun j => .int (g j))) := hat
  refine W.iast C.1 C.2.1 hat ((C.2.2.2.2.2.2.2.2.1.1.2 0 _ rfl).1 len (fun j => .int (g j))) (fun q => by cases q) (by rw [arrV_size]; exact hin) rfl rfl hd fun H1 ee z oq => ?_
  refine kk p l e s mi args below meth c o n0 H1 _ ls C ⟨S.1.put ?_ oq, S.2.1, by rw [z]; exact S.2.2.1, S.2.2.2.1, S.2.2.2.2.1.put z oq (zmem C S ha), S.2.2.2.2.2⟩
  show H1[o.1 + a]? = some (vp_cell _ _)
  rw [ee, vp_cell_i, arrV_store]
  congr 2
  funext q
  by_cases hq : q = i.toNatClampNeg
  · subst hq
    simp [updV, upd]
  · simp [updV, upd, hq]
theorem s_zast {a len : Nat} {g : Nat → Int32} {i x : Int32} (hd : decode (zb m) pc = .ok (.bastore, 1)) (hf : f a = .inl (2, len, .inl g)) (ha : a < n) (hin : vp_in i len) (kk : wp0 m Q (pc + 1) lo st cs ss n (va_up f a (.inl (2, len, .inl (upd g i.toNatClampNeg (vp_nar .boolean x)))))) : wp0 m Q pc lo (.int x :: .int i :: .ref a :: st) cs ss n f := by
  intro p l e s mi args below meth c o n0 H locs ls C S
  have hat := S.1 a ha
  rw [hf] at hat
  have hat : H[o.1 + a]? = some (arrV (o.2.2 2) len (fun j => .int (g j))) := hat
  refine W.zast C.1 C.2.1 hat ((C.2.2.2.2.2.2.2.2.1.1.2 2 _ rfl).1 len (fun j => .int (g j))) (fun q => by cases q) (by rw [arrV_size]; exact hin) rfl rfl hd fun H1 ee z oq => ?_
  refine kk p l e s mi args below meth c o n0 H1 _ ls C ⟨S.1.put ?_ oq, S.2.1, by rw [z]; exact S.2.2.1, S.2.2.2.1, S.2.2.2.2.1.put z oq (zmem C S ha), S.2.2.2.2.2⟩
  show H1[o.1 + a]? = some (vp_cell _ _)
  rw [ee, vp_cell_i, arrV_store]
  congr 2
  funext q
  by_cases hq : q = i.toNatClampNeg
  · subst hq
    simp [updV, upd, vp_nar]
    try rfl
  · simp [updV, upd, hq]
theorem s_last {a len : Nat} {g : Nat → Int64} {i : Int32} {x : Int64} (hd : decode (zb m) pc = .ok (.lastore, 1)) (hf : f a = .inl (1, len, .inr (.inl g))) (ha : a < n) (hin : vp_in i len) (kk : wp0 m Q (pc + 1) lo st cs ss n (va_up f a (.inl (1, len, .inr (.inl (vp_updL g i.toNatClampNeg x)))))) : wp0 m Q pc lo (.long x :: .int i :: .ref a :: st) cs ss n f := by
  intro p l e s mi args below meth c o n0 H locs ls C S
  have hat := S.1 a ha
  rw [hf] at hat
  have hat : H[o.1 + a]? = some (arrV (o.2.2 1) len (fun j => .long (g j))) := hat
  refine W.last C.1 C.2.1 hat ((C.2.2.2.2.2.2.2.2.1.1.2 1 _ rfl).1 len (fun j => .long (g j))) (fun q => by cases q) (by rw [arrV_size]; exact hin) rfl rfl hd fun H1 ee z oq => ?_
  refine kk p l e s mi args below meth c o n0 H1 _ ls C ⟨S.1.put ?_ oq, S.2.1, by rw [z]; exact S.2.2.1, S.2.2.2.1, S.2.2.2.2.1.put z oq (zmem C S ha), S.2.2.2.2.2⟩
  show H1[o.1 + a]? = some (vp_cell _ _)
  rw [ee, vp_cell_l, arrV_store]
  congr 2
  funext q
  by_cases hq : q = i.toNatClampNeg
  · subst hq
    simp [updV, vp_updL]
  · simp [updV, vp_updL, hq]
theorem s_aast {t a b len cib : Nat} {g : Nat → Option Nat} {i : Int32} {r : vw_C} {fsb : List Value} (hd : decode (zb m) pc = .ok (.aastore, 1)) (ht : ∀ o : Zo, (ztys o)[t]? = some (o.2.2 t, .object r.1)) (hf : f a = .inl (t, len, .inr (.inr g))) (ha : a < n) (hin : vp_in i len) (hfb : f b = .inr (cib, fsb)) (hb : b < n) (hr : zcl[cib]? = some r) (kk : wp0 m Q (pc + 1) lo st cs ss n (va_up f a (.inl (t, len, .inr (.inr (va_up g i.toNatClampNeg (some b))))))) : wp0 m Q pc lo (.ref b :: .int i :: .ref a :: st) cs ss n f := by
  intro p l e s mi args below meth c o n0 H locs ls C S
  have hK := C.2.2.2.2.2.2.2.2.1.1
  have hat := S.1 a ha
  rw [hf] at hat
  have hat : H[o.1 + a]? = some (arrV (o.2.2 t) len (fun j => va_rf ((g j).map (fun a => o.1 + a)))) := hat
  have hbt := S.1 b hb
  rw [hfb] at hbt
  have hlt : i.toNatClampNeg < len := Nat.not_le.mp fun q => hin (Or.inr q)
  have h0 : ¬ i < 0 := fun q => hin (Or.inl q)
  obtain ⟨r', hr', cellV, g1, g2, g3, -⟩ := hbt
  have hcls := (hK.1 cib r hr).2
  obtain ⟨kA, comp, k1, k2, k3, -⟩ := (hK.2 t _ (ht o)).2
  have hcomp : comp = o.2.1.1 cib := Option.some.inj (k3.symm.trans hcls.1)
  subst hcomp
  obtain ⟨kC, hkC, -⟩ := hcls.2
  refine W.aast C.1 C.2.1 hat (fun q h => by cases h) (fun h => by cases h) k1 k2 rfl hkC ⟨h0, by rw [arrV_size]; exact hlt⟩ g1 (fun q h => by rw [g3] at h; cases h) (by rw [g2]; exact hkC) (by rw [g2]; exact va_assign hcls) rfl rfl hd fun H1 ee z oq => ?_
  refine kk p l e s mi args below meth c o n0 H1 _ ls C ⟨S.1.put ?_ oq, S.2.1, by rw [z]; exact S.2.2.1, S.2.2.2.1, S.2.2.2.2.1.put z oq (zmem C S ha), S.2.2.2.2.2⟩
  show H1[o.1 + a]? = some (vp_cell _ _)
  rw [ee, vp_cell_q, arrV_store]
  congr 2
  funext q
  by_cases hq : q = i.toNatClampNeg
  · subst hq
    simp [updV, va_up, va_rf]
  · simp [updV, va_up, hq]
end ZHP
end
section
/-! the rows of the logic that call -/
/-- a call's static part: room, and what the tables say of the method -/
def Zc (m m' : Zm) (index np : Nat) : Prop := (zR m').frames + 1 ≤ (zR m).frames ∧ 8 + (zl m' + 11) + (zR m').locals ≤ (zR m).locals ∧ (zg m' = true → zg m = true) ∧ Cond.code (zy m') (zb m') (zl m') (zr m') ∈ zG ∧ Cond.initialized (zy m').cls ∈ zG ∧ ((zy m').cls ≠ "java/lang/invoke/MethodHandle" ∧ (zy m').cls ≠ "java/lang/invoke/VarHandle") ∧ (parseMethodDescriptor (zy m').desc).map (fun d => d.parameters.length) = some np
section ZCA
variable {m m' : Zm} {Q Q' : Option Value → Nat → (Nat → En) → Prop} {pc : Nat} {lo lo' : List (Nat × Value)} {st st0 : List Value} {cs ss n : Nat} {f : Nat → En} {as : List Value} {index np : Nat}
theorem zpay {s : State} {args : Array Value} (h : ∀ w ∈ zw m, w.before args s = true) (hc : Cond.code (zy m') (zb m') (zl m') (zr m') ∈ zG) : ∀ w ∈ zw m', ∀ (a' : Array Value) (U : State), s.WarmedH U.vm → w.before a' U = true := by
  intro w hw a' U hW
  have hg : w ∈ zG := by
    rcases List.mem_cons.mp hw with rfl | hw
    · exact hc
    · exact hw
  exact word_at hW (zg_good hg) (h w (List.mem_cons_of_mem _ hg))
theorem zcb {p : Program} {s : State} {mi : MethodId} {args : Array Value} {meth : Method} {c : Code} {o : Zo} {n0 : Nat} (C : Zx m p s mi args meth c o n0) (hz : Zc m m' index np) (hl : Cond.methodLink (zy m).cls index (zy m') ∈ zG) : CallB (headSpec (zw m) (zR m)).room s args (zy m).cls index (zy m') (zb m') (zl m') (zr m') (zw m') (zR m') (zR m').cells (zR m').slots np := by
  have hts := C.2.2.2.2.2.1
  obtain ⟨h1, h2, -, h4, h5, h6, h7⟩ := hz
  exact ⟨rfl, rfl, h1, h2, zpay hts h4, List.mem_cons_self, hts _ (List.mem_cons_of_mem _ h4), hts _ (List.mem_cons_of_mem _ h5), h6, fun sig h => by rw [h] at h7; exact (Option.some.inj h7).symm, hts _ (List.mem_cons_of_mem _ hl)⟩
/-- behind a call -/
theorem zback {p : Program} {l : Launch} {e : Env} {s : State} {mi : MethodId} {args : Array Value} {below : List Frame} {meth : Method} {c : Code} {o : Zo} {n0 : Nat} {H : Heap} {locs : List Loc} {ls : Array Slot} (C : Zx m p s mi args meth c o n0) (S : Zs m s o n0 H locs ls lo n f) (hgg : zg m' = true → zg m = true) {a : Array Value}
    (hr : va_Run p l e (headSpec (zw m) (zR m)).room s mi args below meth c H locs cs ss (zR m').cells (zR m').slots (F0 mi pc ls (st0.map (trV o.1))) (st.map (trV o.1)) (Zq m' o n Q' (zA o.1 n H.size) a) (zA o.1 n H.size))
    (kk : ∀ (v : Option Value) (n' : Nat) (f' : Nat → En), Q' v n' f' → wp0 m Q (pc + 3) lo (v.toList ++ st) (cs + (zR m').cells) (ss + (zR m').slots) n' f') :
    W p l e (headSpec (zw m) (zR m)).room s mi args below meth c H locs cs ss (MQ below (Zq m o n0 Q (zA o.1 n0 s.heap.size)) args s (zR m).cells (zR m).slots (zA o.1 n0 s.heap.size)) (F0 mi pc ls (st0.map (trV o.1))) := by
  intro T hT X
  obtain ⟨v, st₀, t, T', L, h0, X', hL, e1, e2, ⟨⟨v', n', f', hv, hq, hn, hH, hsz, hg⟩, hz, hk⟩, stp⟩ := hr T hT X
  cases hv
  rw [h0] at hz hk hsz
  have hA : ∀ q, zA o.1 n H.size q → zA o.1 n0 s.heap.size q := by
    intro q hq
    have hS1 := S.2.2.2.2.1.1
    rcases hq with ⟨g1, g2⟩ | g1
    · have := zmem C S (a := q - o.1) (by omega)
      rwa [show o.1 + (q - o.1) = q by omega] at this
    · exact Or.inr (by omega)
  obtain ⟨t2, a1, b1⟩ := kk v' n' f' hq p l e s mi args below meth c o n0 T'.heap (locs ++ L) ls C
    ⟨by rw [e1]; exact hH, Nat.le_trans S.2.1 hn, by rw [e1]; have := S.2.2.1; omega, fun hgm => by
      have h1 := S.2.2.2.1 hgm
      have h2 : zg m' = false := by
        cases hgm' : zg m' with
        | false => rfl
        | true => rw [hgg hgm'] at hgm; cases hgm
      have h3 := hg h2
      omega,
     ⟨Nat.le_trans S.2.2.2.2.1.1 (by rw [e1]; exact hz), fun q h1 h2 => by
        rw [e1, hk q (Nat.lt_of_lt_of_le h1 S.2.2.2.2.1.1) (fun z => h2 (hA q z))]
        exact S.2.2.2.2.1.2.1 q h1 h2, fun q hq => by
        rcases List.mem_append.mp hq with h | h
        · exact S.2.2.2.2.1.2.2 q h
        · exact hA _ (hL q h)⟩, S.2.2.2.2.2⟩ T' rfl X'
  refine ⟨t2, ?_, b1⟩
  refine stp t2 ?_
  have e3 : (v'.map (trV o.1)).toList ++ st.map (trV o.1) = (v'.toList ++ st).map (trV o.1) := by
    cases v' <;> rfl
  show Steps p.tables e below (T'.setTop (F0 mi (pc + 3) ls ((v'.map (trV o.1)).toList ++ st.map (trV o.1)))) t2
  rw [e3]
  exact a1
theorem zcat (B : Nat) : ∀ st : List Value, ((st.map (trV B)).map fun v => v.category).sum = (st.map fun v => v.category).sum
  | [] => rfl
  | v :: vs => by
    have := zcat B vs
    simp only [List.map_cons, List.sum_cons, trV_cat, this]
theorem zpre {p : Program} {s : State} {mi : MethodId} {args : Array Value} {meth : Method} {c : Code} {o : Zo} {n0 : Nat} {H : Heap} {locs : List Loc} {ls : Array Slot} (C : Zx m p s mi args meth c o n0) (S : Zs m s o n0 H locs ls lo n f) (hgg : zg m' = true → zg m = true) : ∀ U : State, U.heap = H → s.WarmedH U.vm → (va_Pc (as.map (trV o.1)) (fun U => U.heap.size = H.size ∧ Hw o n f U.heap ∧ Zk o U ∧ (zg m' = true → H.size = o.1 + n) ∧ o.1 + n ≤ H.size)) (as.map (trV o.1)).toArray U := by
  intro U hU hW
  refine ⟨rfl, by rw [hU], by rw [hU]; exact S.1, Zk.warm hW C.2.2.2.2.2.2.2.2.1, fun hg => zaddr C S (hgg hg), ?_⟩
  have h1 := C.2.2.2.2.2.2.2.2.2.2
  have h2 := S.2.2.1
  omega
theorem zblind {n2 sz : Nat} {o : Zo} {gg : Bool} : FrameBlind (va_Pc as (fun U => U.heap.size = sz ∧ Hw o n f U.heap ∧ Zk o U ∧ (gg = true → sz = o.1 + n) ∧ o.1 + n ≤ sz)) := fun a U g mk q => by
  obtain ⟨q0, q1, q2, q3, q4⟩ := q
  exact ⟨q0, q1, q2, Zk.same (u := U) (U := U.calling g mk a) rfl q3, q4⟩
theorem s_callV {b ci : Nat} {fs : List Value} {q : vw_C} (hd : decode (zb m) pc = .ok (.invokevirtual index, 3)) (hz : Zc m m' index np) (hl : Cond.methodLink (zy m).cls index (zy m') ∈ zG) (hi : Cond.instanceMethod (zy m') ∈ zG) (hs : Cond.selects (zy m').cls (zy m') (zy m') ∈ zG) (hq : zcl[ci]? = some q) (hqn : q.1 = (zy m').cls) (hf : f b = .inr (ci, fs)) (hb : b < n) (hst : st0 = as.reverse ++ .ref b :: st) (hn : as.length = np) (hW : (st.map fun v => v.category).sum ≤ 8) (hc : cs + (zR m').cells ≤ (zR m).cells) (hs2 : ss + (zR m').slots ≤ (zR m).slots)
    (hM : Call0 m' (.ref b :: as) n f Q') (kk : ∀ (v : Option Value) (n' : Nat) (f' : Nat → En), Q' v n' f' → wp0 m Q (pc + 3) lo (v.toList ++ st) (cs + (zR m').cells) (ss + (zR m').slots) n' f') : wp0 m Q pc lo st0 cs ss n f := by
  subst hst
  intro p l e s mi args below meth c o n0 H locs ls C S
  have hts := C.2.2.2.2.2.1
  refine zback (Q' := Q') (st := st) (a := (Value.ref (o.1 + b) :: as.map (trV o.1)).toArray) C S hz.2.2.1 ?_ kk
  exact va_runV (As := as.map (trV o.1)) (rest := st.map (trV o.1)) (b := o.1 + b) (C := (zy m').cls) (g := F0 mi pc ls ((as.reverse ++ .ref b :: st).map (trV o.1))) (cells := cs) (slots := ss) (locs := locs) (H := H)
    (S := (⟨C.1, C.2.1, C.2.2.2.1, C.2.2.2.2.1, hts⟩ : CallFix p mi c (zb m) (zl m) s args (zw m) (zy m).cls)) (hM l o H.size) ⟨zcb C hz hl, hts _ (List.mem_cons_of_mem _ hi), hts _ (List.mem_cons_of_mem _ hs)⟩
    ⟨zblind (n2 := 0), by
      have hbt := S.1 b hb
      rw [hf] at hbt
      obtain ⟨q', h1, cell, g1, g2, g3, -⟩ := hbt
      exact ⟨cell, g1, by rw [g3]; rfl, by rw [g2, ← hqn]; exact (C.2.2.2.2.2.2.2.2.1.1.1 ci q hq).2.1⟩, zpre (as := .ref b :: as) C S hz.2.2.1⟩
    rfl (by rw [List.length_map]; exact hn) S.2.2.2.2.2.1 (by show ((as.reverse ++ .ref b :: st).map (trV o.1)) = _; rw [List.map_append, List.map_reverse]; rfl) (lv_room (by rw [zcat]; exact hW)) hd ⟨hc, hs2⟩
theorem s_callS (hd : decode (zb m) pc = .ok (.invokestatic index, 3)) (hz : Zc m m' index np) (hl : Cond.methodLink (zy m).cls index (zy m') ∈ zG) (hi : Cond.static (zy m') ∈ zG) (hst : st0 = as.reverse ++ st) (hn : as.length = np) (hW : (st.map fun v => v.category).sum ≤ 8) (hc : cs + (zR m').cells ≤ (zR m).cells) (hs2 : ss + (zR m').slots ≤ (zR m).slots)
    (hM : Call0 m' as n f Q') (kk : ∀ (v : Option Value) (n' : Nat) (f' : Nat → En), Q' v n' f' → wp0 m Q (pc + 3) lo (v.toList ++ st) (cs + (zR m').cells) (ss + (zR m').slots) n' f') : wp0 m Q pc lo st0 cs ss n f := by
  subst hst
  intro p l e s mi args below meth c o n0 H locs ls C S
  have hts := C.2.2.2.2.2.1
  refine zback (Q' := Q') (st := st) (a := (as.map (trV o.1)).toArray) C S hz.2.2.1 ?_ kk
  exact va_runS (As := as.map (trV o.1)) (rest := st.map (trV o.1)) (g := F0 mi pc ls ((as.reverse ++ st).map (trV o.1))) (cells := cs) (slots := ss) (locs := locs) (H := H)
    (S := (⟨C.1, C.2.1, C.2.2.2.1, C.2.2.2.2.1, hts⟩ : CallFix p mi c (zb m) (zl m) s args (zw m) (zy m).cls)) (hM l o H.size) ⟨zcb C hz hl, hts _ (List.mem_cons_of_mem _ hi)⟩
    ⟨zblind (n2 := 0), zpre (as := as) C S hz.2.2.1⟩
    rfl (by rw [List.length_map]; exact hn) S.2.2.2.2.2.1 (by show ((as.reverse ++ st).map (trV o.1)) = _; rw [List.map_append, List.map_reverse]) (lv_room (by rw [zcat]; exact hW)) hd ⟨hc, hs2⟩
theorem s_callI {b : Nat} (hd : decode (zb m) pc = .ok (.invokespecial index, 3)) (hz : Zc m m' index np) (hl : Cond.methodLink (zy m).cls index (zy m') ∈ zG) (hi : Cond.instanceMethod (zy m') ∈ zG) (hni : (zy m').name = "<init>") (hrn : zr m' = none) (hst : st0 = as.reverse ++ .ref b :: st) (hn : as.length = np) (hW : (st.map fun v => v.category).sum ≤ 8) (hc : cs + (zR m').cells ≤ (zR m).cells) (hs2 : ss + (zR m').slots ≤ (zR m).slots)
    (hM : Call0 m' (.ref b :: as) n f Q') (kk : ∀ (v : Option Value) (n' : Nat) (f' : Nat → En), Q' v n' f' → wp0 m Q (pc + 3) lo (v.toList ++ st) (cs + (zR m').cells) (ss + (zR m').slots) n' f') : wp0 m Q pc lo st0 cs ss n f := by
  subst hst
  intro p l e s mi args below meth c o n0 H locs ls C S
  have hts := C.2.2.2.2.2.1
  have hcb := zcb C hz hl
  rw [hrn] at hcb
  refine zback (Q' := Q') (st := st) (a := (Value.ref (o.1 + b) :: as.map (trV o.1)).toArray) C S hz.2.2.1 ?_ kk
  exact va_runI (As := as.map (trV o.1)) (rest := st.map (trV o.1)) (b := o.1 + b) (g := F0 mi pc ls ((as.reverse ++ .ref b :: st).map (trV o.1))) (cells := cs) (slots := ss) (locs := locs) (H := H)
    (S := (⟨C.1, C.2.1, C.2.2.2.1, C.2.2.2.2.1, hts⟩ : CallFix p mi c (zb m) (zl m) s args (zw m) (zy m).cls)) (hM l o H.size) ⟨hcb, hni, hts _ (List.mem_cons_of_mem _ hi)⟩
    ⟨zblind (n2 := 0), zpre (as := .ref b :: as) C S hz.2.2.1⟩
    rfl (by rw [List.length_map]; exact hn) S.2.2.2.2.2.1 (by show ((as.reverse ++ .ref b :: st).map (trV o.1)) = _; rw [List.map_append, List.map_reverse]; rfl) (lv_room (by rw [zcat]; exact hW)) hd ⟨hc, hs2⟩
/-- a nest mate's private constructor -/
theorem s_callN {b : Nat} {host : String} (hd : decode (zb m) pc = .ok (.invokespecial index, 3)) (hz : Zc m m' index np) (hl : ((zy m).cls, index, zy m', host) ∈ znest) (hi : Cond.instanceMethod (zy m') ∈ zG) (hni : (zy m').name = "<init>") (hrn : zr m' = none) (hst : st0 = as.reverse ++ .ref b :: st) (hn : as.length = np) (hW : (st.map fun v => v.category).sum ≤ 8) (hc : cs + (zR m').cells ≤ (zR m).cells) (hs2 : ss + (zR m').slots ≤ (zR m).slots)
    (hM : Call0 m' (.ref b :: as) n f Q') (kk : ∀ (v : Option Value) (n' : Nat) (f' : Nat → En), Q' v n' f' → wp0 m Q (pc + 3) lo (v.toList ++ st) (cs + (zR m').cells) (ss + (zR m').slots) n' f') : wp0 m Q pc lo st0 cs ss n f := by
  subst hst
  intro p l e s mi args below meth c o n0 H locs ls C S
  have hts := C.2.2.2.2.2.1
  obtain ⟨h1, h2, h3, h4, h5, h6, h7⟩ := id hz
  have hcb : va_CN (headSpec (zw m) (zR m)).room s args (zy m).cls index (zy m') host (zb m') (zl m') none (zw m') (zR m') (zR m').cells (zR m').slots np := by
    rw [← hrn]
    exact ⟨⟨rfl, rfl, h1, h2, zpay hts h4, List.mem_cons_self⟩, hts _ (List.mem_cons_of_mem _ h4), hts _ (List.mem_cons_of_mem _ h5), h6, fun sig h => by rw [h] at h7; exact (Option.some.inj h7).symm, va_Nw.use rfl (C.2.2.2.2.2.2.2.2.1.2.2 _ hl)⟩
  refine zback (Q' := Q') (st := st) (a := (Value.ref (o.1 + b) :: as.map (trV o.1)).toArray) C S hz.2.2.1 ?_ kk
  exact va_runIN (As := as.map (trV o.1)) (rest := st.map (trV o.1)) (b := o.1 + b) (g := F0 mi pc ls ((as.reverse ++ .ref b :: st).map (trV o.1))) (cells := cs) (slots := ss) (locs := locs) (H := H)
    (S := (⟨C.1, C.2.1, C.2.2.2.1, C.2.2.2.2.1, hts⟩ : CallFix p mi c (zb m) (zl m) s args (zw m) (zy m).cls)) (hM l o H.size) ⟨hcb, hni, hts _ (List.mem_cons_of_mem _ hi)⟩
    ⟨zblind (n2 := 0), zpre (as := .ref b :: as) C S hz.2.2.1⟩
    rfl (by rw [List.length_map]; exact hn) S.2.2.2.2.2.1 (by show ((as.reverse ++ .ref b :: st).map (trV o.1)) = _; rw [List.map_append, List.map_reverse]; rfl) (lv_room (by rw [zcat]; exact hW)) hd ⟨hc, hs2⟩
theorem s_objInit {a : Nat} (hd : decode (zb m) pc = .ok (.invokespecial index, 3)) (hl : Cond.methodLink (zy m).cls index Lib.objectInit ∈ zG) (hi : Cond.instanceMethod Lib.objectInit ∈ zG) (hcd : Cond.code Lib.objectInit ⟨#[0xb1]⟩ 1 none ∈ zG) (hfr : 1 ≤ (zR m).frames) (hlo : (st.map fun v => v.category).sum + 12 ≤ (zR m).locals) (kk : wp0 m Q (pc + 3) lo st cs ss n f) : wp0 m Q pc lo (.ref a :: st) cs ss n f := by
  intro p l e s mi args below meth c o n0 H locs ls C S
  have hts := C.2.2.2.2.2.1
  exact W.objInit (g := F0 mi pc ls ((.ref a :: st).map (trV o.1))) C.1 C.2.1 C.2.2.2.2.1 (hts _ (List.mem_cons_of_mem _ hl)) (hts _ (List.mem_cons_of_mem _ hi)) (hts _ (List.mem_cons_of_mem _ hcd)) rfl (S.2.2.2.2.2.1.trans C.2.2.2.1.symm) rfl hd hfr (by show 2 * 0 + _ + 12 ≤ _; rw [zcat]; show _ ≤ (zR m).locals; omega) (kk p l e s mi args below meth c o n0 H locs ls C S)
section ZMA
variable {x y : Int32}
theorem s_mmax (hd : decode (zb m) pc = .ok (.invokestatic index, 3)) (hl : Cond.methodLink (zy m).cls index Lib.Math.max.name ∈ zG) (hst : Cond.static Lib.Math.max.name ∈ zG) (hin : Cond.initialized "java/lang/Math" ∈ zG) (hcd : Cond.code Lib.Math.max.name Lib.Math.max.code 2 (some .int) ∈ zG) (hfr : 1 ≤ (zR m).frames) (hlo : (st.map fun v => v.category).sum + 13 ≤ (zR m).locals) (hc : cs ≤ (zR m).cells) (hs : ss ≤ (zR m).slots) (kk : wp0 m Q (pc + 3) lo (.int (if x < y then y else x) :: st) cs ss n f) : wp0 m Q pc lo (.int y :: .int x :: st) cs ss n f := by
  intro p l e s mi args below meth c o n0 H locs ls C S
  have hts := C.2.2.2.2.2.1
  exact va_mmax C.1 C.2.1 (C.2.2.2.1.trans S.2.2.2.2.2.1.symm) C.2.2.2.2.1 (hts _ (List.mem_cons_of_mem _ hl)) (hts _ (List.mem_cons_of_mem _ hst)) (hts _ (List.mem_cons_of_mem _ hin)) (hts _ (List.mem_cons_of_mem _ hcd)) hfr (by rw [zcat]; exact hlo) hc hs hd (kk p l e s mi args below meth c o n0 H locs ls C S)
theorem s_mmin (hd : decode (zb m) pc = .ok (.invokestatic index, 3)) (hl : Cond.methodLink (zy m).cls index Lib.Math.min.name ∈ zG) (hst : Cond.static Lib.Math.min.name ∈ zG) (hin : Cond.initialized "java/lang/Math" ∈ zG) (hcd : Cond.code Lib.Math.min.name Lib.Math.min.code 2 (some .int) ∈ zG) (hfr : 1 ≤ (zR m).frames) (hlo : (st.map fun v => v.category).sum + 13 ≤ (zR m).locals) (hc : cs ≤ (zR m).cells) (hs : ss ≤ (zR m).slots) (kk : wp0 m Q (pc + 3) lo (.int (if y < x then y else x) :: st) cs ss n f) : wp0 m Q pc lo (.int y :: .int x :: st) cs ss n f := by
  intro p l e s mi args below meth c o n0 H locs ls C S
  have hts := C.2.2.2.2.2.1
  exact va_mmin C.1 C.2.1 (C.2.2.2.1.trans S.2.2.2.2.2.1.symm) C.2.2.2.2.1 (hts _ (List.mem_cons_of_mem _ hl)) (hts _ (List.mem_cons_of_mem _ hst)) (hts _ (List.mem_cons_of_mem _ hin)) (hts _ (List.mem_cons_of_mem _ hcd)) hfr (by rw [zcat]; exact hlo) hc hs hd (kk p l e s mi args below meth c o n0 H locs ls C S)
theorem s_mabs (hd : decode (zb m) pc = .ok (.invokestatic index, 3)) (hl : Cond.methodLink (zy m).cls index Lib.Math.abs.name ∈ zG) (hst : Cond.static Lib.Math.abs.name ∈ zG) (hin : Cond.initialized "java/lang/Math" ∈ zG) (hcd : Cond.code Lib.Math.abs.name Lib.Math.abs.code 1 (some .int) ∈ zG) (hfr : 1 ≤ (zR m).frames) (hlo : (st.map fun v => v.category).sum + 13 ≤ (zR m).locals) (hc : cs ≤ (zR m).cells) (hs : ss ≤ (zR m).slots) (kk : wp0 m Q (pc + 3) lo (.int (if 0 ≤ x then x else 0 - x) :: st) cs ss n f) : wp0 m Q pc lo (.int x :: st) cs ss n f := by
  intro p l e s mi args below meth c o n0 H locs ls C S
  have hts := C.2.2.2.2.2.1
  exact va_mabs C.1 C.2.1 (C.2.2.2.1.trans S.2.2.2.2.2.1.symm) C.2.2.2.2.1 (hts _ (List.mem_cons_of_mem _ hl)) (hts _ (List.mem_cons_of_mem _ hst)) (hts _ (List.mem_cons_of_mem _ hin)) (hts _ (List.mem_cons_of_mem _ hcd)) hfr (by rw [zcat]; exact hlo) hc hs hd (kk p l e s mi args below meth c o n0 H locs ls C S)
end ZMA
end ZCA
end
section
/-! the fixed layout: behind the constructors no cell is made and no reference moves; what moves are numbers: M.1 a k an int (a field's place k, an array's index k), M.2 a k a long -/
abbrev Sh : Type := Nat × Nat × Nat × Nat
abbrev Mem : Type := (Nat → Nat → Int32) × (Nat → Nat → Int64)
/-- the shape of a cell: below 10 an array's type, its length, and for references where the elements lie; from 10 on a class -/
def zsh (y : List Sh) (a : Nat) : Sh := y.getD a (0, 0, 0, 0)
def uI (M : Mem) (a k : Nat) (v : Int32) : Mem := (fun b => if b = a then upd (M.1 a) k v else M.1 b, M.2)
def uL (M : Mem) (a k : Nat) (v : Int64) : Mem := (M.1, fun b => if b = a then vp_updL (M.2 a) k v else M.2 b)
def fval (d : Nat × Nat) (k a : Nat) (M : Mem) : Value := if d.1 = 0 then .int (M.1 a k) else if d.1 = 1 then .long (M.2 a k) else .ref (a + d.2)
def fldV : List (Nat × Nat) → Nat → Nat → Mem → List Value
  | [], _, _, _ => []
  | d :: l, k, a, M => fval d k a M :: fldV l (k + 1) a M
def zfd (ci : Nat) : List (Nat × Nat) := match ci with
  | 0 => [(2, 1), (2, 2), (2, 3), (0, 0), (0, 0)]
  | 1 => [(2, 1), (2, 2), (2, 3), (2, 4), (2, 5), (2, 6), (2, 10), (2, 11), (0, 0), (0, 0)]
  | 2 => [(2, 1), (2, 2), (2, 3), (0, 0)]
  | 3 => [(2, 1), (0, 0), (0, 0), (0, 0)]
  | 4 => [(2, 1), (0, 0)]
  | 5 => [(2, 1), (2, 4), (2, 5)]
  | 6 => [(2, 1), (2, 2), (0, 0)]
  | 7 => [(2, 1), (2, 4), (2, 44), (2, 45), (2, 46), (2, 134), (2, 156), (2, 159), (0, 0), (1, 0)]
  | _ => [(2, 1), (2, 2), (2, 3), (2, 4), (0, 0), (2, 5), (2, 6), (0, 0), (0, 0), (2, 7), (2, 8), (2, 9), (0, 0), (2, 10), (2, 11), (2, 12), (2, 13), (0, 0), (2, 14), (2, 15), (2, 16), (2, 17), (2, 18), (0, 0), (0, 0), (2, 19), (2, 20), (2, 21)]
def entS (q : Sh) (a : Nat) (M : Mem) : En :=
  if 10 ≤ q.1 then .inr (q.1 - 10, fldV (zfd (q.1 - 10)) 0 a M)
  else if q.1 = 1 then .inl (1, q.2.1, .inr (.inl (M.2 a)))
  else if q.1 ≤ 2 then .inl (q.1, q.2.1, .inl (M.1 a))
  else .inl (q.1, q.2.1, .inr (.inr (fun i => if i < q.2.1 then some (a + q.2.2.1 + q.2.2.2 * i) else none)))
def ent (y : List Sh) (M : Mem) (a : Nat) : En := entS (zsh y a) a M
theorem fldV_len : ∀ (l : List (Nat × Nat)) (k a : Nat) (M : Mem), (fldV l k a M).length = l.length
  | [], _, _, _ => rfl
  | d :: l, k, a, M => by
    show (fldV l (k + 1) a M).length + 1 = l.length + 1
    rw [fldV_len l (k + 1) a M]
theorem fldV_get : ∀ (l : List (Nat × Nat)) (k0 a : Nat) (M : Mem) (k : Nat) (d : Nat × Nat), l[k]? = some d → (fldV l k0 a M)[k]? = some (fval d (k0 + k) a M)
  | [], _, _, _, k, d, h => by simp at h
  | e :: l, k0, a, M, 0, d, h => by
    cases h
    rfl
  | e :: l, k0, a, M, k + 1, d, h => by
    show (fldV l (k0 + 1) a M)[k]? = _
    rw [List.getElem?_cons_succ] at h
    rw [fldV_get l (k0 + 1) a M k d h]
    rw [show k0 + 1 + k = k0 + (k + 1) by omega]
theorem fldV_hiI : ∀ (l : List (Nat × Nat)) (k0 a : Nat) (M : Mem) (k : Nat) (v : Int32), k < k0 → fldV l k0 a (uI M a k v) = fldV l k0 a M
  | [], _, _, _, _, _, _ => rfl
  | d :: l, k0, a, M, k, v, h => by
    show fval d k0 a (uI M a k v) :: fldV l (k0 + 1) a (uI M a k v) = fval d k0 a M :: fldV l (k0 + 1) a M
    rw [fldV_hiI l (k0 + 1) a M k v (by omega)]
    congr 1
    have hne : k0 ≠ k := by omega
    simp [fval, uI, upd, hne]
theorem fldV_setI : ∀ (l : List (Nat × Nat)) (k0 a : Nat) (M : Mem) (k : Nat) (v : Int32), l[k]? = some (0, 0) → (fldV l k0 a M).set k (.int v) = fldV l k0 a (uI M a (k0 + k) v)
  | [], _, _, _, k, v, h => by simp at h
  | d :: l, k0, a, M, 0, v, h => by
    cases h
    show Value.int v :: fldV l (k0 + 1) a M = fval (0, 0) k0 a (uI M a k0 v) :: fldV l (k0 + 1) a (uI M a k0 v)
    rw [fldV_hiI l (k0 + 1) a M k0 v (by omega)]
    congr 1
    simp [fval, uI, upd]
  | d :: l, k0, a, M, k + 1, v, h => by
    rw [List.getElem?_cons_succ] at h
    show fval d k0 a M :: (fldV l (k0 + 1) a M).set k (.int v) = fval d k0 a (uI M a (k0 + (k + 1)) v) :: fldV l (k0 + 1) a (uI M a (k0 + (k + 1)) v)
    rw [fldV_setI l (k0 + 1) a M k v h, show k0 + 1 + k = k0 + (k + 1) by omega]
    congr 1
    have hne : k0 ≠ k0 + (k + 1) := by omega
    simp [fval, uI, upd, hne]
theorem fldV_hiL : ∀ (l : List (Nat × Nat)) (k0 a : Nat) (M : Mem) (k : Nat) (v : Int64), k < k0 → fldV l k0 a (uL M a k v) = fldV l k0 a M
  | [], _, _, _, _, _, _ => rfl
  | d :: l, k0, a, M, k, v, h => by
    show fval d k0 a (uL M a k v) :: fldV l (k0 + 1) a (uL M a k v) = fval d k0 a M :: fldV l (k0 + 1) a M
    rw [fldV_hiL l (k0 + 1) a M k v (by omega)]
    congr 1
    have hne : k0 ≠ k := by omega
    simp [fval, uL, vp_updL, hne]
theorem fldV_setL : ∀ (l : List (Nat × Nat)) (k0 a : Nat) (M : Mem) (k : Nat) (v : Int64), l[k]? = some (1, 0) → (fldV l k0 a M).set k (.long v) = fldV l k0 a (uL M a (k0 + k) v)
  | [], _, _, _, k, v, h => by simp at h
  | d :: l, k0, a, M, 0, v, h => by
    cases h
    show Value.long v :: fldV l (k0 + 1) a M = fval (1, 0) k0 a (uL M a k0 v) :: fldV l (k0 + 1) a (uL M a k0 v)
    rw [fldV_hiL l (k0 + 1) a M k0 v (by omega)]
    congr 1
    simp [fval, uL, vp_updL]
  | d :: l, k0, a, M, k + 1, v, h => by
    rw [List.getElem?_cons_succ] at h
    show fval d k0 a M :: (fldV l (k0 + 1) a M).set k (.long v) = fval d k0 a (uL M a (k0 + (k + 1)) v) :: fldV l (k0 + 1) a (uL M a (k0 + (k + 1)) v)
    rw [fldV_setL l (k0 + 1) a M k v h, show k0 + 1 + k = k0 + (k + 1) by omega]
    congr 1
    have hne : k0 ≠ k0 + (k + 1) := by omega
    simp [fval, uL, vp_updL, hne]
theorem fldV_neI : ∀ (l : List (Nat × Nat)) (k0 a b : Nat) (M : Mem) (k : Nat) (v : Int32), b ≠ a → fldV l k0 b (uI M a k v) = fldV l k0 b M
  | [], _, _, _, _, _, _, _ => rfl
  | d :: l, k0, a, b, M, k, v, h => by
    show fval d k0 b (uI M a k v) :: fldV l (k0 + 1) b (uI M a k v) = fval d k0 b M :: fldV l (k0 + 1) b M
    rw [fldV_neI l (k0 + 1) a b M k v h]
    congr 1
    simp [fval, uI, h]
theorem fldV_neL : ∀ (l : List (Nat × Nat)) (k0 a b : Nat) (M : Mem) (k : Nat) (v : Int64), b ≠ a → fldV l k0 b (uL M a k v) = fldV l k0 b M
  | [], _, _, _, _, _, _, _ => rfl
  | d :: l, k0, a, b, M, k, v, h => by
    show fval d k0 b (uL M a k v) :: fldV l (k0 + 1) b (uL M a k v) = fval d k0 b M :: fldV l (k0 + 1) b M
    rw [fldV_neL l (k0 + 1) a b M k v h]
    congr 1
    simp [fval, uL, h]
theorem ent_neI {y : List Sh} {M : Mem} {a b k : Nat} {v : Int32} (h : b ≠ a) : ent y (uI M a k v) b = ent y M b := by
  unfold ent entS
  rw [fldV_neI _ _ _ _ _ _ _ h]
  simp [uI, h]
theorem ent_neL {y : List Sh} {M : Mem} {a b k : Nat} {v : Int64} (h : b ≠ a) : ent y (uL M a k v) b = ent y M b := by
  unfold ent entS
  rw [fldV_neL _ _ _ _ _ _ _ h]
  simp [uL, h]
theorem ent_upI {y : List Sh} {M : Mem} {a k : Nat} {v : Int32} {e : En} (h : ent y (uI M a k v) a = e) : va_up (ent y M) a e = ent y (uI M a k v) := by
  funext b
  by_cases hb : b = a
  · subst hb
    rw [show va_up (ent y M) b e b = e from if_pos rfl, h]
  · rw [show va_up (ent y M) a e b = ent y M b from if_neg hb, ent_neI hb]
theorem ent_upL {y : List Sh} {M : Mem} {a k : Nat} {v : Int64} {e : En} (h : ent y (uL M a k v) a = e) : va_up (ent y M) a e = ent y (uL M a k v) := by
  funext b
  by_cases hb : b = a
  · subst hb
    rw [show va_up (ent y M) b e b = e from if_pos rfl, h]
  · rw [show va_up (ent y M) a e b = ent y M b from if_neg hb, ent_neL hb]
theorem zsh_lt {y : List Sh} {a t len b k : Nat} (h : zsh y a = (t, len, b, k)) (h0 : 0 < t ∨ 0 < len) : a < y.length := by
  rcases Nat.lt_or_ge a y.length with q | q
  · exact q
  · unfold zsh at h
    rw [List.getD_eq_getElem?_getD, List.getElem?_eq_none q] at h
    cases h
    omega
theorem vp_lt {i : Int32} {n : Nat} (h : vp_in i n) : i.toNatClampNeg < n := Nat.not_le.mp fun q => h (Or.inr q)
theorem vp_pos {i : Int32} {n : Nat} (h : vp_in i n) : 0 < n := Nat.lt_of_le_of_lt (Nat.zero_le _) (vp_lt h)
theorem ent_obj {y : List Sh} {a ci : Nat} {M : Mem} (h : zsh y a = (10 + ci, 0, 0, 0)) : ent y M a = .inr (ci, fldV (zfd ci) 0 a M) := by
  unfold ent entS
  rw [h, if_pos (show 10 ≤ 10 + ci by omega), show 10 + ci - 10 = ci by omega]
theorem ent_int {y : List Sh} {a len : Nat} {M : Mem} (h : zsh y a = (0, len, 0, 0)) : ent y M a = .inl (0, len, .inl (M.1 a)) := by
  unfold ent entS
  rw [h]
  rfl
theorem ent_bool {y : List Sh} {a len : Nat} {M : Mem} (h : zsh y a = (2, len, 0, 0)) : ent y M a = .inl (2, len, .inl (M.1 a)) := by
  unfold ent entS
  rw [h]
  rfl
theorem ent_long {y : List Sh} {a len : Nat} {M : Mem} (h : zsh y a = (1, len, 0, 0)) : ent y M a = .inl (1, len, .inr (.inl (M.2 a))) := by
  unfold ent entS
  rw [h]
  rfl
theorem ent_ref {y : List Sh} {a t len b k : Nat} {M : Mem} (h : zsh y a = (t, len, b, k)) (h3 : 3 ≤ t) (h9 : t < 10) : ent y M a = .inl (t, len, .inr (.inr (fun i => if i < len then some (a + b + k * i) else none))) := by
  unfold ent entS
  rw [h, if_neg (show ¬ 10 ≤ t by omega), if_neg (show ¬ t = 1 by omega), if_neg (show ¬ t ≤ 2 by omega)]
/-- the logic over the layout -/
def wp (y : List Sh) (m : Zm) (Q : Option Value → Mem → Prop) (pc : Nat) (lo : List (Nat × Value)) (st : List Value) (M : Mem) : Prop :=
  wp0 m (fun v n f => n = y.length ∧ ∃ M' : Mem, f = ent y M' ∧ Q v M') pc lo st 0 0 y.length (ent y M)
def Call (y : List Sh) (m : Zm) (as : List Value) (M : Mem) (Q : Option Value → Mem → Prop) : Prop :=
  Call0 m as y.length (ent y M) (fun v n f => n = y.length ∧ ∃ M' : Mem, f = ent y M' ∧ Q v M')
def CallI (y : List Sh) (m : Zm) (as : List Value) (M : Mem) (Q : Int32 → Mem → Prop) : Prop := Call y m as M (fun v M' => ∃ r : Int32, v = some (.int r) ∧ Q r M')
def CallL (y : List Sh) (m : Zm) (as : List Value) (M : Mem) (Q : Int64 → Mem → Prop) : Prop := Call y m as M (fun v M' => ∃ r : Int64, v = some (.long r) ∧ Q r M')
def CallR (y : List Sh) (m : Zm) (as : List Value) (M : Mem) (Q : Nat → Mem → Prop) : Prop := Call y m as M (fun v M' => ∃ r : Nat, v = some (.ref r) ∧ Q r M')
def CallV (y : List Sh) (m : Zm) (as : List Value) (M : Mem) (Q : Mem → Prop) : Prop := Call y m as M (fun v M' => v = none ∧ Q M')
theorem call_of {y : List Sh} {m : Zm} {as : List Value} {M : Mem} {Q : Option Value → Mem → Prop} (hpl : plainName (zy m).cls = true) (hlen : (lg_sl as).length ≤ zl m) (h : wp y m Q 0 (lv_args 0 as) [] M) : Call y m as M Q := call0_of hpl hlen h
end
section
/-! the rows of the logic over the layout -/
section ZRW
variable {yy : List Sh} {m m' : Zm} {Q : Option Value → Mem → Prop} {pc q : Nat} {lo lo' : List (Nat × Value)} {st st0 : List Value} {M : Mem}
theorem zt_sub (ks : List Nat) (hl : lv_pick lo ks = lo') (kk : wp yy m Q pc lo' st M) : wp yy m Q pc lo st M := s_sub ks hl kk

theorem zt_iconst {z : Int} {v : Int32} (hd : decode (zb m) pc = .ok (.iconst z, 1)) (hp : pc + 1 = q) (hv : Int32.ofInt z = v) (kk : wp yy m Q q lo (.int v :: st) M) : wp yy m Q pc lo st M := by
  subst hp
  exact s_iconst hd hv kk
theorem zt_bipush {z : Int} {v : Int32} (hd : decode (zb m) pc = .ok (.bipush z, 2)) (hp : pc + 2 = q) (hv : (Int8.ofInt z).toInt32 = v) (kk : wp yy m Q q lo (.int v :: st) M) : wp yy m Q pc lo st M := by
  subst hp
  exact s_bipush hd hv kk
theorem zt_sipush {z : Int} {v : Int32} (hd : decode (zb m) pc = .ok (.sipush z, 3)) (hp : pc + 3 = q) (hv : (Int16.ofInt z).toInt32 = v) (kk : wp yy m Q q lo (.int v :: st) M) : wp yy m Q pc lo st M := by
  subst hp
  exact s_sipush hd hv kk
theorem zt_lconst {z : Fin 2} {v : Int64} (hd : decode (zb m) pc = .ok (.lconst z, 1)) (hp : pc + 1 = q) (hv : Int64.ofNat (z : Nat) = v) (kk : wp yy m Q q lo (.long v :: st) M) : wp yy m Q pc lo st M := by
  subst hp
  exact s_lconst hd hv kk
theorem zt_ldc {i : Nat} {v : Int32} (hd : decode (zb m) pc = .ok (.ldc i, 2)) (hp : pc + 2 = q) (hw : Cond.constant (zy m).cls i v ∈ zG) (kk : wp yy m Q q lo (.int v :: st) M) : wp yy m Q pc lo st M := by
  subst hp
  exact s_ldc hd hw kk
theorem zt_ldc2_w {i : Nat} {v : Int64} (hd : decode (zb m) pc = .ok (.ldc2_w i, 3)) (hp : pc + 3 = q) (hw : Cond.constantLong (zy m).cls i v ∈ zG) (kk : wp yy m Q q lo (.long v :: st) M) : wp yy m Q pc lo st M := by
  subst hp
  exact s_ldc2_w hd hw kk
theorem zt_iload {i : Nat} {v : Int32} (k : Nat) (hd : decode (zb m) pc = .ok (.iload i, 2)) (hp : pc + 2 = q) (hl : lo[k]? = some (i, .int v)) (kk : wp yy m Q q lo (.int v :: st) M) : wp yy m Q pc lo st M := by
  subst hp
  exact s_iload k hd hl kk
theorem zt_iload_n {j : Fin 4} {i : Nat} {v : Int32} (k : Nat) (hd : decode (zb m) pc = .ok (.iload_n j, 1)) (hp : pc + 1 = q) (hi : (j : Nat) = i) (hl : lo[k]? = some (i, .int v)) (kk : wp yy m Q q lo (.int v :: st) M) : wp yy m Q pc lo st M := by
  subst hp
  exact s_iload_n k hd hi hl kk
theorem zt_lload {i : Nat} {v : Int64} (k : Nat) (hd : decode (zb m) pc = .ok (.lload i, 2)) (hp : pc + 2 = q) (hl : lo[k]? = some (i, .long v)) (kk : wp yy m Q q lo (.long v :: st) M) : wp yy m Q pc lo st M := by
  subst hp
  exact s_lload k hd hl kk
theorem zt_lload_n {j : Fin 4} {i : Nat} {v : Int64} (k : Nat) (hd : decode (zb m) pc = .ok (.lload_n j, 1)) (hp : pc + 1 = q) (hi : (j : Nat) = i) (hl : lo[k]? = some (i, .long v)) (kk : wp yy m Q q lo (.long v :: st) M) : wp yy m Q pc lo st M := by
  subst hp
  exact s_lload_n k hd hi hl kk
theorem zt_aload {i : Nat} {v : Nat} (k : Nat) (hd : decode (zb m) pc = .ok (.aload i, 2)) (hp : pc + 2 = q) (hl : lo[k]? = some (i, .ref v)) (kk : wp yy m Q q lo (.ref v :: st) M) : wp yy m Q pc lo st M := by
  subst hp
  exact s_aload k hd hl kk
theorem zt_aload_n {j : Fin 4} {i : Nat} {v : Nat} (k : Nat) (hd : decode (zb m) pc = .ok (.aload_n j, 1)) (hp : pc + 1 = q) (hi : (j : Nat) = i) (hl : lo[k]? = some (i, .ref v)) (kk : wp yy m Q q lo (.ref v :: st) M) : wp yy m Q pc lo st M := by
  subst hp
  exact s_aload_n k hd hi hl kk
theorem zt_istore {i : Nat} {v : Int32} (hd : decode (zb m) pc = .ok (.istore i, 2)) (hp : pc + 2 = q) (hn : i < zl m) (hl : (i, Value.int v) :: lo.filter (fun q => !(q.1 == i) && !(q.1 + 1 == i && q.2.category == 2)) = lo') (kk : wp yy m Q q lo' st M) : wp yy m Q pc lo (.int v :: st) M := by
  subst hp
  exact s_istore hd hn hl kk
theorem zt_istore_n {j : Fin 4} {i : Nat} {v : Int32} (hd : decode (zb m) pc = .ok (.istore_n j, 1)) (hp : pc + 1 = q) (hi : (j : Nat) = i) (hn : i < zl m) (hl : (i, Value.int v) :: lo.filter (fun q => !(q.1 == i) && !(q.1 + 1 == i && q.2.category == 2)) = lo') (kk : wp yy m Q q lo' st M) : wp yy m Q pc lo (.int v :: st) M := by
  subst hp
  exact s_istore_n hd hi hn hl kk
theorem zt_astore {i : Nat} {v : Nat} (hd : decode (zb m) pc = .ok (.astore i, 2)) (hp : pc + 2 = q) (hn : i < zl m) (hl : (i, Value.ref v) :: lo.filter (fun q => !(q.1 == i) && !(q.1 + 1 == i && q.2.category == 2)) = lo') (kk : wp yy m Q q lo' st M) : wp yy m Q pc lo (.ref v :: st) M := by
  subst hp
  exact s_astore hd hn hl kk
theorem zt_astore_n {j : Fin 4} {i : Nat} {v : Nat} (hd : decode (zb m) pc = .ok (.astore_n j, 1)) (hp : pc + 1 = q) (hi : (j : Nat) = i) (hn : i < zl m) (hl : (i, Value.ref v) :: lo.filter (fun q => !(q.1 == i) && !(q.1 + 1 == i && q.2.category == 2)) = lo') (kk : wp yy m Q q lo' st M) : wp yy m Q pc lo (.ref v :: st) M := by
  subst hp
  exact s_astore_n hd hi hn hl kk
theorem zt_lstore {i : Nat} {v : Int64} (hd : decode (zb m) pc = .ok (.lstore i, 2)) (hp : pc + 2 = q) (hn : i + 1 < zl m) (hl : (i, Value.long v) :: lo.filter (fun q => !(q.1 == i) && (!(q.1 == i + 1) && !(q.1 + 1 == i && q.2.category == 2))) = lo') (kk : wp yy m Q q lo' st M) : wp yy m Q pc lo (.long v :: st) M := by
  subst hp
  exact s_lstore hd hn hl kk
theorem zt_lstore_n {j : Fin 4} {i : Nat} {v : Int64} (hd : decode (zb m) pc = .ok (.lstore_n j, 1)) (hp : pc + 1 = q) (hi : (j : Nat) = i) (hn : i + 1 < zl m) (hl : (i, Value.long v) :: lo.filter (fun q => !(q.1 == i) && (!(q.1 == i + 1) && !(q.1 + 1 == i && q.2.category == 2))) = lo') (kk : wp yy m Q q lo' st M) : wp yy m Q pc lo (.long v :: st) M := by
  subst hp
  exact s_lstore_n hd hi hn hl kk
theorem zt_iinc {i : Nat} {z : Int} {x v : Int32} (k : Nat) (hd : decode (zb m) pc = .ok (.iinc i z, 3)) (hp : pc + 3 = q) (hk : lo[k]? = some (i, .int x)) (hv : x + Int32.ofInt z = v) (hn : i < zl m) (hl : (i, Value.int v) :: lo.filter (fun q => !(q.1 == i) && !(q.1 + 1 == i && q.2.category == 2)) = lo') (kk : wp yy m Q q lo' st M) : wp yy m Q pc lo st M := by
  subst hp
  exact s_iinc k hd hk hv hn hl kk
theorem zt_iadd {x y : Int32} (hd : decode (zb m) pc = .ok (.iadd, 1)) (hp : pc + 1 = q) (kk : wp yy m Q q lo (.int (x + y) :: st) M) : wp yy m Q pc lo (.int y :: .int x :: st) M := by
  subst hp
  exact s_iadd hd kk
theorem zt_isub {x y : Int32} (hd : decode (zb m) pc = .ok (.isub, 1)) (hp : pc + 1 = q) (kk : wp yy m Q q lo (.int (x - y) :: st) M) : wp yy m Q pc lo (.int y :: .int x :: st) M := by
  subst hp
  exact s_isub hd kk
theorem zt_imul {x y : Int32} (hd : decode (zb m) pc = .ok (.imul, 1)) (hp : pc + 1 = q) (kk : wp yy m Q q lo (.int (x * y) :: st) M) : wp yy m Q pc lo (.int y :: .int x :: st) M := by
  subst hp
  exact s_imul hd kk
theorem zt_iand {x y : Int32} (hd : decode (zb m) pc = .ok (.iand, 1)) (hp : pc + 1 = q) (kk : wp yy m Q q lo (.int (x &&& y) :: st) M) : wp yy m Q pc lo (.int y :: .int x :: st) M := by
  subst hp
  exact s_iand hd kk
theorem zt_ladd {x y : Int64} (hd : decode (zb m) pc = .ok (.ladd, 1)) (hp : pc + 1 = q) (kk : wp yy m Q q lo (.long (x + y) :: st) M) : wp yy m Q pc lo (.long y :: .long x :: st) M := by
  subst hp
  exact s_ladd hd kk
theorem zt_lmul {x y : Int64} (hd : decode (zb m) pc = .ok (.lmul, 1)) (hp : pc + 1 = q) (kk : wp yy m Q q lo (.long (x * y) :: st) M) : wp yy m Q pc lo (.long y :: .long x :: st) M := by
  subst hp
  exact s_lmul hd kk
theorem zt_idiv {x y : Int32} (hd : decode (zb m) pc = .ok (.idiv, 1)) (hp : pc + 1 = q) (hne : ¬ y = 0) (kk : wp yy m Q q lo (.int (x / y) :: st) M) : wp yy m Q pc lo (.int y :: .int x :: st) M := by
  subst hp
  exact s_idiv hd hne kk
theorem zt_irem {x y : Int32} (hd : decode (zb m) pc = .ok (.irem, 1)) (hp : pc + 1 = q) (hne : ¬ y = 0) (kk : wp yy m Q q lo (.int (x - x / y * y) :: st) M) : wp yy m Q pc lo (.int y :: .int x :: st) M := by
  subst hp
  exact s_irem hd hne kk
theorem zt_ineg {x : Int32} (hd : decode (zb m) pc = .ok (.ineg, 1)) (hp : pc + 1 = q) (kk : wp yy m Q q lo (.int (-x) :: st) M) : wp yy m Q pc lo (.int x :: st) M := by
  subst hp
  exact s_ineg hd kk
theorem zt_i2l {x : Int32} (hd : decode (zb m) pc = .ok (.i2l, 1)) (hp : pc + 1 = q) (kk : wp yy m Q q lo (.long x.toInt64 :: st) M) : wp yy m Q pc lo (.int x :: st) M := by
  subst hp
  exact s_i2l hd kk
theorem zt_lcmp {x y : Int64} (hd : decode (zb m) pc = .ok (.lcmp, 1)) (hp : pc + 1 = q) (kk : wp yy m Q q lo (.int (lg_cmp x y) :: st) M) : wp yy m Q pc lo (.long y :: .long x :: st) M := by
  subst hp
  exact s_lcmp hd kk
theorem zt_dup {v : Value} (hd : decode (zb m) pc = .ok (.dup, 1)) (hp : pc + 1 = q) (hv : v.category = 1) (kk : wp yy m Q q lo (v :: v :: st) M) : wp yy m Q pc lo (v :: st) M := by
  subst hp
  exact s_dup hd hv kk
theorem zt_pop {v : Value} (hd : decode (zb m) pc = .ok (.pop, 1)) (hp : pc + 1 = q) (hv : v.category = 1) (kk : wp yy m Q q lo st M) : wp yy m Q pc lo (v :: st) M := by
  subst hp
  exact s_pop hd hv kk
theorem zt_dup2 {v w : Value} (hd : decode (zb m) pc = .ok (.dup2, 1)) (hp : pc + 1 = q) (hv : v.category = 1) (hw : w.category = 1) (kk : wp yy m Q q lo (v :: w :: v :: w :: st) M) : wp yy m Q pc lo (v :: w :: st) M := by
  subst hp
  exact s_dup2 hd hv hw kk
theorem zt_goto {off : Int} {tgt : Nat} (hd : decode (zb m) pc = .ok (.goto off, 3)) (ht : (pc : Int) + off = (tgt : Int)) (kk : wp yy m Q tgt lo st M) : wp yy m Q pc lo st M := by
  exact s_goto hd ht kk
theorem zt_if_eq {x : Int32} {off : Int} {tgt : Nat} (hd : decode (zb m) pc = .ok (.ifCond .eq off, 3)) (hp : pc + 3 = q) (ht : (pc : Int) + off = (tgt : Int)) (kk : (x = 0 → wp yy m Q tgt lo st M) ∧ (¬ x = 0 → wp yy m Q q lo st M)) : wp yy m Q pc lo (.int x :: st) M := by
  subst hp
  exact s_if_eq hd ht kk
theorem zt_if_lt {x : Int32} {off : Int} {tgt : Nat} (hd : decode (zb m) pc = .ok (.ifCond .lt off, 3)) (hp : pc + 3 = q) (ht : (pc : Int) + off = (tgt : Int)) (kk : (x < 0 → wp yy m Q tgt lo st M) ∧ (¬ x < 0 → wp yy m Q q lo st M)) : wp yy m Q pc lo (.int x :: st) M := by
  subst hp
  exact s_if_lt hd ht kk
theorem zt_if_ge {x : Int32} {off : Int} {tgt : Nat} (hd : decode (zb m) pc = .ok (.ifCond .ge off, 3)) (hp : pc + 3 = q) (ht : (pc : Int) + off = (tgt : Int)) (kk : (0 ≤ x → wp yy m Q tgt lo st M) ∧ (¬ 0 ≤ x → wp yy m Q q lo st M)) : wp yy m Q pc lo (.int x :: st) M := by
  subst hp
  exact s_if_ge hd ht kk
theorem zt_if_gt {x : Int32} {off : Int} {tgt : Nat} (hd : decode (zb m) pc = .ok (.ifCond .gt off, 3)) (hp : pc + 3 = q) (ht : (pc : Int) + off = (tgt : Int)) (kk : (0 < x → wp yy m Q tgt lo st M) ∧ (¬ 0 < x → wp yy m Q q lo st M)) : wp yy m Q pc lo (.int x :: st) M := by
  subst hp
  exact s_if_gt hd ht kk
theorem zt_if_le {x : Int32} {off : Int} {tgt : Nat} (hd : decode (zb m) pc = .ok (.ifCond .le off, 3)) (hp : pc + 3 = q) (ht : (pc : Int) + off = (tgt : Int)) (kk : (x ≤ 0 → wp yy m Q tgt lo st M) ∧ (¬ x ≤ 0 → wp yy m Q q lo st M)) : wp yy m Q pc lo (.int x :: st) M := by
  subst hp
  exact s_if_le hd ht kk
theorem zt_if_ne {x : Int32} {off : Int} {tgt : Nat} (hd : decode (zb m) pc = .ok (.ifCond .ne off, 3)) (hp : pc + 3 = q) (ht : (pc : Int) + off = (tgt : Int)) (kk : (x = 0 → wp yy m Q q lo st M) ∧ (¬ x = 0 → wp yy m Q tgt lo st M)) : wp yy m Q pc lo (.int x :: st) M := by
  subst hp
  exact s_if_ne hd ht kk
theorem zt_icmp_eq {x y : Int32} {off : Int} {tgt : Nat} (hd : decode (zb m) pc = .ok (.if_icmp .eq off, 3)) (hp : pc + 3 = q) (ht : (pc : Int) + off = (tgt : Int)) (kk : (x = y → wp yy m Q tgt lo st M) ∧ (¬ x = y → wp yy m Q q lo st M)) : wp yy m Q pc lo (.int y :: .int x :: st) M := by
  subst hp
  exact s_icmp_eq hd ht kk
theorem zt_icmp_lt {x y : Int32} {off : Int} {tgt : Nat} (hd : decode (zb m) pc = .ok (.if_icmp .lt off, 3)) (hp : pc + 3 = q) (ht : (pc : Int) + off = (tgt : Int)) (kk : (x < y → wp yy m Q tgt lo st M) ∧ (¬ x < y → wp yy m Q q lo st M)) : wp yy m Q pc lo (.int y :: .int x :: st) M := by
  subst hp
  exact s_icmp_lt hd ht kk
theorem zt_icmp_ge {x y : Int32} {off : Int} {tgt : Nat} (hd : decode (zb m) pc = .ok (.if_icmp .ge off, 3)) (hp : pc + 3 = q) (ht : (pc : Int) + off = (tgt : Int)) (kk : (y ≤ x → wp yy m Q tgt lo st M) ∧ (¬ y ≤ x → wp yy m Q q lo st M)) : wp yy m Q pc lo (.int y :: .int x :: st) M := by
  subst hp
  exact s_icmp_ge hd ht kk
theorem zt_icmp_gt {x y : Int32} {off : Int} {tgt : Nat} (hd : decode (zb m) pc = .ok (.if_icmp .gt off, 3)) (hp : pc + 3 = q) (ht : (pc : Int) + off = (tgt : Int)) (kk : (y < x → wp yy m Q tgt lo st M) ∧ (¬ y < x → wp yy m Q q lo st M)) : wp yy m Q pc lo (.int y :: .int x :: st) M := by
  subst hp
  exact s_icmp_gt hd ht kk
theorem zt_icmp_le {x y : Int32} {off : Int} {tgt : Nat} (hd : decode (zb m) pc = .ok (.if_icmp .le off, 3)) (hp : pc + 3 = q) (ht : (pc : Int) + off = (tgt : Int)) (kk : (x ≤ y → wp yy m Q tgt lo st M) ∧ (¬ x ≤ y → wp yy m Q q lo st M)) : wp yy m Q pc lo (.int y :: .int x :: st) M := by
  subst hp
  exact s_icmp_le hd ht kk
theorem zt_icmp_ne {x y : Int32} {off : Int} {tgt : Nat} (hd : decode (zb m) pc = .ok (.if_icmp .ne off, 3)) (hp : pc + 3 = q) (ht : (pc : Int) + off = (tgt : Int)) (kk : (x = y → wp yy m Q q lo st M) ∧ (¬ x = y → wp yy m Q tgt lo st M)) : wp yy m Q pc lo (.int y :: .int x :: st) M := by
  subst hp
  exact s_icmp_ne hd ht kk
theorem zt_tabOut {dflt a b : Int} {offs : Array Int} {len : Nat} {x : Int32} {tgt : Nat} (hd : decode (zb m) pc = .ok (.tableswitch dflt a b offs, len)) (h : x.toInt < a ∨ b < x.toInt) (ht : (pc : Int) + dflt = (tgt : Int)) (kk : wp yy m Q tgt lo st M) : wp yy m Q pc lo (.int x :: st) M := by
  exact s_tabOut hd h ht kk
theorem zt_tabIn {dflt a b : Int} {offs : Array Int} {len : Nat} {x : Int32} {off : Int} {tgt : Nat} (hd : decode (zb m) pc = .ok (.tableswitch dflt a b offs, len)) (h1 : ¬ x.toInt < a) (h2 : ¬ b < x.toInt) (ho : offs[(x.toInt - a).toNat]? = some off) (ht : (pc : Int) + off = (tgt : Int)) (kk : wp yy m Q tgt lo st M) : wp yy m Q pc lo (.int x :: st) M := by
  exact s_tabIn hd h1 h2 ho ht kk
theorem zt_iret {v : Int32} (hr : zr m = some .int) (hd : decode (zb m) pc = .ok (.ireturn, 1))  (hq : Q (some (.int v)) M) : wp yy m Q pc lo [.int v] M := s_iret hr hd (Nat.zero_le _) (Nat.zero_le _) ⟨rfl, M, rfl, hq⟩
theorem zt_zret {v : Int32} (hr : zr m = some .boolean) (hd : decode (zb m) pc = .ok (.ireturn, 1))  (hn : narrow .boolean (.int v) = .int v) (hq : Q (some (.int v)) M) : wp yy m Q pc lo [.int v] M := s_zret hr hd (Nat.zero_le _) (Nat.zero_le _) hn ⟨rfl, M, rfl, hq⟩
theorem zt_lret {v : Int64} (hr : zr m = some .long) (hd : decode (zb m) pc = .ok (.lreturn, 1))  (hq : Q (some (.long v)) M) : wp yy m Q pc lo [.long v] M := s_lret hr hd (Nat.zero_le _) (Nat.zero_le _) ⟨rfl, M, rfl, hq⟩
theorem zt_vret  (hr : zr m = none) (hd : decode (zb m) pc = .ok (.return_, 1))  (hq : Q none M) : wp yy m Q pc lo [] M := s_vret hr hd (Nat.zero_le _) (Nat.zero_le _) ⟨rfl, M, rfl, hq⟩
theorem zt_aret {v : Nat} {rt : FieldType} (hr : zr m = some rt) (hrt : (∃ q, rt = .object q) ∨ ∃ t, rt = .array t) (hd : decode (zb m) pc = .ok (.areturn, 1))  (hq : Q (some (.ref v)) M) : wp yy m Q pc lo [.ref v] M := s_aret hr hrt hd (Nat.zero_le _) (Nat.zero_le _) ⟨rfl, M, rfl, hq⟩
/-- a field's site: its class and place, its link, its kind -/
def Zf (own : String) (index ci k : Nat) (d : Nat × Nat) (fin : Bool) (ty : FieldType) : Prop := ∃ cl : vw_C, zcl[ci]? = some cl ∧ k < cl.2.2 ∧ Cond.fieldLink own index (cl.2.1 k).1 (cl.2.1 k).2.1 (cl.2.1 k).2.2.1 ∈ zG ∧ (zfd ci)[k]? = some d ∧ (cl.2.1 k).2.2.2 = fin ∧ ztf ci k = ty
theorem zt_getI {ci k index a : Nat} {fin : Bool} {ty : FieldType} (hd : decode (zb m) pc = .ok (.getfield index, 3)) (hp : pc + 3 = q) (hz : Zf (zy m).cls index ci k (0, 0) fin ty) (hs : zsh yy a = (10 + ci, 0, 0, 0)) (kk : wp yy m Q q lo (.int (M.1 a k) :: st) M) : wp yy m Q pc lo (.ref a :: st) M := by
  subst hp
  obtain ⟨cl, h1, h2, h3, h4, h5, h6⟩ := hz
  exact s_get hd h1 h2 h3 (ent_obj hs) (zsh_lt hs (Or.inl (by omega))) (by rw [fldV_get _ _ _ _ _ _ h4, Nat.zero_add]; rfl) kk
theorem zt_getL {ci k index a : Nat} {fin : Bool} {ty : FieldType} (hd : decode (zb m) pc = .ok (.getfield index, 3)) (hp : pc + 3 = q) (hz : Zf (zy m).cls index ci k (1, 0) fin ty) (hs : zsh yy a = (10 + ci, 0, 0, 0)) (kk : wp yy m Q q lo (.long (M.2 a k) :: st) M) : wp yy m Q pc lo (.ref a :: st) M := by
  subst hp
  obtain ⟨cl, h1, h2, h3, h4, h5, h6⟩ := hz
  exact s_get hd h1 h2 h3 (ent_obj hs) (zsh_lt hs (Or.inl (by omega))) (by rw [fldV_get _ _ _ _ _ _ h4, Nat.zero_add]; rfl) kk
theorem zt_getR {ci k index a b off : Nat} {fin : Bool} {ty : FieldType} (hd : decode (zb m) pc = .ok (.getfield index, 3)) (hp : pc + 3 = q) (hz : Zf (zy m).cls index ci k (2, off) fin ty) (hb : a + off = b) (hs : zsh yy a = (10 + ci, 0, 0, 0)) (kk : wp yy m Q q lo (.ref b :: st) M) : wp yy m Q pc lo (.ref a :: st) M := by
  subst hp
  subst hb
  obtain ⟨cl, h1, h2, h3, h4, h5, h6⟩ := hz
  exact s_get hd h1 h2 h3 (ent_obj hs) (zsh_lt hs (Or.inl (by omega))) (by rw [fldV_get _ _ _ _ _ _ h4, Nat.zero_add]; rfl) kk
theorem zt_putI {ci k index a : Nat} {v : Int32} (hd : decode (zb m) pc = .ok (.putfield index, 3)) (hp : pc + 3 = q) (hz : Zf (zy m).cls index ci k (0, 0) false .int) (hs : zsh yy a = (10 + ci, 0, 0, 0)) (kk : wp yy m Q q lo st (uI M a k v)) : wp yy m Q pc lo (.int v :: .ref a :: st) M := by
  subst hp
  obtain ⟨cl, h1, h2, h3, h4, h5, h6⟩ := hz
  refine s_put hd h1 h2 h3 h5 (ent_obj hs) (zsh_lt hs (Or.inl (by omega))) (fun B => by rw [h6]; exact ⟨rfl, rfl⟩) (by rw [fldV_len]; exact (List.getElem?_eq_some_iff.mp h4).1) ?_
  rw [fldV_setI _ _ _ _ _ _ h4, Nat.zero_add, ent_upI (ent_obj hs)]
  exact kk
theorem zt_putZ {ci k index a : Nat} {v : Int32} (hd : decode (zb m) pc = .ok (.putfield index, 3)) (hp : pc + 3 = q) (hz : Zf (zy m).cls index ci k (0, 0) false .boolean) (hn : narrow .boolean (.int v) = .int v) (hfit : fits .boolean (.int v) = true) (hs : zsh yy a = (10 + ci, 0, 0, 0)) (kk : wp yy m Q q lo st (uI M a k v)) : wp yy m Q pc lo (.int v :: .ref a :: st) M := by
  subst hp
  obtain ⟨cl, h1, h2, h3, h4, h5, h6⟩ := hz
  refine s_put hd h1 h2 h3 h5 (ent_obj hs) (zsh_lt hs (Or.inl (by omega))) (fun B => by rw [h6]; exact ⟨hn, hfit⟩) (by rw [fldV_len]; exact (List.getElem?_eq_some_iff.mp h4).1) ?_
  rw [fldV_setI _ _ _ _ _ _ h4, Nat.zero_add, ent_upI (ent_obj hs)]
  exact kk
theorem zt_putL {ci k index a : Nat} {v : Int64} (hd : decode (zb m) pc = .ok (.putfield index, 3)) (hp : pc + 3 = q) (hz : Zf (zy m).cls index ci k (1, 0) false .long) (hs : zsh yy a = (10 + ci, 0, 0, 0)) (kk : wp yy m Q q lo st (uL M a k v)) : wp yy m Q pc lo (.long v :: .ref a :: st) M := by
  subst hp
  obtain ⟨cl, h1, h2, h3, h4, h5, h6⟩ := hz
  refine s_put hd h1 h2 h3 h5 (ent_obj hs) (zsh_lt hs (Or.inl (by omega))) (fun B => by rw [h6]; exact ⟨rfl, rfl⟩) (by rw [fldV_len]; exact (List.getElem?_eq_some_iff.mp h4).1) ?_
  rw [fldV_setL _ _ _ _ _ _ h4, Nat.zero_add, ent_upL (ent_obj hs)]
  exact kk
theorem zt_iald {a len : Nat} {i : Int32} (hd : decode (zb m) pc = .ok (.iaload, 1)) (hp : pc + 1 = q) (hs : zsh yy a = (0, len, 0, 0)) (hin : vp_in i len) (kk : wp yy m Q q lo (.int (M.1 a i.toNatClampNeg) :: st) M) : wp yy m Q pc lo (.int i :: .ref a :: st) M := by
  subst hp
  exact s_iald hd (ent_int hs) (zsh_lt hs (Or.inr (vp_pos hin))) hin kk
theorem zt_zald {a len : Nat} {i : Int32} (hd : decode (zb m) pc = .ok (.baload, 1)) (hp : pc + 1 = q) (hs : zsh yy a = (2, len, 0, 0)) (hin : vp_in i len) (kk : wp yy m Q q lo (.int (M.1 a i.toNatClampNeg) :: st) M) : wp yy m Q pc lo (.int i :: .ref a :: st) M := by
  subst hp
  exact s_zald hd (ent_bool hs) (zsh_lt hs (Or.inl (by omega))) hin kk
theorem zt_lald {a len : Nat} {i : Int32} (hd : decode (zb m) pc = .ok (.laload, 1)) (hp : pc + 1 = q) (hs : zsh yy a = (1, len, 0, 0)) (hin : vp_in i len) (kk : wp yy m Q q lo (.long (M.2 a i.toNatClampNeg) :: st) M) : wp yy m Q pc lo (.int i :: .ref a :: st) M := by
  subst hp
  exact s_lald hd (ent_long hs) (zsh_lt hs (Or.inl (by omega))) hin kk
theorem zt_aald {t a b len bs ks : Nat} {ty : FieldType} {i : Int32} (hd : decode (zb m) pc = .ok (.aaload, 1)) (hp : pc + 1 = q) (ht : ∀ o : Zo, (ztys o)[t]? = some (o.2.2 t, ty)) (hty : ty.isReference = true) (h3 : 3 ≤ t) (h9 : t < 10) (hs : zsh yy a = (t, len, bs, ks)) (hin : vp_in i len) (hb : a + bs + ks * i.toNatClampNeg = b) (kk : wp yy m Q q lo (.ref b :: st) M) : wp yy m Q pc lo (.int i :: .ref a :: st) M := by
  subst hp
  subst hb
  exact s_aald hd ht hty (ent_ref hs h3 h9) (zsh_lt hs (Or.inl (by omega))) hin (if_pos (vp_lt hin)) kk
theorem zt_alenI {a len : Nat} (hd : decode (zb m) pc = .ok (.arraylength, 1)) (hp : pc + 1 = q) (hs : zsh yy a = (0, len, 0, 0)) (h0 : 0 < len) (kk : wp yy m Q q lo (.int (Int32.ofNat len) :: st) M) : wp yy m Q pc lo (.ref a :: st) M := by
  subst hp
  exact s_alen (t := 0) hd (fun _ => rfl) (ent_int hs) (zsh_lt hs (Or.inr h0)) kk
theorem zt_iast {a len : Nat} {i x : Int32} (hd : decode (zb m) pc = .ok (.iastore, 1)) (hp : pc + 1 = q) (hs : zsh yy a = (0, len, 0, 0)) (hin : vp_in i len) (kk : wp yy m Q q lo st (uI M a i.toNatClampNeg x)) : wp yy m Q pc lo (.int x :: .int i :: .ref a :: st) M := by
  subst hp
  refine s_iast hd (ent_int hs) (zsh_lt hs (Or.inr (vp_pos hin))) hin ?_
  rw [ent_upI (k := i.toNatClampNeg) (v := x) (by rw [ent_int hs]; simp [uI])]
  exact kk
theorem zt_zast {a len : Nat} {i x : Int32} (hd : decode (zb m) pc = .ok (.bastore, 1)) (hp : pc + 1 = q) (hs : zsh yy a = (2, len, 0, 0)) (hin : vp_in i len) (kk : wp yy m Q q lo st (uI M a i.toNatClampNeg (vp_nar .boolean x))) : wp yy m Q pc lo (.int x :: .int i :: .ref a :: st) M := by
  subst hp
  refine s_zast hd (ent_bool hs) (zsh_lt hs (Or.inl (by omega))) hin ?_
  rw [ent_upI (k := i.toNatClampNeg) (v := vp_nar .boolean x) (by rw [ent_bool hs]; simp [uI])]
  exact kk
theorem zt_last {a len : Nat} {i : Int32} {x : Int64} (hd : decode (zb m) pc = .ok (.lastore, 1)) (hp : pc + 1 = q) (hs : zsh yy a = (1, len, 0, 0)) (hin : vp_in i len) (kk : wp yy m Q q lo st (uL M a i.toNatClampNeg x)) : wp yy m Q pc lo (.long x :: .int i :: .ref a :: st) M := by
  subst hp
  refine s_last hd (ent_long hs) (zsh_lt hs (Or.inl (by omega))) hin ?_
  rw [ent_upL (k := i.toNatClampNeg) (v := x) (by rw [ent_long hs]; simp [uL])]
  exact kk
/-- what the tables say of a method, whoever calls it -/
def Zm0 (m' : Zm) (np : Nat) : Prop := Cond.code (zy m') (zb m') (zl m') (zr m') ∈ zG ∧ Cond.initialized (zy m').cls ∈ zG ∧ ((zy m').cls ≠ "java/lang/invoke/MethodHandle" ∧ (zy m').cls ≠ "java/lang/invoke/VarHandle") ∧ (parseMethodDescriptor (zy m').desc).map (fun d => d.parameters.length) = some np
def ZmI (m' : Zm) (ci np : Nat) : Prop := Zm0 m' np ∧ Cond.instanceMethod (zy m') ∈ zG ∧ Cond.selects (zy m').cls (zy m') (zy m') ∈ zG ∧ (zR m').cells = 0 ∧ (zR m').slots = 0 ∧ zg m' = false ∧ ∃ cl : vw_C, zcl[ci]? = some cl ∧ cl.1 = (zy m').cls
def ZmS (m' : Zm) (np : Nat) : Prop := Zm0 m' np ∧ Cond.static (zy m') ∈ zG ∧ (zR m').cells = 0 ∧ (zR m').slots = 0 ∧ zg m' = false
/-- the room of a call -/
def Zro (m m' : Zm) : Prop := (zR m').frames + 1 ≤ (zR m).frames ∧ 8 + (zl m' + 11) + (zR m').locals ≤ (zR m).locals
theorem zt_callV {b ci np index : Nat} {as : List Value} {Q' : Option Value → Mem → Prop} (hd : decode (zb m) pc = .ok (.invokevirtual index, 3)) (hp : pc + 3 = q) (hm : ZmI m' ci np) (hro : Zro m m') (hl : Cond.methodLink (zy m).cls index (zy m') ∈ zG) (hst : st0 = as.reverse ++ .ref b :: st) (hn : as.length = np) (hW : (st.map fun v => v.category).sum ≤ 8) (hs : zsh yy b = (10 + ci, 0, 0, 0)) (hM : Call yy m' (.ref b :: as) M Q') (kk : ∀ v M1, Q' v M1 → wp yy m Q q lo (v.toList ++ st) M1) : wp yy m Q pc lo st0 M := by
  subst hp
  obtain ⟨⟨h1, h2, h3, h4⟩, h5, h6, h7, h8, h9, cl, h10, h11⟩ := hm
  refine s_callV hd ⟨hro.1, hro.2, (fun g => by rw [h9] at g; cases g), h1, h2, h3, h4⟩ hl h5 h6 h10 h11 (ent_obj hs) (zsh_lt hs (Or.inl (by omega))) hst hn hW (by rw [h7]; exact Nat.zero_le _) (by rw [h8]; exact Nat.zero_le _) hM ?_
  rintro v n' f' ⟨rfl, M1, rfl, hq⟩
  rw [h7, h8]
  exact kk v M1 hq
theorem zt_callS {np index : Nat} {as : List Value} {Q' : Option Value → Mem → Prop} (hd : decode (zb m) pc = .ok (.invokestatic index, 3)) (hp : pc + 3 = q) (hm : ZmS m' np) (hro : Zro m m') (hl : Cond.methodLink (zy m).cls index (zy m') ∈ zG) (hst : st0 = as.reverse ++ st) (hn : as.length = np) (hW : (st.map fun v => v.category).sum ≤ 8) (hM : Call yy m' as M Q') (kk : ∀ v M1, Q' v M1 → wp yy m Q q lo (v.toList ++ st) M1) : wp yy m Q pc lo st0 M := by
  subst hp
  obtain ⟨⟨h1, h2, h3, h4⟩, h5, h7, h8, h9⟩ := hm
  refine s_callS hd ⟨hro.1, hro.2, (fun g => by rw [h9] at g; cases g), h1, h2, h3, h4⟩ hl h5 hst hn hW (by rw [h7]; exact Nat.zero_le _) (by rw [h8]; exact Nat.zero_le _) hM ?_
  rintro v n' f' ⟨rfl, M1, rfl, hq⟩
  rw [h7, h8]
  exact kk v M1 hq
theorem zt_callVI {b ci np index : Nat} {as : List Value} (hd : decode (zb m) pc = .ok (.invokevirtual index, 3)) (hp : pc + 3 = q) (hm : ZmI m' ci np) (hro : Zro m m') (hl : Cond.methodLink (zy m).cls index (zy m') ∈ zG) (hst : st0 = as.reverse ++ .ref b :: st) (hn : as.length = np) (hW : (st.map fun v => v.category).sum ≤ 8) (hs : zsh yy b = (10 + ci, 0, 0, 0)) (hM : CallI yy m' (.ref b :: as) M (fun r M1 => wp yy m Q q lo (.int r :: st) M1)) : wp yy m Q pc lo st0 M :=
  zt_callV hd hp hm hro hl hst hn hW hs hM (fun v M1 h => by obtain ⟨r, rfl, h⟩ := h; exact h)
theorem zt_callSI {np index : Nat} {as : List Value} (hd : decode (zb m) pc = .ok (.invokestatic index, 3)) (hp : pc + 3 = q) (hm : ZmS m' np) (hro : Zro m m') (hl : Cond.methodLink (zy m).cls index (zy m') ∈ zG) (hst : st0 = as.reverse ++ st) (hn : as.length = np) (hW : (st.map fun v => v.category).sum ≤ 8) (hM : CallI yy m' as M (fun r M1 => wp yy m Q q lo (.int r :: st) M1)) : wp yy m Q pc lo st0 M :=
  zt_callS hd hp hm hro hl hst hn hW hM (fun v M1 h => by obtain ⟨r, rfl, h⟩ := h; exact h)
theorem zt_callVL {b ci np index : Nat} {as : List Value} (hd : decode (zb m) pc = .ok (.invokevirtual index, 3)) (hp : pc + 3 = q) (hm : ZmI m' ci np) (hro : Zro m m') (hl : Cond.methodLink (zy m).cls index (zy m') ∈ zG) (hst : st0 = as.reverse ++ .ref b :: st) (hn : as.length = np) (hW : (st.map fun v => v.category).sum ≤ 8) (hs : zsh yy b = (10 + ci, 0, 0, 0)) (hM : CallL yy m' (.ref b :: as) M (fun r M1 => wp yy m Q q lo (.long r :: st) M1)) : wp yy m Q pc lo st0 M :=
  zt_callV hd hp hm hro hl hst hn hW hs hM (fun v M1 h => by obtain ⟨r, rfl, h⟩ := h; exact h)
theorem zt_callSL {np index : Nat} {as : List Value} (hd : decode (zb m) pc = .ok (.invokestatic index, 3)) (hp : pc + 3 = q) (hm : ZmS m' np) (hro : Zro m m') (hl : Cond.methodLink (zy m).cls index (zy m') ∈ zG) (hst : st0 = as.reverse ++ st) (hn : as.length = np) (hW : (st.map fun v => v.category).sum ≤ 8) (hM : CallL yy m' as M (fun r M1 => wp yy m Q q lo (.long r :: st) M1)) : wp yy m Q pc lo st0 M :=
  zt_callS hd hp hm hro hl hst hn hW hM (fun v M1 h => by obtain ⟨r, rfl, h⟩ := h; exact h)
theorem zt_callVR {b ci np index : Nat} {as : List Value} (hd : decode (zb m) pc = .ok (.invokevirtual index, 3)) (hp : pc + 3 = q) (hm : ZmI m' ci np) (hro : Zro m m') (hl : Cond.methodLink (zy m).cls index (zy m') ∈ zG) (hst : st0 = as.reverse ++ .ref b :: st) (hn : as.length = np) (hW : (st.map fun v => v.category).sum ≤ 8) (hs : zsh yy b = (10 + ci, 0, 0, 0)) (hM : CallR yy m' (.ref b :: as) M (fun r M1 => wp yy m Q q lo (.ref r :: st) M1)) : wp yy m Q pc lo st0 M :=
  zt_callV hd hp hm hro hl hst hn hW hs hM (fun v M1 h => by obtain ⟨r, rfl, h⟩ := h; exact h)
theorem zt_callSR {np index : Nat} {as : List Value} (hd : decode (zb m) pc = .ok (.invokestatic index, 3)) (hp : pc + 3 = q) (hm : ZmS m' np) (hro : Zro m m') (hl : Cond.methodLink (zy m).cls index (zy m') ∈ zG) (hst : st0 = as.reverse ++ st) (hn : as.length = np) (hW : (st.map fun v => v.category).sum ≤ 8) (hM : CallR yy m' as M (fun r M1 => wp yy m Q q lo (.ref r :: st) M1)) : wp yy m Q pc lo st0 M :=
  zt_callS hd hp hm hro hl hst hn hW hM (fun v M1 h => by obtain ⟨r, rfl, h⟩ := h; exact h)
theorem zt_callVV {b ci np index : Nat} {as : List Value} (hd : decode (zb m) pc = .ok (.invokevirtual index, 3)) (hp : pc + 3 = q) (hm : ZmI m' ci np) (hro : Zro m m') (hl : Cond.methodLink (zy m).cls index (zy m') ∈ zG) (hst : st0 = as.reverse ++ .ref b :: st) (hn : as.length = np) (hW : (st.map fun v => v.category).sum ≤ 8) (hs : zsh yy b = (10 + ci, 0, 0, 0)) (hM : CallV yy m' (.ref b :: as) M (fun M1 => wp yy m Q q lo st M1)) : wp yy m Q pc lo st0 M :=
  zt_callV hd hp hm hro hl hst hn hW hs hM (fun v M1 h => by obtain ⟨rfl, h⟩ := h; exact h)
theorem zt_callSV {np index : Nat} {as : List Value} (hd : decode (zb m) pc = .ok (.invokestatic index, 3)) (hp : pc + 3 = q) (hm : ZmS m' np) (hro : Zro m m') (hl : Cond.methodLink (zy m).cls index (zy m') ∈ zG) (hst : st0 = as.reverse ++ st) (hn : as.length = np) (hW : (st.map fun v => v.category).sum ≤ 8) (hM : CallV yy m' as M (fun M1 => wp yy m Q q lo st M1)) : wp yy m Q pc lo st0 M :=
  zt_callS hd hp hm hro hl hst hn hW hM (fun v M1 h => by obtain ⟨rfl, h⟩ := h; exact h)
/-- Math's static functions -/
def Zma (m : Zm) (index : Nat) (y : MethodName) (b : ByteArray) (k : Nat) : Prop := Cond.methodLink (zy m).cls index y ∈ zG ∧ Cond.static y ∈ zG ∧ Cond.initialized "java/lang/Math" ∈ zG ∧ Cond.code y b k (some .int) ∈ zG ∧ 1 ≤ (zR m).frames
theorem zt_mmax {index : Nat} {x z : Int32} (hd : decode (zb m) pc = .ok (.invokestatic index, 3)) (hp : pc + 3 = q) (hz : Zma m index Lib.Math.max.name Lib.Math.max.code 2) (hlo : (st.map fun v => v.category).sum + 13 ≤ (zR m).locals) (kk : wp yy m Q q lo (.int (if x < z then z else x) :: st) M) : wp yy m Q pc lo (.int z :: .int x :: st) M := by
  subst hp
  exact s_mmax hd hz.1 hz.2.1 hz.2.2.1 hz.2.2.2.1 hz.2.2.2.2 hlo (Nat.zero_le _) (Nat.zero_le _) kk
theorem zt_mmin {index : Nat} {x z : Int32} (hd : decode (zb m) pc = .ok (.invokestatic index, 3)) (hp : pc + 3 = q) (hz : Zma m index Lib.Math.min.name Lib.Math.min.code 2) (hlo : (st.map fun v => v.category).sum + 13 ≤ (zR m).locals) (kk : wp yy m Q q lo (.int (if z < x then z else x) :: st) M) : wp yy m Q pc lo (.int z :: .int x :: st) M := by
  subst hp
  exact s_mmin hd hz.1 hz.2.1 hz.2.2.1 hz.2.2.2.1 hz.2.2.2.2 hlo (Nat.zero_le _) (Nat.zero_le _) kk
theorem zt_mabs {index : Nat} {x : Int32} (hd : decode (zb m) pc = .ok (.invokestatic index, 3)) (hp : pc + 3 = q) (hz : Zma m index Lib.Math.abs.name Lib.Math.abs.code 1) (hlo : (st.map fun v => v.category).sum + 13 ≤ (zR m).locals) (kk : wp yy m Q q lo (.int (if 0 ≤ x then x else 0 - x) :: st) M) : wp yy m Q pc lo (.int x :: st) M := by
  subst hp
  exact s_mabs hd hz.1 hz.2.1 hz.2.2.1 hz.2.2.2.1 hz.2.2.2.2 hlo (Nat.zero_le _) (Nat.zero_le _) kk
end ZRW
end
section
/-! the tables' words that are used, by their places -/
theorem ws_0 : (Cond.selects "EditGuess" ⟨"EditGuess", "poolChanged", "()V"⟩ ⟨"EditGuess", "poolChanged", "()V"⟩) ∈ zG := zgm (List.mem_append_left _ (List.mem_of_getElem? (i := 0) (by decide +kernel))) rfl
theorem ws_1 : (Cond.selects "EditGuess" ⟨"EditGuess", "exampleFault", "()I"⟩ ⟨"EditGuess", "exampleFault", "()I"⟩) ∈ zG := zgm (List.mem_append_left _ (List.mem_of_getElem? (i := 1) (by decide +kernel))) rfl
theorem ws_2 : (Cond.selects "EditGuess" ⟨"EditGuess", "lineFault", "()I"⟩ ⟨"EditGuess", "lineFault", "()I"⟩) ∈ zG := zgm (List.mem_append_left _ (List.mem_of_getElem? (i := 2) (by decide +kernel))) rfl
theorem ws_3 : (Cond.selects "EditGuess" ⟨"EditGuess", "examplesChanged", "()V"⟩ ⟨"EditGuess", "examplesChanged", "()V"⟩) ∈ zG := zgm (List.mem_append_left _ (List.mem_of_getElem? (i := 3) (by decide +kernel))) rfl
theorem ws_4 : (Cond.selects "EditGuess" ⟨"EditGuess", "guess", "()V"⟩ ⟨"EditGuess", "guess", "()V"⟩) ∈ zG := zgm (List.mem_append_left _ (List.mem_of_getElem? (i := 4) (by decide +kernel))) rfl
theorem ws_5 : (Cond.selects "EditGuess$Row" ⟨"EditGuess$Row", "countAlike", "(LEditGuess$Signs;II)I"⟩ ⟨"EditGuess$Row", "countAlike", "(LEditGuess$Signs;II)I"⟩) ∈ zG := zgm (List.mem_append_left _ (List.mem_of_getElem? (i := 5) (by decide +kernel))) rfl
theorem ws_6 : (Cond.selects "EditGuess$Fitting" ⟨"EditGuess$Fitting", "groupMarks", "()V"⟩ ⟨"EditGuess$Fitting", "groupMarks", "()V"⟩) ∈ zG := zgm (List.mem_append_left _ (List.mem_of_getElem? (i := 6) (by decide +kernel))) rfl
theorem ws_7 : (Cond.selects "EditGuess$Fitting" ⟨"EditGuess$Fitting", "isToldInAll", "(I)Z"⟩ ⟨"EditGuess$Fitting", "isToldInAll", "(I)Z"⟩) ∈ zG := zgm (List.mem_append_left _ (List.mem_of_getElem? (i := 7) (by decide +kernel))) rfl
theorem ws_8 : (Cond.selects "EditGuess$Fitting" ⟨"EditGuess$Fitting", "joinGroup", "(I)V"⟩ ⟨"EditGuess$Fitting", "joinGroup", "(I)V"⟩) ∈ zG := zgm (List.mem_append_left _ (List.mem_of_getElem? (i := 8) (by decide +kernel))) rfl
theorem ws_9 : (Cond.selects "EditGuess$Fitting" ⟨"EditGuess$Fitting", "tellSame", "(II)Z"⟩ ⟨"EditGuess$Fitting", "tellSame", "(II)Z"⟩) ∈ zG := zgm (List.mem_append_left _ (List.mem_of_getElem? (i := 9) (by decide +kernel))) rfl
theorem ws_10 : (Cond.selects "EditGuess$Fitting" ⟨"EditGuess$Fitting", "lastState", "()I"⟩ ⟨"EditGuess$Fitting", "lastState", "()I"⟩) ∈ zG := zgm (List.mem_append_left _ (List.mem_of_getElem? (i := 10) (by decide +kernel))) rfl
theorem ws_11 : (Cond.selects "EditGuess$Fitting" ⟨"EditGuess$Fitting", "listMoves", "(I)V"⟩ ⟨"EditGuess$Fitting", "listMoves", "(I)V"⟩) ∈ zG := zgm (List.mem_append_left _ (List.mem_of_getElem? (i := 11) (by decide +kernel))) rfl
theorem ws_12 : (Cond.selects "EditGuess$Fitting" ⟨"EditGuess$Fitting", "reach", "(I)V"⟩ ⟨"EditGuess$Fitting", "reach", "(I)V"⟩) ∈ zG := zgm (List.mem_append_left _ (List.mem_of_getElem? (i := 12) (by decide +kernel))) rfl
theorem ws_13 : (Cond.selects "EditGuess$Fitting" ⟨"EditGuess$Fitting", "canBegin", "(I)Z"⟩ ⟨"EditGuess$Fitting", "canBegin", "(I)Z"⟩) ∈ zG := zgm (List.mem_append_left _ (List.mem_of_getElem? (i := 13) (by decide +kernel))) rfl
theorem ws_14 : (Cond.selects "EditGuess$Fitting" ⟨"EditGuess$Fitting", "listCuts", "(II)V"⟩ ⟨"EditGuess$Fitting", "listCuts", "(II)V"⟩) ∈ zG := zgm (List.mem_append_left _ (List.mem_of_getElem? (i := 14) (by decide +kernel))) rfl
theorem ws_15 : (Cond.selects "EditGuess$Fitting" ⟨"EditGuess$Fitting", "cutTarget", "(III)I"⟩ ⟨"EditGuess$Fitting", "cutTarget", "(III)I"⟩) ∈ zG := zgm (List.mem_append_left _ (List.mem_of_getElem? (i := 15) (by decide +kernel))) rfl
theorem ws_16 : (Cond.selects "EditGuess$Fitting" ⟨"EditGuess$Fitting", "longestText", "()I"⟩ ⟨"EditGuess$Fitting", "longestText", "()I"⟩) ∈ zG := zgm (List.mem_append_left _ (List.mem_of_getElem? (i := 16) (by decide +kernel))) rfl
theorem ws_17 : (Cond.selects "EditGuess$Fitting" ⟨"EditGuess$Fitting", "isNextInAll", "(I)Z"⟩ ⟨"EditGuess$Fitting", "isNextInAll", "(I)Z"⟩) ∈ zG := zgm (List.mem_append_left _ (List.mem_of_getElem? (i := 17) (by decide +kernel))) rfl
theorem ws_18 : (Cond.selects "EditGuess$Fitting" ⟨"EditGuess$Fitting", "textTarget", "(II)I"⟩ ⟨"EditGuess$Fitting", "textTarget", "(II)I"⟩) ∈ zG := zgm (List.mem_append_left _ (List.mem_of_getElem? (i := 18) (by decide +kernel))) rfl
theorem ws_19 : (Cond.selects "EditGuess$Fitting" ⟨"EditGuess$Fitting", "addWays", "(IJ)V"⟩ ⟨"EditGuess$Fitting", "addWays", "(IJ)V"⟩) ∈ zG := zgm (List.mem_append_left _ (List.mem_of_getElem? (i := 19) (by decide +kernel))) rfl
theorem ws_20 : (Cond.selects "EditGuess$Fitting" ⟨"EditGuess$Fitting", "leastFrom", "(I)I"⟩ ⟨"EditGuess$Fitting", "leastFrom", "(I)I"⟩) ∈ zG := zgm (List.mem_append_left _ (List.mem_of_getElem? (i := 20) (by decide +kernel))) rfl
theorem ws_21 : (Cond.selects "EditGuess$Fitting" ⟨"EditGuess$Fitting", "tellCut", "(ILEditGuess$Plan;)I"⟩ ⟨"EditGuess$Fitting", "tellCut", "(ILEditGuess$Plan;)I"⟩) ∈ zG := zgm (List.mem_append_left _ (List.mem_of_getElem? (i := 21) (by decide +kernel))) rfl
theorem ws_22 : (Cond.selects "EditGuess$Fitting" ⟨"EditGuess$Fitting", "tellText", "(ILEditGuess$Plan;)I"⟩ ⟨"EditGuess$Fitting", "tellText", "(ILEditGuess$Plan;)I"⟩) ∈ zG := zgm (List.mem_append_left _ (List.mem_of_getElem? (i := 22) (by decide +kernel))) rfl
theorem ws_23 : (Cond.selects "EditGuess" ⟨"EditGuess", "makesResult", "(I)Z"⟩ ⟨"EditGuess", "makesResult", "(I)Z"⟩) ∈ zG := zgm (List.mem_append_left _ (List.mem_of_getElem? (i := 23) (by decide +kernel))) rfl
theorem ws_24 : (Cond.selects "EditGuess" ⟨"EditGuess", "countAgreeing", "(I)J"⟩ ⟨"EditGuess", "countAgreeing", "(I)J"⟩) ∈ zG := zgm (List.mem_append_left _ (List.mem_of_getElem? (i := 24) (by decide +kernel))) rfl
theorem ws_25 : (Cond.selects "EditGuessModel" ⟨"EditGuessModel", "exampleFault", "()I"⟩ ⟨"EditGuessModel", "exampleFault", "()I"⟩) ∈ zG := zgm (List.mem_append_left _ (List.mem_of_getElem? (i := 25) (by decide +kernel))) rfl
theorem ws_26 : (Cond.selects "EditGuessModel" ⟨"EditGuessModel", "lineFault", "()I"⟩ ⟨"EditGuessModel", "lineFault", "()I"⟩) ∈ zG := zgm (List.mem_append_left _ (List.mem_of_getElem? (i := 26) (by decide +kernel))) rfl
theorem ws_27 : (Cond.selects "EditGuessModel" ⟨"EditGuessModel", "goFrom", "(I)V"⟩ ⟨"EditGuessModel", "goFrom", "(I)V"⟩) ∈ zG := zgm (List.mem_append_left _ (List.mem_of_getElem? (i := 27) (by decide +kernel))) rfl
theorem ws_28 : (Cond.selects "EditGuessModel" ⟨"EditGuessModel", "lookAtPad", "()V"⟩ ⟨"EditGuessModel", "lookAtPad", "()V"⟩) ∈ zG := zgm (List.mem_append_left _ (List.mem_of_getElem? (i := 28) (by decide +kernel))) rfl
theorem ws_29 : (Cond.selects "EditGuessModel" ⟨"EditGuessModel", "placeOf", "(I)I"⟩ ⟨"EditGuessModel", "placeOf", "(I)I"⟩) ∈ zG := zgm (List.mem_append_left _ (List.mem_of_getElem? (i := 29) (by decide +kernel))) rfl
theorem ws_30 : (Cond.selects "EditGuessModel" ⟨"EditGuessModel", "runAt", "(IIZ)I"⟩ ⟨"EditGuessModel", "runAt", "(IIZ)I"⟩) ∈ zG := zgm (List.mem_append_left _ (List.mem_of_getElem? (i := 30) (by decide +kernel))) rfl
theorem ws_31 : (Cond.selects "EditGuessModel" ⟨"EditGuessModel", "layExamples", "()V"⟩ ⟨"EditGuessModel", "layExamples", "()V"⟩) ∈ zG := zgm (List.mem_append_left _ (List.mem_of_getElem? (i := 31) (by decide +kernel))) rfl
theorem ws_32 : (Cond.selects "EditGuessModel" ⟨"EditGuessModel", "addWork", "()V"⟩ ⟨"EditGuessModel", "addWork", "()V"⟩) ∈ zG := zgm (List.mem_append_left _ (List.mem_of_getElem? (i := 32) (by decide +kernel))) rfl
theorem ws_33 : (Cond.selects "EditGuessModel" ⟨"EditGuessModel", "count", "()J"⟩ ⟨"EditGuessModel", "count", "()J"⟩) ∈ zG := zgm (List.mem_append_left _ (List.mem_of_getElem? (i := 33) (by decide +kernel))) rfl
theorem ws_34 : (Cond.selects "EditGuessModel" ⟨"EditGuessModel", "rows", "()I"⟩ ⟨"EditGuessModel", "rows", "()I"⟩) ∈ zG := zgm (List.mem_append_left _ (List.mem_of_getElem? (i := 34) (by decide +kernel))) rfl
theorem ws_35 : (Cond.selects "EditGuessModel" ⟨"EditGuessModel", "cut", "(III)I"⟩ ⟨"EditGuessModel", "cut", "(III)I"⟩) ∈ zG := zgm (List.mem_append_left _ (List.mem_of_getElem? (i := 35) (by decide +kernel))) rfl
theorem ws_36 : (Cond.selects "EditGuessModel" ⟨"EditGuessModel", "text", "(II)I"⟩ ⟨"EditGuessModel", "text", "(II)I"⟩) ∈ zG := zgm (List.mem_append_left _ (List.mem_of_getElem? (i := 36) (by decide +kernel))) rfl
theorem ws_37 : (Cond.selects "EditGuessModel" ⟨"EditGuessModel", "end", "()I"⟩ ⟨"EditGuessModel", "end", "()I"⟩) ∈ zG := zgm (List.mem_append_left _ (List.mem_of_getElem? (i := 37) (by decide +kernel))) rfl
theorem ws_38 : (Cond.selects "EditGuessModel" ⟨"EditGuessModel", "layBest", "()Z"⟩ ⟨"EditGuessModel", "layBest", "()Z"⟩) ∈ zG := zgm (List.mem_append_left _ (List.mem_of_getElem? (i := 38) (by decide +kernel))) rfl
theorem ws_39 : (Cond.selects "EditGuessModel" ⟨"EditGuessModel", "costOfCut", "(II)I"⟩ ⟨"EditGuessModel", "costOfCut", "(II)I"⟩) ∈ zG := zgm (List.mem_append_left _ (List.mem_of_getElem? (i := 39) (by decide +kernel))) rfl
theorem ws_40 : (Cond.selects "EditGuessModel" ⟨"EditGuessModel", "goOn", "(I)I"⟩ ⟨"EditGuessModel", "goOn", "(I)I"⟩) ∈ zG := zgm (List.mem_append_left _ (List.mem_of_getElem? (i := 40) (by decide +kernel))) rfl
theorem ws_41 : (Cond.selects "EditGuessModel" ⟨"EditGuessModel", "costOfPiece", "(I)I"⟩ ⟨"EditGuessModel", "costOfPiece", "(I)I"⟩) ∈ zG := zgm (List.mem_append_left _ (List.mem_of_getElem? (i := 41) (by decide +kernel))) rfl
theorem ws_42 : (Cond.selects "EditGuessModel" ⟨"EditGuessModel", "make", "()I"⟩ ⟨"EditGuessModel", "make", "()I"⟩) ∈ zG := zgm (List.mem_append_left _ (List.mem_of_getElem? (i := 42) (by decide +kernel))) rfl
theorem ws_43 : (Cond.selects "EditGuessModel" ⟨"EditGuessModel", "lookAtPool", "(I)V"⟩ ⟨"EditGuessModel", "lookAtPool", "(I)V"⟩) ∈ zG := zgm (List.mem_append_left _ (List.mem_of_getElem? (i := 43) (by decide +kernel))) rfl
theorem ws_44 : (Cond.selects "EditGuessModel" ⟨"EditGuessModel", "agreeingOf", "(I)J"⟩ ⟨"EditGuessModel", "agreeingOf", "(I)J"⟩) ∈ zG := zgm (List.mem_append_left _ (List.mem_of_getElem? (i := 44) (by decide +kernel))) rfl
theorem wd_1 : ((Jvm.Cond.initialized "EditGuess") : Cond) ∈ zG := zgm (List.mem_append_right _ (List.mem_append_left _ (List.mem_of_getElem? (l := tables_1_1) (i := 1) rfl))) rfl
theorem wd_2 : ((Jvm.Cond.initialized "EditGuess$Signs") : Cond) ∈ zG := zgm (List.mem_append_right _ (List.mem_append_left _ (List.mem_of_getElem? (l := tables_1_1) (i := 2) rfl))) rfl
theorem wd_3 : ((Jvm.Cond.initialized "java/lang/Math") : Cond) ∈ zG := zgm (List.mem_append_right _ (List.mem_append_left _ (List.mem_of_getElem? (l := tables_1_1) (i := 3) rfl))) rfl
theorem wd_4 : ((Jvm.Cond.initialized "EditGuess$Book") : Cond) ∈ zG := zgm (List.mem_append_right _ (List.mem_append_left _ (List.mem_of_getElem? (l := tables_1_1) (i := 4) rfl))) rfl
theorem wd_5 : ((Jvm.Cond.initialized "EditGuess$Fitting") : Cond) ∈ zG := zgm (List.mem_append_right _ (List.mem_append_left _ (List.mem_of_getElem? (l := tables_1_1) (i := 5) rfl))) rfl
theorem wd_6 : ((Jvm.Cond.initialized "EditGuess$Moves") : Cond) ∈ zG := zgm (List.mem_append_right _ (List.mem_append_left _ (List.mem_of_getElem? (l := tables_1_1) (i := 6) rfl))) rfl
theorem wd_7 : ((Jvm.Cond.initialized "EditGuess$Row") : Cond) ∈ zG := zgm (List.mem_append_right _ (List.mem_append_left _ (List.mem_of_getElem? (l := tables_1_1) (i := 7) rfl))) rfl
theorem wd_8 : ((Jvm.Cond.initialized "EditGuess$Plan") : Cond) ∈ zG := zgm (List.mem_append_right _ (List.mem_append_left _ (List.mem_of_getElem? (l := tables_1_1) (i := 8) rfl))) rfl
theorem wd_9 : ((Jvm.Cond.initialized "EditGuess$Piece") : Cond) ∈ zG := zgm (List.mem_append_right _ (List.mem_append_left _ (List.mem_of_getElem? (l := tables_1_1) (i := 9) rfl))) rfl
theorem wd_10 : ((Jvm.Cond.initialized "EditGuessModel") : Cond) ∈ zG := zgm (List.mem_append_right _ (List.mem_append_left _ (List.mem_of_getElem? (l := tables_1_1) (i := 10) rfl))) rfl
theorem wd_11 : ((Jvm.Cond.initialized "EditGuess$Marks") : Cond) ∈ zG := zgm (List.mem_append_right _ (List.mem_append_left _ (List.mem_of_getElem? (l := tables_1_1) (i := 11) rfl))) rfl
theorem wd_12 : ((Jvm.Cond.classLink "EditGuessLaw" (7 : Nat) "EditGuess") : Cond) ∈ zG := zgm (List.mem_append_right _ (List.mem_append_left _ (List.mem_of_getElem? (l := tables_1_1) (i := 12) rfl))) rfl
theorem wd_13 : ((Jvm.Cond.instantiable "EditGuess" (10 : Nat)) : Cond) ∈ zG := zgm (List.mem_append_right _ (List.mem_append_left _ (List.mem_of_getElem? (l := tables_1_1) (i := 13) rfl))) rfl
theorem wd_14 : ((Jvm.Cond.methodLink "EditGuessLaw" (9 : Nat) ({ cls := "EditGuess", name := "<init>", desc := "()V" } : Jvm.MethodName)) : Cond) ∈ zG := zgm (List.mem_append_right _ (List.mem_append_left _ (List.mem_of_getElem? (l := tables_1_1) (i := 14) rfl))) rfl
theorem wd_16 : ((Jvm.Cond.code ({ cls := "EditGuess", name := "<init>", desc := "()V" } : Jvm.MethodName) prog_1_method_1_code (2 : Nat) (Option.none : Option Jvm.ClassFile.FieldType)) : Cond) ∈ zG := zgm (List.mem_append_right _ (List.mem_append_left _ (List.mem_of_getElem? (l := tables_1_1) (i := 16) rfl))) rfl
theorem wd_17 : ((Jvm.Cond.methodLink "EditGuess" (1 : Nat) ({ cls := "java/lang/Object", name := "<init>", desc := "()V" } : Jvm.MethodName)) : Cond) ∈ zG := zgm (List.mem_append_right _ (List.mem_append_left _ (List.mem_of_getElem? (l := tables_1_1) (i := 17) rfl))) rfl
theorem wd_18 : ((Jvm.Cond.instanceMethod ({ cls := "java/lang/Object", name := "<init>", desc := "()V" } : Jvm.MethodName)) : Cond) ∈ zG := zgm (List.mem_append_right _ (List.mem_append_left _ (List.mem_of_getElem? (l := tables_1_1) (i := 18) rfl))) rfl
theorem wd_19 : ((Jvm.Cond.code ({ cls := "java/lang/Object", name := "<init>", desc := "()V" } : Jvm.MethodName) object_method_1_code (1 : Nat) (Option.none : Option Jvm.ClassFile.FieldType)) : Cond) ∈ zG := zgm (List.mem_append_right _ (List.mem_append_left _ (List.mem_of_getElem? (l := tables_1_1) (i := 19) rfl))) rfl
theorem wd_20 : ((Jvm.Cond.classLink "EditGuess" (7 : Nat) "EditGuess$Signs") : Cond) ∈ zG := zgm (List.mem_append_right _ (List.mem_append_left _ (List.mem_of_getElem? (l := tables_1_1) (i := 20) rfl))) rfl
theorem wd_21 : ((Jvm.Cond.instantiable "EditGuess$Signs" (3 : Nat)) : Cond) ∈ zG := zgm (List.mem_append_right _ (List.mem_append_left _ (List.mem_of_getElem? (l := tables_1_1) (i := 21) rfl))) rfl
theorem wd_22 : ((Jvm.Cond.methodLink "EditGuess" (11 : Nat) ({ cls := "EditGuess$Signs", name := "<init>", desc := "(I)V" } : Jvm.MethodName)) : Cond) ∈ zG := zgm (List.mem_append_right _ (List.mem_append_left _ (List.mem_of_getElem? (l := tables_1_1) (i := 22) rfl))) rfl
theorem wd_24 : ((Jvm.Cond.code ({ cls := "EditGuess$Signs", name := "<init>", desc := "(I)V" } : Jvm.MethodName) prog_9_method_1_code (3 : Nat) (Option.none : Option Jvm.ClassFile.FieldType)) : Cond) ∈ zG := zgm (List.mem_append_right _ (List.mem_append_left _ (List.mem_of_getElem? (l := tables_1_1) (i := 24) rfl))) rfl
theorem wd_25 : ((Jvm.Cond.methodLink "EditGuess$Signs" (3 : Nat) ({ cls := "java/lang/Object", name := "<init>", desc := "()V" } : Jvm.MethodName)) : Cond) ∈ zG := zgm (List.mem_append_right _ (List.mem_append_left _ (List.mem_of_getElem? (l := tables_1_1) (i := 25) rfl))) rfl
theorem wd_26 : ((Jvm.Cond.methodLink "EditGuess$Signs" (9 : Nat) ({ cls := "java/lang/Math", name := "max", desc := "(II)I" } : Jvm.MethodName)) : Cond) ∈ zG := zgm (List.mem_append_right _ (List.mem_append_left _ (List.mem_of_getElem? (l := tables_1_1) (i := 26) rfl))) rfl
theorem wd_27 : ((Jvm.Cond.static ({ cls := "java/lang/Math", name := "max", desc := "(II)I" } : Jvm.MethodName)) : Cond) ∈ zG := zgm (List.mem_append_right _ (List.mem_append_left _ (List.mem_of_getElem? (l := tables_1_1) (i := 27) rfl))) rfl
theorem wd_28 : ((Jvm.Cond.code ({ cls := "java/lang/Math", name := "max", desc := "(II)I" } : Jvm.MethodName) prog_12_method_65_code (2 : Nat) (Option.some Jvm.ClassFile.FieldType.int)) : Cond) ∈ zG := zgm (List.mem_append_right _ (List.mem_append_left _ (List.mem_of_getElem? (l := tables_1_1) (i := 28) rfl))) rfl
theorem wd_29 : ((Jvm.Cond.fieldLink "EditGuess$Signs" (15 : Nat) "EditGuess$Signs" "codes" "[I") : Cond) ∈ zG := zgm (List.mem_append_right _ (List.mem_append_left _ (List.mem_of_getElem? (l := tables_1_1) (i := 29) rfl))) rfl
theorem wd_30 : ((Jvm.Cond.fieldLink "EditGuess$Signs" (21 : Nat) "EditGuess$Signs" "kinds" "[I") : Cond) ∈ zG := zgm (List.mem_append_right _ (List.mem_append_left _ (List.mem_of_getElem? (l := tables_1_1) (i := 30) rfl))) rfl
theorem wd_31 : ((Jvm.Cond.fieldLink "EditGuess$Signs" (24 : Nat) "EditGuess$Signs" "many" "I") : Cond) ∈ zG := zgm (List.mem_append_right _ (List.mem_append_left _ (List.mem_of_getElem? (l := tables_1_1) (i := 31) rfl))) rfl
theorem wd_39 : ((Jvm.Cond.arrayClass Jvm.ClassFile.FieldType.int) : Cond) ∈ zG := zgm (List.mem_append_right _ (List.mem_append_left _ (List.mem_of_getElem? (l := tables_1_1) (i := 39) rfl))) rfl
theorem wd_40 : ((Jvm.Cond.classLink "EditGuess" (18 : Nat) "EditGuess$Book") : Cond) ∈ zG := zgm (List.mem_append_right _ (List.mem_append_left _ (List.mem_of_getElem? (l := tables_1_1) (i := 40) rfl))) rfl
theorem wd_41 : ((Jvm.Cond.instantiable "EditGuess$Book" (5 : Nat)) : Cond) ∈ zG := zgm (List.mem_append_right _ (List.mem_append_left _ (List.mem_of_getElem? (l := tables_1_1) (i := 41) rfl))) rfl
theorem wd_42 : ((Jvm.Cond.methodLink "EditGuess" (20 : Nat) ({ cls := "EditGuess$Book", name := "<init>", desc := "()V" } : Jvm.MethodName)) : Cond) ∈ zG := zgm (List.mem_append_right _ (List.mem_append_left _ (List.mem_of_getElem? (l := tables_1_1) (i := 42) rfl))) rfl
theorem wd_44 : ((Jvm.Cond.code ({ cls := "EditGuess$Book", name := "<init>", desc := "()V" } : Jvm.MethodName) prog_2_method_1_code (2 : Nat) (Option.none : Option Jvm.ClassFile.FieldType)) : Cond) ∈ zG := zgm (List.mem_append_right _ (List.mem_append_left _ (List.mem_of_getElem? (l := tables_1_1) (i := 44) rfl))) rfl
theorem wd_45 : ((Jvm.Cond.methodLink "EditGuess$Book" (3 : Nat) ({ cls := "java/lang/Object", name := "<init>", desc := "()V" } : Jvm.MethodName)) : Cond) ∈ zG := zgm (List.mem_append_right _ (List.mem_append_left _ (List.mem_of_getElem? (l := tables_1_1) (i := 45) rfl))) rfl
theorem wd_46 : ((Jvm.Cond.classLink "EditGuess$Book" (9 : Nat) "EditGuess$Signs") : Cond) ∈ zG := zgm (List.mem_append_right _ (List.mem_append_left _ (List.mem_of_getElem? (l := tables_1_1) (i := 46) rfl))) rfl
theorem wd_48 : ((Jvm.Cond.methodLink "EditGuess$Book" (23 : Nat) ({ cls := "EditGuess$Signs", name := "<init>", desc := "(I)V" } : Jvm.MethodName)) : Cond) ∈ zG := zgm (List.mem_append_right _ (List.mem_append_left _ (List.mem_of_getElem? (l := tables_1_1) (i := 48) rfl))) rfl
theorem wd_49 : ((Jvm.Cond.fieldLink "EditGuess$Book" (11 : Nat) "EditGuess$Book" "exampleLines" "[LEditGuess$Signs;") : Cond) ∈ zG := zgm (List.mem_append_right _ (List.mem_append_left _ (List.mem_of_getElem? (l := tables_1_1) (i := 49) rfl))) rfl
theorem wd_50 : ((Jvm.Cond.fieldLink "EditGuess$Book" (17 : Nat) "EditGuess$Book" "results" "[LEditGuess$Signs;") : Cond) ∈ zG := zgm (List.mem_append_right _ (List.mem_append_left _ (List.mem_of_getElem? (l := tables_1_1) (i := 50) rfl))) rfl
theorem wd_51 : ((Jvm.Cond.fieldLink "EditGuess$Book" (20 : Nat) "EditGuess$Book" "lines" "[LEditGuess$Signs;") : Cond) ∈ zG := zgm (List.mem_append_right _ (List.mem_append_left _ (List.mem_of_getElem? (l := tables_1_1) (i := 51) rfl))) rfl
theorem wd_52 : ((Jvm.Cond.fieldLink "EditGuess$Book" (26 : Nat) "EditGuess$Book" "examples" "I") : Cond) ∈ zG := zgm (List.mem_append_right _ (List.mem_append_left _ (List.mem_of_getElem? (l := tables_1_1) (i := 52) rfl))) rfl
theorem wd_53 : ((Jvm.Cond.fieldLink "EditGuess$Book" (30 : Nat) "EditGuess$Book" "pooled" "I") : Cond) ∈ zG := zgm (List.mem_append_right _ (List.mem_append_left _ (List.mem_of_getElem? (l := tables_1_1) (i := 53) rfl))) rfl
theorem wd_66 : ((Jvm.Cond.classLink "EditGuess" (33 : Nat) "EditGuess$Fitting") : Cond) ∈ zG := zgm (List.mem_append_right _ (List.mem_append_left _ (List.mem_of_getElem? (l := tables_1_1) (i := 66) rfl))) rfl
theorem wd_67 : ((Jvm.Cond.instantiable "EditGuess$Fitting" (10 : Nat)) : Cond) ∈ zG := zgm (List.mem_append_right _ (List.mem_append_left _ (List.mem_of_getElem? (l := tables_1_1) (i := 67) rfl))) rfl
theorem wd_68 : ((Jvm.Cond.methodLink "EditGuess" (35 : Nat) ({ cls := "EditGuess$Fitting", name := "<init>", desc := "()V" } : Jvm.MethodName)) : Cond) ∈ zG := zgm (List.mem_append_right _ (List.mem_append_left _ (List.mem_of_getElem? (l := tables_1_1) (i := 68) rfl))) rfl
theorem wd_70 : ((Jvm.Cond.code ({ cls := "EditGuess$Fitting", name := "<init>", desc := "()V" } : Jvm.MethodName) prog_3_method_1_code (2 : Nat) (Option.none : Option Jvm.ClassFile.FieldType)) : Cond) ∈ zG := zgm (List.mem_append_right _ (List.mem_append_left _ (List.mem_of_getElem? (l := tables_1_1) (i := 70) rfl))) rfl
theorem wd_71 : ((Jvm.Cond.methodLink "EditGuess$Fitting" (5 : Nat) ({ cls := "java/lang/Object", name := "<init>", desc := "()V" } : Jvm.MethodName)) : Cond) ∈ zG := zgm (List.mem_append_right _ (List.mem_append_left _ (List.mem_of_getElem? (l := tables_1_1) (i := 71) rfl))) rfl
theorem wd_72 : ((Jvm.Cond.classLink "EditGuess$Fitting" (11 : Nat) "EditGuess$Row") : Cond) ∈ zG := zgm (List.mem_append_right _ (List.mem_append_left _ (List.mem_of_getElem? (l := tables_1_1) (i := 72) rfl))) rfl
theorem wd_74 : ((Jvm.Cond.classLink "EditGuess$Fitting" (32 : Nat) "EditGuess$Moves") : Cond) ∈ zG := zgm (List.mem_append_right _ (List.mem_append_left _ (List.mem_of_getElem? (l := tables_1_1) (i := 74) rfl))) rfl
theorem wd_75 : ((Jvm.Cond.instantiable "EditGuess$Moves" (4 : Nat)) : Cond) ∈ zG := zgm (List.mem_append_right _ (List.mem_append_left _ (List.mem_of_getElem? (l := tables_1_1) (i := 75) rfl))) rfl
theorem wd_78 : ((Jvm.Cond.code ({ cls := "EditGuess$Moves", name := "<init>", desc := "()V" } : Jvm.MethodName) prog_5_method_1_code (1 : Nat) (Option.none : Option Jvm.ClassFile.FieldType)) : Cond) ∈ zG := zgm (List.mem_append_right _ (List.mem_append_left _ (List.mem_of_getElem? (l := tables_1_1) (i := 78) rfl))) rfl
theorem wd_79 : ((Jvm.Cond.methodLink "EditGuess$Moves" (5 : Nat) ({ cls := "java/lang/Object", name := "<init>", desc := "()V" } : Jvm.MethodName)) : Cond) ∈ zG := zgm (List.mem_append_right _ (List.mem_append_left _ (List.mem_of_getElem? (l := tables_1_1) (i := 79) rfl))) rfl
theorem wd_80 : ((Jvm.Cond.fieldLink "EditGuess$Moves" (13 : Nat) "EditGuess$Moves" "targets" "[I") : Cond) ∈ zG := zgm (List.mem_append_right _ (List.mem_append_left _ (List.mem_of_getElem? (l := tables_1_1) (i := 80) rfl))) rfl
theorem wd_81 : ((Jvm.Cond.fieldLink "EditGuess$Moves" (17 : Nat) "EditGuess$Moves" "times" "[I") : Cond) ∈ zG := zgm (List.mem_append_right _ (List.mem_append_left _ (List.mem_of_getElem? (l := tables_1_1) (i := 81) rfl))) rfl
theorem wd_82 : ((Jvm.Cond.fieldLink "EditGuess$Moves" (20 : Nat) "EditGuess$Moves" "prices" "[I") : Cond) ∈ zG := zgm (List.mem_append_right _ (List.mem_append_left _ (List.mem_of_getElem? (l := tables_1_1) (i := 82) rfl))) rfl
theorem wd_83 : ((Jvm.Cond.fieldLink "EditGuess$Moves" (23 : Nat) "EditGuess$Moves" "many" "I") : Cond) ∈ zG := zgm (List.mem_append_right _ (List.mem_append_left _ (List.mem_of_getElem? (l := tables_1_1) (i := 83) rfl))) rfl
theorem wd_93 : ((Jvm.Cond.arrayClass Jvm.ClassFile.FieldType.boolean) : Cond) ∈ zG := zgm (List.mem_append_right _ (List.mem_append_left _ (List.mem_of_getElem? (l := tables_1_1) (i := 93) rfl))) rfl
theorem wd_94 : ((Jvm.Cond.instantiable "EditGuess$Row" (3 : Nat)) : Cond) ∈ zG := zgm (List.mem_append_right _ (List.mem_append_left _ (List.mem_of_getElem? (l := tables_1_1) (i := 94) rfl))) rfl
theorem wd_97 : ((Jvm.Cond.code ({ cls := "EditGuess$Row", name := "<init>", desc := "()V" } : Jvm.MethodName) prog_8_method_1_code (1 : Nat) (Option.none : Option Jvm.ClassFile.FieldType)) : Cond) ∈ zG := zgm (List.mem_append_right _ (List.mem_append_left _ (List.mem_of_getElem? (l := tables_1_1) (i := 97) rfl))) rfl
theorem wd_98 : ((Jvm.Cond.methodLink "EditGuess$Row" (3 : Nat) ({ cls := "java/lang/Object", name := "<init>", desc := "()V" } : Jvm.MethodName)) : Cond) ∈ zG := zgm (List.mem_append_right _ (List.mem_append_left _ (List.mem_of_getElem? (l := tables_1_1) (i := 98) rfl))) rfl
theorem wd_99 : ((Jvm.Cond.classLink "EditGuess$Row" (9 : Nat) "EditGuess$Signs") : Cond) ∈ zG := zgm (List.mem_append_right _ (List.mem_append_left _ (List.mem_of_getElem? (l := tables_1_1) (i := 99) rfl))) rfl
theorem wd_100 : ((Jvm.Cond.methodLink "EditGuess$Row" (11 : Nat) ({ cls := "EditGuess$Signs", name := "<init>", desc := "(I)V" } : Jvm.MethodName)) : Cond) ∈ zG := zgm (List.mem_append_right _ (List.mem_append_left _ (List.mem_of_getElem? (l := tables_1_1) (i := 100) rfl))) rfl
theorem wd_101 : ((Jvm.Cond.classLink "EditGuess$Row" (26 : Nat) "[[I") : Cond) ∈ zG := zgm (List.mem_append_right _ (List.mem_append_left _ (List.mem_of_getElem? (l := tables_1_1) (i := 101) rfl))) rfl
theorem wd_103 : ((Jvm.Cond.fieldLink "EditGuess$Row" (14 : Nat) "EditGuess$Row" "result" "LEditGuess$Signs;") : Cond) ∈ zG := zgm (List.mem_append_right _ (List.mem_append_left _ (List.mem_of_getElem? (l := tables_1_1) (i := 103) rfl))) rfl
theorem wd_104 : ((Jvm.Cond.fieldLink "EditGuess$Row" (22 : Nat) "EditGuess$Row" "places" "[I") : Cond) ∈ zG := zgm (List.mem_append_right _ (List.mem_append_left _ (List.mem_of_getElem? (l := tables_1_1) (i := 104) rfl))) rfl
theorem wd_105 : ((Jvm.Cond.fieldLink "EditGuess$Row" (28 : Nat) "EditGuess$Row" "alike" "[[I") : Cond) ∈ zG := zgm (List.mem_append_right _ (List.mem_append_left _ (List.mem_of_getElem? (l := tables_1_1) (i := 105) rfl))) rfl
theorem wd_113 : ((Jvm.Cond.arrayClass Jvm.ClassFile.FieldType.long) : Cond) ∈ zG := zgm (List.mem_append_right _ (List.mem_append_left _ (List.mem_of_getElem? (l := tables_1_1) (i := 113) rfl))) rfl
theorem wd_114 : ((Jvm.Cond.fieldLink "EditGuess$Fitting" (13 : Nat) "EditGuess$Fitting" "rows" "[LEditGuess$Row;") : Cond) ∈ zG := zgm (List.mem_append_right _ (List.mem_append_left _ (List.mem_of_getElem? (l := tables_1_1) (i := 114) rfl))) rfl
theorem wd_115 : ((Jvm.Cond.fieldLink "EditGuess$Fitting" (17 : Nat) "EditGuess$Fitting" "reached" "[I") : Cond) ∈ zG := zgm (List.mem_append_right _ (List.mem_append_left _ (List.mem_of_getElem? (l := tables_1_1) (i := 115) rfl))) rfl
theorem wd_116 : ((Jvm.Cond.fieldLink "EditGuess$Fitting" (23 : Nat) "EditGuess$Fitting" "heads" "[I") : Cond) ∈ zG := zgm (List.mem_append_right _ (List.mem_append_left _ (List.mem_of_getElem? (l := tables_1_1) (i := 116) rfl))) rfl
theorem wd_117 : ((Jvm.Cond.fieldLink "EditGuess$Fitting" (26 : Nat) "EditGuess$Fitting" "sizes" "[I") : Cond) ∈ zG := zgm (List.mem_append_right _ (List.mem_append_left _ (List.mem_of_getElem? (l := tables_1_1) (i := 117) rfl))) rfl
theorem wd_118 : ((Jvm.Cond.fieldLink "EditGuess$Fitting" (29 : Nat) "EditGuess$Fitting" "prices" "[I") : Cond) ∈ zG := zgm (List.mem_append_right _ (List.mem_append_left _ (List.mem_of_getElem? (l := tables_1_1) (i := 118) rfl))) rfl
theorem wd_119 : ((Jvm.Cond.fieldLink "EditGuess$Fitting" (35 : Nat) "EditGuess$Fitting" "moves" "LEditGuess$Moves;") : Cond) ∈ zG := zgm (List.mem_append_right _ (List.mem_append_left _ (List.mem_of_getElem? (l := tables_1_1) (i := 119) rfl))) rfl
theorem wd_120 : ((Jvm.Cond.fieldLink "EditGuess$Fitting" (39 : Nat) "EditGuess$Fitting" "ways" "[J") : Cond) ∈ zG := zgm (List.mem_append_right _ (List.mem_append_left _ (List.mem_of_getElem? (l := tables_1_1) (i := 120) rfl))) rfl
theorem wd_121 : ((Jvm.Cond.fieldLink "EditGuess$Fitting" (43 : Nat) "EditGuess$Fitting" "least" "[I") : Cond) ∈ zG := zgm (List.mem_append_right _ (List.mem_append_left _ (List.mem_of_getElem? (l := tables_1_1) (i := 121) rfl))) rfl
theorem wd_122 : ((Jvm.Cond.fieldLink "EditGuess$Fitting" (47 : Nat) "EditGuess$Fitting" "many" "I") : Cond) ∈ zG := zgm (List.mem_append_right _ (List.mem_append_left _ (List.mem_of_getElem? (l := tables_1_1) (i := 122) rfl))) rfl
theorem wd_123 : ((Jvm.Cond.fieldLink "EditGuess$Fitting" (146 : Nat) "EditGuess$Fitting" "groups" "I") : Cond) ∈ zG := zgm (List.mem_append_right _ (List.mem_append_left _ (List.mem_of_getElem? (l := tables_1_1) (i := 123) rfl))) rfl
theorem wd_145 : ((Jvm.Cond.classLink "EditGuess" (40 : Nat) "EditGuess$Plan") : Cond) ∈ zG := zgm (List.mem_append_right _ (List.mem_append_left _ (List.mem_of_getElem? (l := tables_1_1) (i := 145) rfl))) rfl
theorem wd_146 : ((Jvm.Cond.instantiable "EditGuess$Plan" (2 : Nat)) : Cond) ∈ zG := zgm (List.mem_append_right _ (List.mem_append_left _ (List.mem_of_getElem? (l := tables_1_1) (i := 146) rfl))) rfl
theorem wd_147 : ((Jvm.Cond.methodLink "EditGuess" (42 : Nat) ({ cls := "EditGuess$Plan", name := "<init>", desc := "()V" } : Jvm.MethodName)) : Cond) ∈ zG := zgm (List.mem_append_right _ (List.mem_append_left _ (List.mem_of_getElem? (l := tables_1_1) (i := 147) rfl))) rfl
theorem wd_149 : ((Jvm.Cond.code ({ cls := "EditGuess$Plan", name := "<init>", desc := "()V" } : Jvm.MethodName) prog_7_method_1_code (2 : Nat) (Option.none : Option Jvm.ClassFile.FieldType)) : Cond) ∈ zG := zgm (List.mem_append_right _ (List.mem_append_left _ (List.mem_of_getElem? (l := tables_1_1) (i := 149) rfl))) rfl
theorem wd_150 : ((Jvm.Cond.methodLink "EditGuess$Plan" (3 : Nat) ({ cls := "java/lang/Object", name := "<init>", desc := "()V" } : Jvm.MethodName)) : Cond) ∈ zG := zgm (List.mem_append_right _ (List.mem_append_left _ (List.mem_of_getElem? (l := tables_1_1) (i := 150) rfl))) rfl
theorem wd_151 : ((Jvm.Cond.classLink "EditGuess$Plan" (9 : Nat) "EditGuess$Piece") : Cond) ∈ zG := zgm (List.mem_append_right _ (List.mem_append_left _ (List.mem_of_getElem? (l := tables_1_1) (i := 151) rfl))) rfl
theorem wd_153 : ((Jvm.Cond.instantiable "EditGuess$Piece" (4 : Nat)) : Cond) ∈ zG := zgm (List.mem_append_right _ (List.mem_append_left _ (List.mem_of_getElem? (l := tables_1_1) (i := 153) rfl))) rfl
theorem wd_156 : ((Jvm.Cond.code ({ cls := "EditGuess$Piece", name := "<init>", desc := "()V" } : Jvm.MethodName) prog_6_method_1_code (1 : Nat) (Option.none : Option Jvm.ClassFile.FieldType)) : Cond) ∈ zG := zgm (List.mem_append_right _ (List.mem_append_left _ (List.mem_of_getElem? (l := tables_1_1) (i := 156) rfl))) rfl
theorem wd_157 : ((Jvm.Cond.methodLink "EditGuess$Piece" (3 : Nat) ({ cls := "java/lang/Object", name := "<init>", desc := "()V" } : Jvm.MethodName)) : Cond) ∈ zG := zgm (List.mem_append_right _ (List.mem_append_left _ (List.mem_of_getElem? (l := tables_1_1) (i := 157) rfl))) rfl
theorem wd_158 : ((Jvm.Cond.classLink "EditGuess$Piece" (9 : Nat) "EditGuess$Signs") : Cond) ∈ zG := zgm (List.mem_append_right _ (List.mem_append_left _ (List.mem_of_getElem? (l := tables_1_1) (i := 158) rfl))) rfl
theorem wd_159 : ((Jvm.Cond.methodLink "EditGuess$Piece" (11 : Nat) ({ cls := "EditGuess$Signs", name := "<init>", desc := "(I)V" } : Jvm.MethodName)) : Cond) ∈ zG := zgm (List.mem_append_right _ (List.mem_append_left _ (List.mem_of_getElem? (l := tables_1_1) (i := 159) rfl))) rfl
theorem wd_160 : ((Jvm.Cond.fieldLink "EditGuess$Piece" (14 : Nat) "EditGuess$Piece" "text" "LEditGuess$Signs;") : Cond) ∈ zG := zgm (List.mem_append_right _ (List.mem_append_left _ (List.mem_of_getElem? (l := tables_1_1) (i := 160) rfl))) rfl
theorem wd_161 : ((Jvm.Cond.fieldLink "EditGuess$Piece" (20 : Nat) "EditGuess$Piece" "isText" "Z") : Cond) ∈ zG := zgm (List.mem_append_right _ (List.mem_append_left _ (List.mem_of_getElem? (l := tables_1_1) (i := 161) rfl))) rfl
theorem wd_162 : ((Jvm.Cond.fieldLink "EditGuess$Piece" (24 : Nat) "EditGuess$Piece" "first" "I") : Cond) ∈ zG := zgm (List.mem_append_right _ (List.mem_append_left _ (List.mem_of_getElem? (l := tables_1_1) (i := 162) rfl))) rfl
theorem wd_163 : ((Jvm.Cond.fieldLink "EditGuess$Piece" (28 : Nat) "EditGuess$Piece" "second" "I") : Cond) ∈ zG := zgm (List.mem_append_right _ (List.mem_append_left _ (List.mem_of_getElem? (l := tables_1_1) (i := 163) rfl))) rfl
theorem wd_173 : ((Jvm.Cond.fieldLink "EditGuess$Plan" (11 : Nat) "EditGuess$Plan" "pieces" "[LEditGuess$Piece;") : Cond) ∈ zG := zgm (List.mem_append_right _ (List.mem_append_left _ (List.mem_of_getElem? (l := tables_1_1) (i := 173) rfl))) rfl
theorem wd_174 : ((Jvm.Cond.fieldLink "EditGuess$Plan" (18 : Nat) "EditGuess$Plan" "many" "I") : Cond) ∈ zG := zgm (List.mem_append_right _ (List.mem_append_left _ (List.mem_of_getElem? (l := tables_1_1) (i := 174) rfl))) rfl
theorem wd_180 : ((Jvm.Cond.methodLink "EditGuess" (54 : Nat) ({ cls := "EditGuess", name := "poolChanged", desc := "()V" } : Jvm.MethodName)) : Cond) ∈ zG := zgm (List.mem_append_right _ (List.mem_append_left _ (List.mem_of_getElem? (l := tables_1_1) (i := 180) rfl))) rfl
theorem wd_182 : ((Jvm.Cond.instanceMethod ({ cls := "EditGuess", name := "poolChanged", desc := "()V" } : Jvm.MethodName)) : Cond) ∈ zG := zgm (List.mem_append_right _ (List.mem_append_left _ (List.mem_of_getElem? (l := tables_1_1) (i := 182) rfl))) rfl
theorem wd_183 : ((Jvm.Cond.code ({ cls := "EditGuess", name := "poolChanged", desc := "()V" } : Jvm.MethodName) prog_1_method_23_code (2 : Nat) (Option.none : Option Jvm.ClassFile.FieldType)) : Cond) ∈ zG := zgm (List.mem_append_right _ (List.mem_append_left _ (List.mem_of_getElem? (l := tables_1_1) (i := 183) rfl))) rfl
theorem wd_184 : ((Jvm.Cond.constantLong "EditGuess" (150 : Nat) (-1 : Int64)) : Cond) ∈ zG := zgm (List.mem_append_right _ (List.mem_append_left _ (List.mem_of_getElem? (l := tables_1_1) (i := 184) rfl))) rfl
theorem wd_185 : ((Jvm.Cond.fieldLink "EditGuess" (14 : Nat) "EditGuess" "pad" "LEditGuess$Signs;") : Cond) ∈ zG := zgm (List.mem_append_right _ (List.mem_append_left _ (List.mem_of_getElem? (l := tables_1_1) (i := 185) rfl))) rfl
theorem wd_186 : ((Jvm.Cond.fieldLink "EditGuess" (21 : Nat) "EditGuess" "book" "LEditGuess$Book;") : Cond) ∈ zG := zgm (List.mem_append_right _ (List.mem_append_left _ (List.mem_of_getElem? (l := tables_1_1) (i := 186) rfl))) rfl
theorem wd_187 : ((Jvm.Cond.fieldLink "EditGuess" (25 : Nat) "EditGuess" "images" "[LEditGuess$Book;") : Cond) ∈ zG := zgm (List.mem_append_right _ (List.mem_append_left _ (List.mem_of_getElem? (l := tables_1_1) (i := 187) rfl))) rfl
theorem wd_188 : ((Jvm.Cond.fieldLink "EditGuess" (29 : Nat) "EditGuess" "kept" "[Z") : Cond) ∈ zG := zgm (List.mem_append_right _ (List.mem_append_left _ (List.mem_of_getElem? (l := tables_1_1) (i := 188) rfl))) rfl
theorem wd_189 : ((Jvm.Cond.fieldLink "EditGuess" (36 : Nat) "EditGuess" "fitting" "LEditGuess$Fitting;") : Cond) ∈ zG := zgm (List.mem_append_right _ (List.mem_append_left _ (List.mem_of_getElem? (l := tables_1_1) (i := 189) rfl))) rfl
theorem wd_190 : ((Jvm.Cond.fieldLink "EditGuess" (43 : Nat) "EditGuess" "best" "LEditGuess$Plan;") : Cond) ∈ zG := zgm (List.mem_append_right _ (List.mem_append_left _ (List.mem_of_getElem? (l := tables_1_1) (i := 190) rfl))) rfl
theorem wd_191 : ((Jvm.Cond.fieldLink "EditGuess" (47 : Nat) "EditGuess" "made" "LEditGuess$Signs;") : Cond) ∈ zG := zgm (List.mem_append_right _ (List.mem_append_left _ (List.mem_of_getElem? (l := tables_1_1) (i := 191) rfl))) rfl
theorem wd_192 : ((Jvm.Cond.fieldLink "EditGuess" (50 : Nat) "EditGuess" "agreed" "[J") : Cond) ∈ zG := zgm (List.mem_append_right _ (List.mem_append_left _ (List.mem_of_getElem? (l := tables_1_1) (i := 192) rfl))) rfl
theorem wd_193 : ((Jvm.Cond.fieldLink "EditGuess" (168 : Nat) "EditGuess" "guessed" "Z") : Cond) ∈ zG := zgm (List.mem_append_right _ (List.mem_append_left _ (List.mem_of_getElem? (l := tables_1_1) (i := 193) rfl))) rfl
theorem wd_194 : ((Jvm.Cond.fieldLink "EditGuess" (109 : Nat) "EditGuess" "fitted" "J") : Cond) ∈ zG := zgm (List.mem_append_right _ (List.mem_append_left _ (List.mem_of_getElem? (l := tables_1_1) (i := 194) rfl))) rfl
theorem wd_216 : ((Jvm.Cond.methodLink "EditGuessLaw" (13 : Nat) ({ cls := "EditGuess", name := "say", desc := "(I)I" } : Jvm.MethodName)) : Cond) ∈ zG := zgm (List.mem_append_right _ (List.mem_append_left _ (List.mem_of_getElem? (l := tables_1_1) (i := 216) rfl))) rfl
theorem wd_217 : ((Jvm.Cond.instanceMethod ({ cls := "EditGuess", name := "say", desc := "(I)I" } : Jvm.MethodName)) : Cond) ∈ zG := zgm (List.mem_append_right _ (List.mem_append_left _ (List.mem_of_getElem? (l := tables_1_1) (i := 217) rfl))) rfl
theorem wd_218 : ((Jvm.Cond.selects "EditGuess" ({ cls := "EditGuess", name := "say", desc := "(I)I" } : Jvm.MethodName) ({ cls := "EditGuess", name := "say", desc := "(I)I" } : Jvm.MethodName)) : Cond) ∈ zG := zgm (List.mem_append_right _ (List.mem_append_left _ (List.mem_of_getElem? (l := tables_1_1) (i := 218) rfl))) rfl
theorem wd_219 : ((Jvm.Cond.code ({ cls := "EditGuess", name := "say", desc := "(I)I" } : Jvm.MethodName) prog_1_method_2_code (2 : Nat) (Option.some Jvm.ClassFile.FieldType.int)) : Cond) ∈ zG := zgm (List.mem_append_right _ (List.mem_append_left _ (List.mem_of_getElem? (l := tables_1_1) (i := 219) rfl))) rfl
theorem wd_220 : ((Jvm.Cond.methodLink "EditGuess" (57 : Nat) ({ cls := "EditGuess$Signs", name := "add", desc := "(I)Z" } : Jvm.MethodName)) : Cond) ∈ zG := zgm (List.mem_append_right _ (List.mem_append_left _ (List.mem_of_getElem? (l := tables_1_1) (i := 220) rfl))) rfl
theorem wd_221 : ((Jvm.Cond.instanceMethod ({ cls := "EditGuess$Signs", name := "add", desc := "(I)Z" } : Jvm.MethodName)) : Cond) ∈ zG := zgm (List.mem_append_right _ (List.mem_append_left _ (List.mem_of_getElem? (l := tables_1_1) (i := 221) rfl))) rfl
theorem wd_222 : ((Jvm.Cond.selects "EditGuess$Signs" ({ cls := "EditGuess$Signs", name := "add", desc := "(I)Z" } : Jvm.MethodName) ({ cls := "EditGuess$Signs", name := "add", desc := "(I)Z" } : Jvm.MethodName)) : Cond) ∈ zG := zgm (List.mem_append_right _ (List.mem_append_left _ (List.mem_of_getElem? (l := tables_1_1) (i := 222) rfl))) rfl
theorem wd_223 : ((Jvm.Cond.code ({ cls := "EditGuess$Signs", name := "add", desc := "(I)Z" } : Jvm.MethodName) prog_9_method_4_code (2 : Nat) (Option.some Jvm.ClassFile.FieldType.boolean)) : Cond) ∈ zG := zgm (List.mem_append_right _ (List.mem_append_left _ (List.mem_of_getElem? (l := tables_1_1) (i := 223) rfl))) rfl
theorem wd_224 : ((Jvm.Cond.methodLink "EditGuess$Signs" (28 : Nat) ({ cls := "EditGuess$Signs", name := "kindOf", desc := "(I)I" } : Jvm.MethodName)) : Cond) ∈ zG := zgm (List.mem_append_right _ (List.mem_append_left _ (List.mem_of_getElem? (l := tables_1_1) (i := 224) rfl))) rfl
theorem wd_225 : ((Jvm.Cond.static ({ cls := "EditGuess$Signs", name := "kindOf", desc := "(I)I" } : Jvm.MethodName)) : Cond) ∈ zG := zgm (List.mem_append_right _ (List.mem_append_left _ (List.mem_of_getElem? (l := tables_1_1) (i := 225) rfl))) rfl
theorem wd_226 : ((Jvm.Cond.code ({ cls := "EditGuess$Signs", name := "kindOf", desc := "(I)I" } : Jvm.MethodName) prog_9_method_5_code (1 : Nat) (Option.some Jvm.ClassFile.FieldType.int)) : Cond) ∈ zG := zgm (List.mem_append_right _ (List.mem_append_left _ (List.mem_of_getElem? (l := tables_1_1) (i := 226) rfl))) rfl
theorem wd_227 : ((Jvm.Cond.methodLink "EditGuess" (61 : Nat) ({ cls := "EditGuess$Signs", name := "many", desc := "()I" } : Jvm.MethodName)) : Cond) ∈ zG := zgm (List.mem_append_right _ (List.mem_append_left _ (List.mem_of_getElem? (l := tables_1_1) (i := 227) rfl))) rfl
theorem wd_228 : ((Jvm.Cond.instanceMethod ({ cls := "EditGuess$Signs", name := "many", desc := "()I" } : Jvm.MethodName)) : Cond) ∈ zG := zgm (List.mem_append_right _ (List.mem_append_left _ (List.mem_of_getElem? (l := tables_1_1) (i := 228) rfl))) rfl
theorem wd_229 : ((Jvm.Cond.selects "EditGuess$Signs" ({ cls := "EditGuess$Signs", name := "many", desc := "()I" } : Jvm.MethodName) ({ cls := "EditGuess$Signs", name := "many", desc := "()I" } : Jvm.MethodName)) : Cond) ∈ zG := zgm (List.mem_append_right _ (List.mem_append_left _ (List.mem_of_getElem? (l := tables_1_1) (i := 229) rfl))) rfl
theorem wd_230 : ((Jvm.Cond.code ({ cls := "EditGuess$Signs", name := "many", desc := "()I" } : Jvm.MethodName) prog_9_method_2_code (1 : Nat) (Option.some Jvm.ClassFile.FieldType.int)) : Cond) ∈ zG := zgm (List.mem_append_right _ (List.mem_append_left _ (List.mem_of_getElem? (l := tables_1_1) (i := 230) rfl))) rfl
theorem wd_231 : ((Jvm.Cond.methodLink "EditGuessLaw" (18 : Nat) ({ cls := "EditGuess", name := "wipe", desc := "()I" } : Jvm.MethodName)) : Cond) ∈ zG := zgm (List.mem_append_right _ (List.mem_append_left _ (List.mem_of_getElem? (l := tables_1_1) (i := 231) rfl))) rfl
theorem wd_232 : ((Jvm.Cond.instanceMethod ({ cls := "EditGuess", name := "wipe", desc := "()I" } : Jvm.MethodName)) : Cond) ∈ zG := zgm (List.mem_append_right _ (List.mem_append_left _ (List.mem_of_getElem? (l := tables_1_1) (i := 232) rfl))) rfl
theorem wd_233 : ((Jvm.Cond.selects "EditGuess" ({ cls := "EditGuess", name := "wipe", desc := "()I" } : Jvm.MethodName) ({ cls := "EditGuess", name := "wipe", desc := "()I" } : Jvm.MethodName)) : Cond) ∈ zG := zgm (List.mem_append_right _ (List.mem_append_left _ (List.mem_of_getElem? (l := tables_1_1) (i := 233) rfl))) rfl
theorem wd_234 : ((Jvm.Cond.code ({ cls := "EditGuess", name := "wipe", desc := "()I" } : Jvm.MethodName) prog_1_method_3_code (2 : Nat) (Option.some Jvm.ClassFile.FieldType.int)) : Cond) ∈ zG := zgm (List.mem_append_right _ (List.mem_append_left _ (List.mem_of_getElem? (l := tables_1_1) (i := 234) rfl))) rfl
theorem wd_235 : ((Jvm.Cond.methodLink "EditGuess" (65 : Nat) ({ cls := "EditGuess$Signs", name := "clear", desc := "()V" } : Jvm.MethodName)) : Cond) ∈ zG := zgm (List.mem_append_right _ (List.mem_append_left _ (List.mem_of_getElem? (l := tables_1_1) (i := 235) rfl))) rfl
theorem wd_236 : ((Jvm.Cond.instanceMethod ({ cls := "EditGuess$Signs", name := "clear", desc := "()V" } : Jvm.MethodName)) : Cond) ∈ zG := zgm (List.mem_append_right _ (List.mem_append_left _ (List.mem_of_getElem? (l := tables_1_1) (i := 236) rfl))) rfl
theorem wd_237 : ((Jvm.Cond.selects "EditGuess$Signs" ({ cls := "EditGuess$Signs", name := "clear", desc := "()V" } : Jvm.MethodName) ({ cls := "EditGuess$Signs", name := "clear", desc := "()V" } : Jvm.MethodName)) : Cond) ∈ zG := zgm (List.mem_append_right _ (List.mem_append_left _ (List.mem_of_getElem? (l := tables_1_1) (i := 237) rfl))) rfl
theorem wd_238 : ((Jvm.Cond.code ({ cls := "EditGuess$Signs", name := "clear", desc := "()V" } : Jvm.MethodName) prog_9_method_3_code (1 : Nat) (Option.none : Option Jvm.ClassFile.FieldType)) : Cond) ∈ zG := zgm (List.mem_append_right _ (List.mem_append_left _ (List.mem_of_getElem? (l := tables_1_1) (i := 238) rfl))) rfl
theorem wd_239 : ((Jvm.Cond.methodLink "EditGuessLaw" (23 : Nat) ({ cls := "EditGuess", name := "fault", desc := "(I)I" } : Jvm.MethodName)) : Cond) ∈ zG := zgm (List.mem_append_right _ (List.mem_append_left _ (List.mem_of_getElem? (l := tables_1_1) (i := 239) rfl))) rfl
theorem wd_240 : ((Jvm.Cond.instanceMethod ({ cls := "EditGuess", name := "fault", desc := "(I)I" } : Jvm.MethodName)) : Cond) ∈ zG := zgm (List.mem_append_right _ (List.mem_append_right _ (List.mem_append_left _ (List.mem_of_getElem? (l := tables_1_2) (i := 0) rfl)))) rfl
theorem wd_241 : ((Jvm.Cond.selects "EditGuess" ({ cls := "EditGuess", name := "fault", desc := "(I)I" } : Jvm.MethodName) ({ cls := "EditGuess", name := "fault", desc := "(I)I" } : Jvm.MethodName)) : Cond) ∈ zG := zgm (List.mem_append_right _ (List.mem_append_right _ (List.mem_append_left _ (List.mem_of_getElem? (l := tables_1_2) (i := 1) rfl)))) rfl
theorem wd_242 : ((Jvm.Cond.code ({ cls := "EditGuess", name := "fault", desc := "(I)I" } : Jvm.MethodName) prog_1_method_4_code (2 : Nat) (Option.some Jvm.ClassFile.FieldType.int)) : Cond) ∈ zG := zgm (List.mem_append_right _ (List.mem_append_right _ (List.mem_append_left _ (List.mem_of_getElem? (l := tables_1_2) (i := 2) rfl)))) rfl
theorem wd_243 : ((Jvm.Cond.methodLink "EditGuess" (68 : Nat) ({ cls := "EditGuess", name := "exampleFault", desc := "()I" } : Jvm.MethodName)) : Cond) ∈ zG := zgm (List.mem_append_right _ (List.mem_append_right _ (List.mem_append_left _ (List.mem_of_getElem? (l := tables_1_2) (i := 3) rfl)))) rfl
theorem wd_245 : ((Jvm.Cond.instanceMethod ({ cls := "EditGuess", name := "exampleFault", desc := "()I" } : Jvm.MethodName)) : Cond) ∈ zG := zgm (List.mem_append_right _ (List.mem_append_right _ (List.mem_append_left _ (List.mem_of_getElem? (l := tables_1_2) (i := 5) rfl)))) rfl
theorem wd_246 : ((Jvm.Cond.code ({ cls := "EditGuess", name := "exampleFault", desc := "()I" } : Jvm.MethodName) prog_1_method_21_code (3 : Nat) (Option.some Jvm.ClassFile.FieldType.int)) : Cond) ∈ zG := zgm (List.mem_append_right _ (List.mem_append_right _ (List.mem_append_left _ (List.mem_of_getElem? (l := tables_1_2) (i := 6) rfl)))) rfl
theorem wd_247 : ((Jvm.Cond.methodLink "EditGuess" (77 : Nat) ({ cls := "EditGuess$Signs", name := "signsEnd", desc := "(II)I" } : Jvm.MethodName)) : Cond) ∈ zG := zgm (List.mem_append_right _ (List.mem_append_right _ (List.mem_append_left _ (List.mem_of_getElem? (l := tables_1_2) (i := 7) rfl)))) rfl
theorem wd_248 : ((Jvm.Cond.instanceMethod ({ cls := "EditGuess$Signs", name := "signsEnd", desc := "(II)I" } : Jvm.MethodName)) : Cond) ∈ zG := zgm (List.mem_append_right _ (List.mem_append_right _ (List.mem_append_left _ (List.mem_of_getElem? (l := tables_1_2) (i := 8) rfl)))) rfl
theorem wd_249 : ((Jvm.Cond.selects "EditGuess$Signs" ({ cls := "EditGuess$Signs", name := "signsEnd", desc := "(II)I" } : Jvm.MethodName) ({ cls := "EditGuess$Signs", name := "signsEnd", desc := "(II)I" } : Jvm.MethodName)) : Cond) ∈ zG := zgm (List.mem_append_right _ (List.mem_append_right _ (List.mem_append_left _ (List.mem_of_getElem? (l := tables_1_2) (i := 9) rfl)))) rfl
theorem wd_250 : ((Jvm.Cond.code ({ cls := "EditGuess$Signs", name := "signsEnd", desc := "(II)I" } : Jvm.MethodName) prog_9_method_10_code (4 : Nat) (Option.some Jvm.ClassFile.FieldType.int)) : Cond) ∈ zG := zgm (List.mem_append_right _ (List.mem_append_right _ (List.mem_append_left _ (List.mem_of_getElem? (l := tables_1_2) (i := 10) rfl)))) rfl
theorem wd_251 : ((Jvm.Cond.methodLink "EditGuess$Signs" (46 : Nat) ({ cls := "EditGuess$Signs", name := "kindAt", desc := "(I)I" } : Jvm.MethodName)) : Cond) ∈ zG := zgm (List.mem_append_right _ (List.mem_append_right _ (List.mem_append_left _ (List.mem_of_getElem? (l := tables_1_2) (i := 11) rfl)))) rfl
theorem wd_252 : ((Jvm.Cond.instanceMethod ({ cls := "EditGuess$Signs", name := "kindAt", desc := "(I)I" } : Jvm.MethodName)) : Cond) ∈ zG := zgm (List.mem_append_right _ (List.mem_append_right _ (List.mem_append_left _ (List.mem_of_getElem? (l := tables_1_2) (i := 12) rfl)))) rfl
theorem wd_253 : ((Jvm.Cond.selects "EditGuess$Signs" ({ cls := "EditGuess$Signs", name := "kindAt", desc := "(I)I" } : Jvm.MethodName) ({ cls := "EditGuess$Signs", name := "kindAt", desc := "(I)I" } : Jvm.MethodName)) : Cond) ∈ zG := zgm (List.mem_append_right _ (List.mem_append_right _ (List.mem_append_left _ (List.mem_of_getElem? (l := tables_1_2) (i := 13) rfl)))) rfl
theorem wd_254 : ((Jvm.Cond.code ({ cls := "EditGuess$Signs", name := "kindAt", desc := "(I)I" } : Jvm.MethodName) prog_9_method_7_code (2 : Nat) (Option.some Jvm.ClassFile.FieldType.int)) : Cond) ∈ zG := zgm (List.mem_append_right _ (List.mem_append_right _ (List.mem_append_left _ (List.mem_of_getElem? (l := tables_1_2) (i := 14) rfl)))) rfl
theorem wd_255 : ((Jvm.Cond.methodLink "EditGuess" (141 : Nat) ({ cls := "EditGuess$Signs", name := "at", desc := "(I)I" } : Jvm.MethodName)) : Cond) ∈ zG := zgm (List.mem_append_right _ (List.mem_append_right _ (List.mem_append_left _ (List.mem_of_getElem? (l := tables_1_2) (i := 15) rfl)))) rfl
theorem wd_256 : ((Jvm.Cond.instanceMethod ({ cls := "EditGuess$Signs", name := "at", desc := "(I)I" } : Jvm.MethodName)) : Cond) ∈ zG := zgm (List.mem_append_right _ (List.mem_append_right _ (List.mem_append_left _ (List.mem_of_getElem? (l := tables_1_2) (i := 16) rfl)))) rfl
theorem wd_257 : ((Jvm.Cond.selects "EditGuess$Signs" ({ cls := "EditGuess$Signs", name := "at", desc := "(I)I" } : Jvm.MethodName) ({ cls := "EditGuess$Signs", name := "at", desc := "(I)I" } : Jvm.MethodName)) : Cond) ∈ zG := zgm (List.mem_append_right _ (List.mem_append_right _ (List.mem_append_left _ (List.mem_of_getElem? (l := tables_1_2) (i := 17) rfl)))) rfl
theorem wd_258 : ((Jvm.Cond.code ({ cls := "EditGuess$Signs", name := "at", desc := "(I)I" } : Jvm.MethodName) prog_9_method_6_code (2 : Nat) (Option.some Jvm.ClassFile.FieldType.int)) : Cond) ∈ zG := zgm (List.mem_append_right _ (List.mem_append_right _ (List.mem_append_left _ (List.mem_of_getElem? (l := tables_1_2) (i := 18) rfl)))) rfl
theorem wd_259 : ((Jvm.Cond.methodLink "EditGuess" (71 : Nat) ({ cls := "EditGuess", name := "lineFault", desc := "()I" } : Jvm.MethodName)) : Cond) ∈ zG := zgm (List.mem_append_right _ (List.mem_append_right _ (List.mem_append_left _ (List.mem_of_getElem? (l := tables_1_2) (i := 19) rfl)))) rfl
theorem wd_261 : ((Jvm.Cond.instanceMethod ({ cls := "EditGuess", name := "lineFault", desc := "()I" } : Jvm.MethodName)) : Cond) ∈ zG := zgm (List.mem_append_right _ (List.mem_append_right _ (List.mem_append_left _ (List.mem_of_getElem? (l := tables_1_2) (i := 21) rfl)))) rfl
theorem wd_262 : ((Jvm.Cond.code ({ cls := "EditGuess", name := "lineFault", desc := "()I" } : Jvm.MethodName) prog_1_method_20_code (2 : Nat) (Option.some Jvm.ClassFile.FieldType.int)) : Cond) ∈ zG := zgm (List.mem_append_right _ (List.mem_append_right _ (List.mem_append_left _ (List.mem_of_getElem? (l := tables_1_2) (i := 22) rfl)))) rfl
theorem wd_263 : ((Jvm.Cond.methodLink "EditGuessLaw" (27 : Nat) ({ cls := "EditGuess", name := "example", desc := "()I" } : Jvm.MethodName)) : Cond) ∈ zG := zgm (List.mem_append_right _ (List.mem_append_right _ (List.mem_append_left _ (List.mem_of_getElem? (l := tables_1_2) (i := 23) rfl)))) rfl
theorem wd_264 : ((Jvm.Cond.instanceMethod ({ cls := "EditGuess", name := "example", desc := "()I" } : Jvm.MethodName)) : Cond) ∈ zG := zgm (List.mem_append_right _ (List.mem_append_right _ (List.mem_append_left _ (List.mem_of_getElem? (l := tables_1_2) (i := 24) rfl)))) rfl
theorem wd_265 : ((Jvm.Cond.selects "EditGuess" ({ cls := "EditGuess", name := "example", desc := "()I" } : Jvm.MethodName) ({ cls := "EditGuess", name := "example", desc := "()I" } : Jvm.MethodName)) : Cond) ∈ zG := zgm (List.mem_append_right _ (List.mem_append_right _ (List.mem_append_left _ (List.mem_of_getElem? (l := tables_1_2) (i := 25) rfl)))) rfl
theorem wd_266 : ((Jvm.Cond.code ({ cls := "EditGuess", name := "example", desc := "()I" } : Jvm.MethodName) prog_1_method_5_code (2 : Nat) (Option.some Jvm.ClassFile.FieldType.int)) : Cond) ∈ zG := zgm (List.mem_append_right _ (List.mem_append_right _ (List.mem_append_left _ (List.mem_of_getElem? (l := tables_1_2) (i := 26) rfl)))) rfl
theorem wd_267 : ((Jvm.Cond.methodLink "EditGuess" (74 : Nat) ({ cls := "EditGuess$Book", name := "examples", desc := "()I" } : Jvm.MethodName)) : Cond) ∈ zG := zgm (List.mem_append_right _ (List.mem_append_right _ (List.mem_append_left _ (List.mem_of_getElem? (l := tables_1_2) (i := 27) rfl)))) rfl
theorem wd_268 : ((Jvm.Cond.instanceMethod ({ cls := "EditGuess$Book", name := "examples", desc := "()I" } : Jvm.MethodName)) : Cond) ∈ zG := zgm (List.mem_append_right _ (List.mem_append_right _ (List.mem_append_left _ (List.mem_of_getElem? (l := tables_1_2) (i := 28) rfl)))) rfl
theorem wd_269 : ((Jvm.Cond.selects "EditGuess$Book" ({ cls := "EditGuess$Book", name := "examples", desc := "()I" } : Jvm.MethodName) ({ cls := "EditGuess$Book", name := "examples", desc := "()I" } : Jvm.MethodName)) : Cond) ∈ zG := zgm (List.mem_append_right _ (List.mem_append_right _ (List.mem_append_left _ (List.mem_of_getElem? (l := tables_1_2) (i := 29) rfl)))) rfl
theorem wd_270 : ((Jvm.Cond.code ({ cls := "EditGuess$Book", name := "examples", desc := "()I" } : Jvm.MethodName) prog_2_method_2_code (1 : Nat) (Option.some Jvm.ClassFile.FieldType.int)) : Cond) ∈ zG := zgm (List.mem_append_right _ (List.mem_append_right _ (List.mem_append_left _ (List.mem_of_getElem? (l := tables_1_2) (i := 30) rfl)))) rfl
theorem wd_271 : ((Jvm.Cond.methodLink "EditGuess" (81 : Nat) ({ cls := "EditGuess$Book", name := "addExample", desc := "(LEditGuess$Signs;ILEditGuess$Signs;I)V" } : Jvm.MethodName)) : Cond) ∈ zG := zgm (List.mem_append_right _ (List.mem_append_right _ (List.mem_append_left _ (List.mem_of_getElem? (l := tables_1_2) (i := 31) rfl)))) rfl
theorem wd_272 : ((Jvm.Cond.instanceMethod ({ cls := "EditGuess$Book", name := "addExample", desc := "(LEditGuess$Signs;ILEditGuess$Signs;I)V" } : Jvm.MethodName)) : Cond) ∈ zG := zgm (List.mem_append_right _ (List.mem_append_right _ (List.mem_append_left _ (List.mem_of_getElem? (l := tables_1_2) (i := 32) rfl)))) rfl
theorem wd_273 : ((Jvm.Cond.selects "EditGuess$Book" ({ cls := "EditGuess$Book", name := "addExample", desc := "(LEditGuess$Signs;ILEditGuess$Signs;I)V" } : Jvm.MethodName) ({ cls := "EditGuess$Book", name := "addExample", desc := "(LEditGuess$Signs;ILEditGuess$Signs;I)V" } : Jvm.MethodName)) : Cond) ∈ zG := zgm (List.mem_append_right _ (List.mem_append_right _ (List.mem_append_left _ (List.mem_of_getElem? (l := tables_1_2) (i := 33) rfl)))) rfl
theorem wd_274 : ((Jvm.Cond.code ({ cls := "EditGuess$Book", name := "addExample", desc := "(LEditGuess$Signs;ILEditGuess$Signs;I)V" } : Jvm.MethodName) prog_2_method_8_code (5 : Nat) (Option.none : Option Jvm.ClassFile.FieldType)) : Cond) ∈ zG := zgm (List.mem_append_right _ (List.mem_append_right _ (List.mem_append_left _ (List.mem_of_getElem? (l := tables_1_2) (i := 34) rfl)))) rfl
theorem wd_275 : ((Jvm.Cond.methodLink "EditGuess$Book" (33 : Nat) ({ cls := "EditGuess$Signs", name := "clear", desc := "()V" } : Jvm.MethodName)) : Cond) ∈ zG := zgm (List.mem_append_right _ (List.mem_append_right _ (List.mem_append_left _ (List.mem_of_getElem? (l := tables_1_2) (i := 35) rfl)))) rfl
theorem wd_276 : ((Jvm.Cond.methodLink "EditGuess$Book" (36 : Nat) ({ cls := "EditGuess$Signs", name := "addFrom", desc := "(LEditGuess$Signs;II)V" } : Jvm.MethodName)) : Cond) ∈ zG := zgm (List.mem_append_right _ (List.mem_append_right _ (List.mem_append_left _ (List.mem_of_getElem? (l := tables_1_2) (i := 36) rfl)))) rfl
theorem wd_277 : ((Jvm.Cond.instanceMethod ({ cls := "EditGuess$Signs", name := "addFrom", desc := "(LEditGuess$Signs;II)V" } : Jvm.MethodName)) : Cond) ∈ zG := zgm (List.mem_append_right _ (List.mem_append_right _ (List.mem_append_left _ (List.mem_of_getElem? (l := tables_1_2) (i := 37) rfl)))) rfl
theorem wd_278 : ((Jvm.Cond.selects "EditGuess$Signs" ({ cls := "EditGuess$Signs", name := "addFrom", desc := "(LEditGuess$Signs;II)V" } : Jvm.MethodName) ({ cls := "EditGuess$Signs", name := "addFrom", desc := "(LEditGuess$Signs;II)V" } : Jvm.MethodName)) : Cond) ∈ zG := zgm (List.mem_append_right _ (List.mem_append_right _ (List.mem_append_left _ (List.mem_of_getElem? (l := tables_1_2) (i := 38) rfl)))) rfl
theorem wd_279 : ((Jvm.Cond.code ({ cls := "EditGuess$Signs", name := "addFrom", desc := "(LEditGuess$Signs;II)V" } : Jvm.MethodName) prog_9_method_8_code (5 : Nat) (Option.none : Option Jvm.ClassFile.FieldType)) : Cond) ∈ zG := zgm (List.mem_append_right _ (List.mem_append_right _ (List.mem_append_left _ (List.mem_of_getElem? (l := tables_1_2) (i := 39) rfl)))) rfl
theorem wd_280 : ((Jvm.Cond.methodLink "EditGuess$Signs" (32 : Nat) ({ cls := "EditGuess$Signs", name := "at", desc := "(I)I" } : Jvm.MethodName)) : Cond) ∈ zG := zgm (List.mem_append_right _ (List.mem_append_right _ (List.mem_append_left _ (List.mem_of_getElem? (l := tables_1_2) (i := 40) rfl)))) rfl
theorem wd_281 : ((Jvm.Cond.methodLink "EditGuess$Signs" (35 : Nat) ({ cls := "EditGuess$Signs", name := "add", desc := "(I)Z" } : Jvm.MethodName)) : Cond) ∈ zG := zgm (List.mem_append_right _ (List.mem_append_right _ (List.mem_append_left _ (List.mem_of_getElem? (l := tables_1_2) (i := 41) rfl)))) rfl
theorem wd_282 : ((Jvm.Cond.methodLink "EditGuess$Book" (40 : Nat) ({ cls := "EditGuess$Signs", name := "many", desc := "()I" } : Jvm.MethodName)) : Cond) ∈ zG := zgm (List.mem_append_right _ (List.mem_append_right _ (List.mem_append_left _ (List.mem_of_getElem? (l := tables_1_2) (i := 42) rfl)))) rfl
theorem wd_283 : ((Jvm.Cond.methodLink "EditGuess" (85 : Nat) ({ cls := "EditGuess", name := "examplesChanged", desc := "()V" } : Jvm.MethodName)) : Cond) ∈ zG := zgm (List.mem_append_right _ (List.mem_append_right _ (List.mem_append_left _ (List.mem_of_getElem? (l := tables_1_2) (i := 43) rfl)))) rfl
theorem wd_285 : ((Jvm.Cond.instanceMethod ({ cls := "EditGuess", name := "examplesChanged", desc := "()V" } : Jvm.MethodName)) : Cond) ∈ zG := zgm (List.mem_append_right _ (List.mem_append_right _ (List.mem_append_left _ (List.mem_of_getElem? (l := tables_1_2) (i := 45) rfl)))) rfl
theorem wd_286 : ((Jvm.Cond.code ({ cls := "EditGuess", name := "examplesChanged", desc := "()V" } : Jvm.MethodName) prog_1_method_22_code (1 : Nat) (Option.none : Option Jvm.ClassFile.FieldType)) : Cond) ∈ zG := zgm (List.mem_append_right _ (List.mem_append_right _ (List.mem_append_left _ (List.mem_of_getElem? (l := tables_1_2) (i := 46) rfl)))) rfl
theorem wd_287 : ((Jvm.Cond.methodLink "EditGuessLaw" (31 : Nat) ({ cls := "EditGuess", name := "forget", desc := "()I" } : Jvm.MethodName)) : Cond) ∈ zG := zgm (List.mem_append_right _ (List.mem_append_right _ (List.mem_append_left _ (List.mem_of_getElem? (l := tables_1_2) (i := 47) rfl)))) rfl
theorem wd_288 : ((Jvm.Cond.instanceMethod ({ cls := "EditGuess", name := "forget", desc := "()I" } : Jvm.MethodName)) : Cond) ∈ zG := zgm (List.mem_append_right _ (List.mem_append_right _ (List.mem_append_left _ (List.mem_of_getElem? (l := tables_1_2) (i := 48) rfl)))) rfl
theorem wd_289 : ((Jvm.Cond.selects "EditGuess" ({ cls := "EditGuess", name := "forget", desc := "()I" } : Jvm.MethodName) ({ cls := "EditGuess", name := "forget", desc := "()I" } : Jvm.MethodName)) : Cond) ∈ zG := zgm (List.mem_append_right _ (List.mem_append_right _ (List.mem_append_left _ (List.mem_of_getElem? (l := tables_1_2) (i := 49) rfl)))) rfl
theorem wd_290 : ((Jvm.Cond.code ({ cls := "EditGuess", name := "forget", desc := "()I" } : Jvm.MethodName) prog_1_method_6_code (1 : Nat) (Option.some Jvm.ClassFile.FieldType.int)) : Cond) ∈ zG := zgm (List.mem_append_right _ (List.mem_append_right _ (List.mem_append_left _ (List.mem_of_getElem? (l := tables_1_2) (i := 50) rfl)))) rfl
theorem wd_291 : ((Jvm.Cond.methodLink "EditGuess" (88 : Nat) ({ cls := "EditGuess$Book", name := "dropExample", desc := "()V" } : Jvm.MethodName)) : Cond) ∈ zG := zgm (List.mem_append_right _ (List.mem_append_right _ (List.mem_append_left _ (List.mem_of_getElem? (l := tables_1_2) (i := 51) rfl)))) rfl
theorem wd_292 : ((Jvm.Cond.instanceMethod ({ cls := "EditGuess$Book", name := "dropExample", desc := "()V" } : Jvm.MethodName)) : Cond) ∈ zG := zgm (List.mem_append_right _ (List.mem_append_right _ (List.mem_append_left _ (List.mem_of_getElem? (l := tables_1_2) (i := 52) rfl)))) rfl
theorem wd_293 : ((Jvm.Cond.selects "EditGuess$Book" ({ cls := "EditGuess$Book", name := "dropExample", desc := "()V" } : Jvm.MethodName) ({ cls := "EditGuess$Book", name := "dropExample", desc := "()V" } : Jvm.MethodName)) : Cond) ∈ zG := zgm (List.mem_append_right _ (List.mem_append_right _ (List.mem_append_left _ (List.mem_of_getElem? (l := tables_1_2) (i := 53) rfl)))) rfl
theorem wd_294 : ((Jvm.Cond.code ({ cls := "EditGuess$Book", name := "dropExample", desc := "()V" } : Jvm.MethodName) prog_2_method_9_code (1 : Nat) (Option.none : Option Jvm.ClassFile.FieldType)) : Cond) ∈ zG := zgm (List.mem_append_right _ (List.mem_append_right _ (List.mem_append_left _ (List.mem_of_getElem? (l := tables_1_2) (i := 54) rfl)))) rfl
theorem wd_295 : ((Jvm.Cond.methodLink "EditGuessLaw" (35 : Nat) ({ cls := "EditGuess", name := "pool", desc := "()I" } : Jvm.MethodName)) : Cond) ∈ zG := zgm (List.mem_append_right _ (List.mem_append_right _ (List.mem_append_left _ (List.mem_of_getElem? (l := tables_1_2) (i := 55) rfl)))) rfl
theorem wd_296 : ((Jvm.Cond.instanceMethod ({ cls := "EditGuess", name := "pool", desc := "()I" } : Jvm.MethodName)) : Cond) ∈ zG := zgm (List.mem_append_right _ (List.mem_append_right _ (List.mem_append_left _ (List.mem_of_getElem? (l := tables_1_2) (i := 56) rfl)))) rfl
theorem wd_297 : ((Jvm.Cond.selects "EditGuess" ({ cls := "EditGuess", name := "pool", desc := "()I" } : Jvm.MethodName) ({ cls := "EditGuess", name := "pool", desc := "()I" } : Jvm.MethodName)) : Cond) ∈ zG := zgm (List.mem_append_right _ (List.mem_append_right _ (List.mem_append_left _ (List.mem_of_getElem? (l := tables_1_2) (i := 57) rfl)))) rfl
theorem wd_298 : ((Jvm.Cond.code ({ cls := "EditGuess", name := "pool", desc := "()I" } : Jvm.MethodName) prog_1_method_7_code (1 : Nat) (Option.some Jvm.ClassFile.FieldType.int)) : Cond) ∈ zG := zgm (List.mem_append_right _ (List.mem_append_right _ (List.mem_append_left _ (List.mem_of_getElem? (l := tables_1_2) (i := 58) rfl)))) rfl
theorem wd_299 : ((Jvm.Cond.methodLink "EditGuess" (91 : Nat) ({ cls := "EditGuess$Book", name := "pooled", desc := "()I" } : Jvm.MethodName)) : Cond) ∈ zG := zgm (List.mem_append_right _ (List.mem_append_right _ (List.mem_append_left _ (List.mem_of_getElem? (l := tables_1_2) (i := 59) rfl)))) rfl
theorem wd_300 : ((Jvm.Cond.instanceMethod ({ cls := "EditGuess$Book", name := "pooled", desc := "()I" } : Jvm.MethodName)) : Cond) ∈ zG := zgm (List.mem_append_right _ (List.mem_append_right _ (List.mem_append_left _ (List.mem_of_getElem? (l := tables_1_2) (i := 60) rfl)))) rfl
theorem wd_301 : ((Jvm.Cond.selects "EditGuess$Book" ({ cls := "EditGuess$Book", name := "pooled", desc := "()I" } : Jvm.MethodName) ({ cls := "EditGuess$Book", name := "pooled", desc := "()I" } : Jvm.MethodName)) : Cond) ∈ zG := zgm (List.mem_append_right _ (List.mem_append_right _ (List.mem_append_left _ (List.mem_of_getElem? (l := tables_1_2) (i := 61) rfl)))) rfl
theorem wd_302 : ((Jvm.Cond.code ({ cls := "EditGuess$Book", name := "pooled", desc := "()I" } : Jvm.MethodName) prog_2_method_3_code (1 : Nat) (Option.some Jvm.ClassFile.FieldType.int)) : Cond) ∈ zG := zgm (List.mem_append_right _ (List.mem_append_right _ (List.mem_append_left _ (List.mem_of_getElem? (l := tables_1_2) (i := 62) rfl)))) rfl
theorem wd_303 : ((Jvm.Cond.methodLink "EditGuess" (94 : Nat) ({ cls := "EditGuess$Book", name := "addLine", desc := "(LEditGuess$Signs;)V" } : Jvm.MethodName)) : Cond) ∈ zG := zgm (List.mem_append_right _ (List.mem_append_right _ (List.mem_append_left _ (List.mem_of_getElem? (l := tables_1_2) (i := 63) rfl)))) rfl
theorem wd_304 : ((Jvm.Cond.instanceMethod ({ cls := "EditGuess$Book", name := "addLine", desc := "(LEditGuess$Signs;)V" } : Jvm.MethodName)) : Cond) ∈ zG := zgm (List.mem_append_right _ (List.mem_append_right _ (List.mem_append_left _ (List.mem_of_getElem? (l := tables_1_2) (i := 64) rfl)))) rfl
theorem wd_305 : ((Jvm.Cond.selects "EditGuess$Book" ({ cls := "EditGuess$Book", name := "addLine", desc := "(LEditGuess$Signs;)V" } : Jvm.MethodName) ({ cls := "EditGuess$Book", name := "addLine", desc := "(LEditGuess$Signs;)V" } : Jvm.MethodName)) : Cond) ∈ zG := zgm (List.mem_append_right _ (List.mem_append_right _ (List.mem_append_left _ (List.mem_of_getElem? (l := tables_1_2) (i := 65) rfl)))) rfl
theorem wd_306 : ((Jvm.Cond.code ({ cls := "EditGuess$Book", name := "addLine", desc := "(LEditGuess$Signs;)V" } : Jvm.MethodName) prog_2_method_10_code (2 : Nat) (Option.none : Option Jvm.ClassFile.FieldType)) : Cond) ∈ zG := zgm (List.mem_append_right _ (List.mem_append_right _ (List.mem_append_left _ (List.mem_of_getElem? (l := tables_1_2) (i := 66) rfl)))) rfl
theorem wd_307 : ((Jvm.Cond.methodLink "EditGuess$Book" (44 : Nat) ({ cls := "EditGuess$Signs", name := "copy", desc := "(LEditGuess$Signs;)V" } : Jvm.MethodName)) : Cond) ∈ zG := zgm (List.mem_append_right _ (List.mem_append_right _ (List.mem_append_left _ (List.mem_of_getElem? (l := tables_1_2) (i := 67) rfl)))) rfl
theorem wd_308 : ((Jvm.Cond.instanceMethod ({ cls := "EditGuess$Signs", name := "copy", desc := "(LEditGuess$Signs;)V" } : Jvm.MethodName)) : Cond) ∈ zG := zgm (List.mem_append_right _ (List.mem_append_right _ (List.mem_append_left _ (List.mem_of_getElem? (l := tables_1_2) (i := 68) rfl)))) rfl
theorem wd_309 : ((Jvm.Cond.selects "EditGuess$Signs" ({ cls := "EditGuess$Signs", name := "copy", desc := "(LEditGuess$Signs;)V" } : Jvm.MethodName) ({ cls := "EditGuess$Signs", name := "copy", desc := "(LEditGuess$Signs;)V" } : Jvm.MethodName)) : Cond) ∈ zG := zgm (List.mem_append_right _ (List.mem_append_right _ (List.mem_append_left _ (List.mem_of_getElem? (l := tables_1_2) (i := 69) rfl)))) rfl
theorem wd_310 : ((Jvm.Cond.code ({ cls := "EditGuess$Signs", name := "copy", desc := "(LEditGuess$Signs;)V" } : Jvm.MethodName) prog_9_method_9_code (2 : Nat) (Option.none : Option Jvm.ClassFile.FieldType)) : Cond) ∈ zG := zgm (List.mem_append_right _ (List.mem_append_right _ (List.mem_append_left _ (List.mem_of_getElem? (l := tables_1_2) (i := 70) rfl)))) rfl
theorem wd_311 : ((Jvm.Cond.methodLink "EditGuess$Signs" (39 : Nat) ({ cls := "EditGuess$Signs", name := "clear", desc := "()V" } : Jvm.MethodName)) : Cond) ∈ zG := zgm (List.mem_append_right _ (List.mem_append_right _ (List.mem_append_left _ (List.mem_of_getElem? (l := tables_1_2) (i := 71) rfl)))) rfl
theorem wd_312 : ((Jvm.Cond.methodLink "EditGuess$Signs" (42 : Nat) ({ cls := "EditGuess$Signs", name := "addFrom", desc := "(LEditGuess$Signs;II)V" } : Jvm.MethodName)) : Cond) ∈ zG := zgm (List.mem_append_right _ (List.mem_append_right _ (List.mem_append_left _ (List.mem_of_getElem? (l := tables_1_2) (i := 72) rfl)))) rfl
theorem wd_313 : ((Jvm.Cond.methodLink "EditGuessLaw" (39 : Nat) ({ cls := "EditGuess", name := "drain", desc := "(I)I" } : Jvm.MethodName)) : Cond) ∈ zG := zgm (List.mem_append_right _ (List.mem_append_right _ (List.mem_append_left _ (List.mem_of_getElem? (l := tables_1_2) (i := 73) rfl)))) rfl
theorem wd_314 : ((Jvm.Cond.instanceMethod ({ cls := "EditGuess", name := "drain", desc := "(I)I" } : Jvm.MethodName)) : Cond) ∈ zG := zgm (List.mem_append_right _ (List.mem_append_right _ (List.mem_append_left _ (List.mem_of_getElem? (l := tables_1_2) (i := 74) rfl)))) rfl
theorem wd_315 : ((Jvm.Cond.selects "EditGuess" ({ cls := "EditGuess", name := "drain", desc := "(I)I" } : Jvm.MethodName) ({ cls := "EditGuess", name := "drain", desc := "(I)I" } : Jvm.MethodName)) : Cond) ∈ zG := zgm (List.mem_append_right _ (List.mem_append_right _ (List.mem_append_left _ (List.mem_of_getElem? (l := tables_1_2) (i := 75) rfl)))) rfl
theorem wd_316 : ((Jvm.Cond.code ({ cls := "EditGuess", name := "drain", desc := "(I)I" } : Jvm.MethodName) prog_1_method_8_code (2 : Nat) (Option.some Jvm.ClassFile.FieldType.int)) : Cond) ∈ zG := zgm (List.mem_append_right _ (List.mem_append_right _ (List.mem_append_left _ (List.mem_of_getElem? (l := tables_1_2) (i := 76) rfl)))) rfl
theorem wd_317 : ((Jvm.Cond.methodLink "EditGuess" (98 : Nat) ({ cls := "EditGuess$Book", name := "knows", desc := "(I)Z" } : Jvm.MethodName)) : Cond) ∈ zG := zgm (List.mem_append_right _ (List.mem_append_right _ (List.mem_append_left _ (List.mem_of_getElem? (l := tables_1_2) (i := 77) rfl)))) rfl
theorem wd_318 : ((Jvm.Cond.instanceMethod ({ cls := "EditGuess$Book", name := "knows", desc := "(I)Z" } : Jvm.MethodName)) : Cond) ∈ zG := zgm (List.mem_append_right _ (List.mem_append_right _ (List.mem_append_left _ (List.mem_of_getElem? (l := tables_1_2) (i := 78) rfl)))) rfl
theorem wd_319 : ((Jvm.Cond.selects "EditGuess$Book" ({ cls := "EditGuess$Book", name := "knows", desc := "(I)Z" } : Jvm.MethodName) ({ cls := "EditGuess$Book", name := "knows", desc := "(I)Z" } : Jvm.MethodName)) : Cond) ∈ zG := zgm (List.mem_append_right _ (List.mem_append_right _ (List.mem_append_left _ (List.mem_of_getElem? (l := tables_1_2) (i := 79) rfl)))) rfl
theorem wd_320 : ((Jvm.Cond.code ({ cls := "EditGuess$Book", name := "knows", desc := "(I)Z" } : Jvm.MethodName) prog_2_method_4_code (2 : Nat) (Option.some Jvm.ClassFile.FieldType.boolean)) : Cond) ∈ zG := zgm (List.mem_append_right _ (List.mem_append_right _ (List.mem_append_left _ (List.mem_of_getElem? (l := tables_1_2) (i := 80) rfl)))) rfl
theorem wd_321 : ((Jvm.Cond.methodLink "EditGuess" (101 : Nat) ({ cls := "EditGuess$Book", name := "dropLine", desc := "(I)V" } : Jvm.MethodName)) : Cond) ∈ zG := zgm (List.mem_append_right _ (List.mem_append_right _ (List.mem_append_left _ (List.mem_of_getElem? (l := tables_1_2) (i := 81) rfl)))) rfl
theorem wd_322 : ((Jvm.Cond.instanceMethod ({ cls := "EditGuess$Book", name := "dropLine", desc := "(I)V" } : Jvm.MethodName)) : Cond) ∈ zG := zgm (List.mem_append_right _ (List.mem_append_right _ (List.mem_append_left _ (List.mem_of_getElem? (l := tables_1_2) (i := 82) rfl)))) rfl
theorem wd_323 : ((Jvm.Cond.selects "EditGuess$Book" ({ cls := "EditGuess$Book", name := "dropLine", desc := "(I)V" } : Jvm.MethodName) ({ cls := "EditGuess$Book", name := "dropLine", desc := "(I)V" } : Jvm.MethodName)) : Cond) ∈ zG := zgm (List.mem_append_right _ (List.mem_append_right _ (List.mem_append_left _ (List.mem_of_getElem? (l := tables_1_2) (i := 83) rfl)))) rfl
theorem wd_324 : ((Jvm.Cond.code ({ cls := "EditGuess$Book", name := "dropLine", desc := "(I)V" } : Jvm.MethodName) prog_2_method_11_code (3 : Nat) (Option.none : Option Jvm.ClassFile.FieldType)) : Cond) ∈ zG := zgm (List.mem_append_right _ (List.mem_append_right _ (List.mem_append_left _ (List.mem_of_getElem? (l := tables_1_2) (i := 84) rfl)))) rfl
theorem wd_325 : ((Jvm.Cond.methodLink "EditGuess$Book" (48 : Nat) ({ cls := "EditGuess$Book", name := "knows", desc := "(I)Z" } : Jvm.MethodName)) : Cond) ∈ zG := zgm (List.mem_append_right _ (List.mem_append_right _ (List.mem_append_left _ (List.mem_of_getElem? (l := tables_1_2) (i := 85) rfl)))) rfl
theorem wd_326 : ((Jvm.Cond.methodLink "EditGuessLaw" (43 : Nat) ({ cls := "EditGuess", name := "plans", desc := "()J" } : Jvm.MethodName)) : Cond) ∈ zG := zgm (List.mem_append_right _ (List.mem_append_right _ (List.mem_append_left _ (List.mem_of_getElem? (l := tables_1_2) (i := 86) rfl)))) rfl
theorem wd_327 : ((Jvm.Cond.instanceMethod ({ cls := "EditGuess", name := "plans", desc := "()J" } : Jvm.MethodName)) : Cond) ∈ zG := zgm (List.mem_append_right _ (List.mem_append_right _ (List.mem_append_left _ (List.mem_of_getElem? (l := tables_1_2) (i := 87) rfl)))) rfl
theorem wd_328 : ((Jvm.Cond.selects "EditGuess" ({ cls := "EditGuess", name := "plans", desc := "()J" } : Jvm.MethodName) ({ cls := "EditGuess", name := "plans", desc := "()J" } : Jvm.MethodName)) : Cond) ∈ zG := zgm (List.mem_append_right _ (List.mem_append_right _ (List.mem_append_left _ (List.mem_of_getElem? (l := tables_1_2) (i := 88) rfl)))) rfl
theorem wd_329 : ((Jvm.Cond.code ({ cls := "EditGuess", name := "plans", desc := "()J" } : Jvm.MethodName) prog_1_method_9_code (1 : Nat) (Option.some Jvm.ClassFile.FieldType.long)) : Cond) ∈ zG := zgm (List.mem_append_right _ (List.mem_append_right _ (List.mem_append_left _ (List.mem_of_getElem? (l := tables_1_2) (i := 89) rfl)))) rfl
theorem wd_330 : ((Jvm.Cond.constantLong "EditGuess" (104 : Nat) (-3 : Int64)) : Cond) ∈ zG := zgm (List.mem_append_right _ (List.mem_append_right _ (List.mem_append_left _ (List.mem_of_getElem? (l := tables_1_2) (i := 90) rfl)))) rfl
theorem wd_331 : ((Jvm.Cond.methodLink "EditGuess" (106 : Nat) ({ cls := "EditGuess", name := "guess", desc := "()V" } : Jvm.MethodName)) : Cond) ∈ zG := zgm (List.mem_append_right _ (List.mem_append_right _ (List.mem_append_left _ (List.mem_of_getElem? (l := tables_1_2) (i := 91) rfl)))) rfl
theorem wd_333 : ((Jvm.Cond.instanceMethod ({ cls := "EditGuess", name := "guess", desc := "()V" } : Jvm.MethodName)) : Cond) ∈ zG := zgm (List.mem_append_right _ (List.mem_append_right _ (List.mem_append_left _ (List.mem_of_getElem? (l := tables_1_2) (i := 93) rfl)))) rfl
theorem wd_334 : ((Jvm.Cond.code ({ cls := "EditGuess", name := "guess", desc := "()V" } : Jvm.MethodName) prog_1_method_24_code (2 : Nat) (Option.none : Option Jvm.ClassFile.FieldType)) : Cond) ∈ zG := zgm (List.mem_append_right _ (List.mem_append_right _ (List.mem_append_left _ (List.mem_of_getElem? (l := tables_1_2) (i := 94) rfl)))) rfl
theorem wd_335 : ((Jvm.Cond.methodLink "EditGuess" (172 : Nat) ({ cls := "EditGuess$Fitting", name := "clear", desc := "()V" } : Jvm.MethodName)) : Cond) ∈ zG := zgm (List.mem_append_right _ (List.mem_append_right _ (List.mem_append_left _ (List.mem_of_getElem? (l := tables_1_2) (i := 95) rfl)))) rfl
theorem wd_336 : ((Jvm.Cond.instanceMethod ({ cls := "EditGuess$Fitting", name := "clear", desc := "()V" } : Jvm.MethodName)) : Cond) ∈ zG := zgm (List.mem_append_right _ (List.mem_append_right _ (List.mem_append_left _ (List.mem_of_getElem? (l := tables_1_2) (i := 96) rfl)))) rfl
theorem wd_337 : ((Jvm.Cond.selects "EditGuess$Fitting" ({ cls := "EditGuess$Fitting", name := "clear", desc := "()V" } : Jvm.MethodName) ({ cls := "EditGuess$Fitting", name := "clear", desc := "()V" } : Jvm.MethodName)) : Cond) ∈ zG := zgm (List.mem_append_right _ (List.mem_append_right _ (List.mem_append_left _ (List.mem_of_getElem? (l := tables_1_2) (i := 97) rfl)))) rfl
theorem wd_338 : ((Jvm.Cond.code ({ cls := "EditGuess$Fitting", name := "clear", desc := "()V" } : Jvm.MethodName) prog_3_method_2_code (1 : Nat) (Option.none : Option Jvm.ClassFile.FieldType)) : Cond) ∈ zG := zgm (List.mem_append_right _ (List.mem_append_right _ (List.mem_append_left _ (List.mem_of_getElem? (l := tables_1_2) (i := 98) rfl)))) rfl
theorem wd_339 : ((Jvm.Cond.methodLink "EditGuess" (162 : Nat) ({ cls := "EditGuess$Book", name := "exampleLine", desc := "(I)LEditGuess$Signs;" } : Jvm.MethodName)) : Cond) ∈ zG := zgm (List.mem_append_right _ (List.mem_append_right _ (List.mem_append_left _ (List.mem_of_getElem? (l := tables_1_2) (i := 99) rfl)))) rfl
theorem wd_340 : ((Jvm.Cond.instanceMethod ({ cls := "EditGuess$Book", name := "exampleLine", desc := "(I)LEditGuess$Signs;" } : Jvm.MethodName)) : Cond) ∈ zG := zgm (List.mem_append_right _ (List.mem_append_right _ (List.mem_append_left _ (List.mem_of_getElem? (l := tables_1_2) (i := 100) rfl)))) rfl
theorem wd_341 : ((Jvm.Cond.selects "EditGuess$Book" ({ cls := "EditGuess$Book", name := "exampleLine", desc := "(I)LEditGuess$Signs;" } : Jvm.MethodName) ({ cls := "EditGuess$Book", name := "exampleLine", desc := "(I)LEditGuess$Signs;" } : Jvm.MethodName)) : Cond) ∈ zG := zgm (List.mem_append_right _ (List.mem_append_right _ (List.mem_append_left _ (List.mem_of_getElem? (l := tables_1_2) (i := 101) rfl)))) rfl
theorem wd_342 : ((Jvm.Cond.code ({ cls := "EditGuess$Book", name := "exampleLine", desc := "(I)LEditGuess$Signs;" } : Jvm.MethodName) prog_2_method_5_code (2 : Nat) (Option.some (Jvm.ClassFile.FieldType.object "EditGuess$Signs"))) : Cond) ∈ zG := zgm (List.mem_append_right _ (List.mem_append_right _ (List.mem_append_left _ (List.mem_of_getElem? (l := tables_1_2) (i := 102) rfl)))) rfl
theorem wd_343 : ((Jvm.Cond.methodLink "EditGuess" (165 : Nat) ({ cls := "EditGuess$Book", name := "result", desc := "(I)LEditGuess$Signs;" } : Jvm.MethodName)) : Cond) ∈ zG := zgm (List.mem_append_right _ (List.mem_append_right _ (List.mem_append_left _ (List.mem_of_getElem? (l := tables_1_2) (i := 103) rfl)))) rfl
theorem wd_344 : ((Jvm.Cond.instanceMethod ({ cls := "EditGuess$Book", name := "result", desc := "(I)LEditGuess$Signs;" } : Jvm.MethodName)) : Cond) ∈ zG := zgm (List.mem_append_right _ (List.mem_append_right _ (List.mem_append_left _ (List.mem_of_getElem? (l := tables_1_2) (i := 104) rfl)))) rfl
theorem wd_345 : ((Jvm.Cond.selects "EditGuess$Book" ({ cls := "EditGuess$Book", name := "result", desc := "(I)LEditGuess$Signs;" } : Jvm.MethodName) ({ cls := "EditGuess$Book", name := "result", desc := "(I)LEditGuess$Signs;" } : Jvm.MethodName)) : Cond) ∈ zG := zgm (List.mem_append_right _ (List.mem_append_right _ (List.mem_append_left _ (List.mem_of_getElem? (l := tables_1_2) (i := 105) rfl)))) rfl
theorem wd_346 : ((Jvm.Cond.code ({ cls := "EditGuess$Book", name := "result", desc := "(I)LEditGuess$Signs;" } : Jvm.MethodName) prog_2_method_6_code (2 : Nat) (Option.some (Jvm.ClassFile.FieldType.object "EditGuess$Signs"))) : Cond) ∈ zG := zgm (List.mem_append_right _ (List.mem_append_right _ (List.mem_append_left _ (List.mem_of_getElem? (l := tables_1_2) (i := 106) rfl)))) rfl
theorem wd_347 : ((Jvm.Cond.methodLink "EditGuess" (173 : Nat) ({ cls := "EditGuess$Fitting", name := "addRow", desc := "(LEditGuess$Signs;LEditGuess$Signs;)V" } : Jvm.MethodName)) : Cond) ∈ zG := zgm (List.mem_append_right _ (List.mem_append_right _ (List.mem_append_left _ (List.mem_of_getElem? (l := tables_1_2) (i := 107) rfl)))) rfl
theorem wd_348 : ((Jvm.Cond.instanceMethod ({ cls := "EditGuess$Fitting", name := "addRow", desc := "(LEditGuess$Signs;LEditGuess$Signs;)V" } : Jvm.MethodName)) : Cond) ∈ zG := zgm (List.mem_append_right _ (List.mem_append_right _ (List.mem_append_left _ (List.mem_of_getElem? (l := tables_1_2) (i := 108) rfl)))) rfl
theorem wd_349 : ((Jvm.Cond.selects "EditGuess$Fitting" ({ cls := "EditGuess$Fitting", name := "addRow", desc := "(LEditGuess$Signs;LEditGuess$Signs;)V" } : Jvm.MethodName) ({ cls := "EditGuess$Fitting", name := "addRow", desc := "(LEditGuess$Signs;LEditGuess$Signs;)V" } : Jvm.MethodName)) : Cond) ∈ zG := zgm (List.mem_append_right _ (List.mem_append_right _ (List.mem_append_left _ (List.mem_of_getElem? (l := tables_1_2) (i := 109) rfl)))) rfl
theorem wd_350 : ((Jvm.Cond.code ({ cls := "EditGuess$Fitting", name := "addRow", desc := "(LEditGuess$Signs;LEditGuess$Signs;)V" } : Jvm.MethodName) prog_3_method_3_code (3 : Nat) (Option.none : Option Jvm.ClassFile.FieldType)) : Cond) ∈ zG := zgm (List.mem_append_right _ (List.mem_append_right _ (List.mem_append_left _ (List.mem_of_getElem? (l := tables_1_2) (i := 110) rfl)))) rfl
theorem wd_351 : ((Jvm.Cond.methodLink "EditGuess$Fitting" (51 : Nat) ({ cls := "EditGuess$Row", name := "become", desc := "(LEditGuess$Signs;LEditGuess$Signs;)V" } : Jvm.MethodName)) : Cond) ∈ zG := zgm (List.mem_append_right _ (List.mem_append_right _ (List.mem_append_left _ (List.mem_of_getElem? (l := tables_1_2) (i := 111) rfl)))) rfl
theorem wd_352 : ((Jvm.Cond.instanceMethod ({ cls := "EditGuess$Row", name := "become", desc := "(LEditGuess$Signs;LEditGuess$Signs;)V" } : Jvm.MethodName)) : Cond) ∈ zG := zgm (List.mem_append_right _ (List.mem_append_right _ (List.mem_append_left _ (List.mem_of_getElem? (l := tables_1_2) (i := 112) rfl)))) rfl
theorem wd_353 : ((Jvm.Cond.selects "EditGuess$Row" ({ cls := "EditGuess$Row", name := "become", desc := "(LEditGuess$Signs;LEditGuess$Signs;)V" } : Jvm.MethodName) ({ cls := "EditGuess$Row", name := "become", desc := "(LEditGuess$Signs;LEditGuess$Signs;)V" } : Jvm.MethodName)) : Cond) ∈ zG := zgm (List.mem_append_right _ (List.mem_append_right _ (List.mem_append_left _ (List.mem_of_getElem? (l := tables_1_2) (i := 113) rfl)))) rfl
theorem wd_354 : ((Jvm.Cond.code ({ cls := "EditGuess$Row", name := "become", desc := "(LEditGuess$Signs;LEditGuess$Signs;)V" } : Jvm.MethodName) prog_8_method_2_code (5 : Nat) (Option.none : Option Jvm.ClassFile.FieldType)) : Cond) ∈ zG := zgm (List.mem_append_right _ (List.mem_append_right _ (List.mem_append_left _ (List.mem_of_getElem? (l := tables_1_2) (i := 114) rfl)))) rfl
theorem wd_355 : ((Jvm.Cond.methodLink "EditGuess$Row" (31 : Nat) ({ cls := "EditGuess$Signs", name := "copy", desc := "(LEditGuess$Signs;)V" } : Jvm.MethodName)) : Cond) ∈ zG := zgm (List.mem_append_right _ (List.mem_append_right _ (List.mem_append_left _ (List.mem_of_getElem? (l := tables_1_2) (i := 115) rfl)))) rfl
theorem wd_356 : ((Jvm.Cond.methodLink "EditGuess$Row" (35 : Nat) ({ cls := "EditGuess$Marks", name := "placeIn", desc := "(LEditGuess$Signs;I)I" } : Jvm.MethodName)) : Cond) ∈ zG := zgm (List.mem_append_right _ (List.mem_append_right _ (List.mem_append_left _ (List.mem_of_getElem? (l := tables_1_2) (i := 116) rfl)))) rfl
theorem wd_357 : ((Jvm.Cond.static ({ cls := "EditGuess$Marks", name := "placeIn", desc := "(LEditGuess$Signs;I)I" } : Jvm.MethodName)) : Cond) ∈ zG := zgm (List.mem_append_right _ (List.mem_append_right _ (List.mem_append_left _ (List.mem_of_getElem? (l := tables_1_2) (i := 117) rfl)))) rfl
theorem wd_358 : ((Jvm.Cond.code ({ cls := "EditGuess$Marks", name := "placeIn", desc := "(LEditGuess$Signs;I)I" } : Jvm.MethodName) prog_4_method_6_code (3 : Nat) (Option.some Jvm.ClassFile.FieldType.int)) : Cond) ∈ zG := zgm (List.mem_append_right _ (List.mem_append_right _ (List.mem_append_left _ (List.mem_of_getElem? (l := tables_1_2) (i := 118) rfl)))) rfl
theorem wd_359 : ((Jvm.Cond.methodLink "EditGuess$Marks" (27 : Nat) ({ cls := "EditGuess$Signs", name := "many", desc := "()I" } : Jvm.MethodName)) : Cond) ∈ zG := zgm (List.mem_append_right _ (List.mem_append_right _ (List.mem_append_left _ (List.mem_of_getElem? (l := tables_1_2) (i := 119) rfl)))) rfl
theorem wd_360 : ((Jvm.Cond.methodLink "EditGuess$Marks" (15 : Nat) ({ cls := "EditGuess$Marks", name := "kind", desc := "(I)I" } : Jvm.MethodName)) : Cond) ∈ zG := zgm (List.mem_append_right _ (List.mem_append_right _ (List.mem_append_left _ (List.mem_of_getElem? (l := tables_1_2) (i := 120) rfl)))) rfl
theorem wd_361 : ((Jvm.Cond.static ({ cls := "EditGuess$Marks", name := "kind", desc := "(I)I" } : Jvm.MethodName)) : Cond) ∈ zG := zgm (List.mem_append_right _ (List.mem_append_right _ (List.mem_append_left _ (List.mem_of_getElem? (l := tables_1_2) (i := 121) rfl)))) rfl
theorem wd_362 : ((Jvm.Cond.code ({ cls := "EditGuess$Marks", name := "kind", desc := "(I)I" } : Jvm.MethodName) prog_4_method_7_code (1 : Nat) (Option.some Jvm.ClassFile.FieldType.int)) : Cond) ∈ zG := zgm (List.mem_append_right _ (List.mem_append_right _ (List.mem_append_left _ (List.mem_of_getElem? (l := tables_1_2) (i := 122) rfl)))) rfl
theorem wd_363 : ((Jvm.Cond.methodLink "EditGuess$Marks" (19 : Nat) ({ cls := "EditGuess$Marks", name := "turn", desc := "(I)I" } : Jvm.MethodName)) : Cond) ∈ zG := zgm (List.mem_append_right _ (List.mem_append_right _ (List.mem_append_left _ (List.mem_of_getElem? (l := tables_1_2) (i := 123) rfl)))) rfl
theorem wd_364 : ((Jvm.Cond.static ({ cls := "EditGuess$Marks", name := "turn", desc := "(I)I" } : Jvm.MethodName)) : Cond) ∈ zG := zgm (List.mem_append_right _ (List.mem_append_right _ (List.mem_append_left _ (List.mem_of_getElem? (l := tables_1_2) (i := 124) rfl)))) rfl
theorem wd_365 : ((Jvm.Cond.code ({ cls := "EditGuess$Marks", name := "turn", desc := "(I)I" } : Jvm.MethodName) prog_4_method_8_code (2 : Nat) (Option.some Jvm.ClassFile.FieldType.int)) : Cond) ∈ zG := zgm (List.mem_append_right _ (List.mem_append_right _ (List.mem_append_left _ (List.mem_of_getElem? (l := tables_1_2) (i := 125) rfl)))) rfl
theorem wd_366 : ((Jvm.Cond.methodLink "EditGuess$Marks" (33 : Nat) ({ cls := "EditGuess$Marks", name := "runBegin", desc := "(LEditGuess$Signs;II)I" } : Jvm.MethodName)) : Cond) ∈ zG := zgm (List.mem_append_right _ (List.mem_append_right _ (List.mem_append_left _ (List.mem_of_getElem? (l := tables_1_2) (i := 126) rfl)))) rfl
theorem wd_367 : ((Jvm.Cond.static ({ cls := "EditGuess$Marks", name := "runBegin", desc := "(LEditGuess$Signs;II)I" } : Jvm.MethodName)) : Cond) ∈ zG := zgm (List.mem_append_right _ (List.mem_append_right _ (List.mem_append_left _ (List.mem_of_getElem? (l := tables_1_2) (i := 127) rfl)))) rfl
theorem wd_368 : ((Jvm.Cond.code ({ cls := "EditGuess$Marks", name := "runBegin", desc := "(LEditGuess$Signs;II)I" } : Jvm.MethodName) prog_4_method_9_code (6 : Nat) (Option.some Jvm.ClassFile.FieldType.int)) : Cond) ∈ zG := zgm (List.mem_append_right _ (List.mem_append_right _ (List.mem_append_left _ (List.mem_of_getElem? (l := tables_1_2) (i := 128) rfl)))) rfl
theorem wd_369 : ((Jvm.Cond.methodLink "EditGuess$Marks" (22 : Nat) ({ cls := "java/lang/Math", name := "abs", desc := "(I)I" } : Jvm.MethodName)) : Cond) ∈ zG := zgm (List.mem_append_right _ (List.mem_append_right _ (List.mem_append_left _ (List.mem_of_getElem? (l := tables_1_2) (i := 129) rfl)))) rfl
theorem wd_370 : ((Jvm.Cond.static ({ cls := "java/lang/Math", name := "abs", desc := "(I)I" } : Jvm.MethodName)) : Cond) ∈ zG := zgm (List.mem_append_right _ (List.mem_append_right _ (List.mem_append_left _ (List.mem_of_getElem? (l := tables_1_2) (i := 130) rfl)))) rfl
theorem wd_371 : ((Jvm.Cond.code ({ cls := "java/lang/Math", name := "abs", desc := "(I)I" } : Jvm.MethodName) prog_12_method_59_code (1 : Nat) (Option.some Jvm.ClassFile.FieldType.int)) : Cond) ∈ zG := zgm (List.mem_append_right _ (List.mem_append_right _ (List.mem_append_left _ (List.mem_of_getElem? (l := tables_1_2) (i := 131) rfl)))) rfl
theorem wd_372 : ((Jvm.Cond.methodLink "EditGuess$Marks" (41 : Nat) ({ cls := "EditGuess$Signs", name := "kindAt", desc := "(I)I" } : Jvm.MethodName)) : Cond) ∈ zG := zgm (List.mem_append_right _ (List.mem_append_right _ (List.mem_append_left _ (List.mem_of_getElem? (l := tables_1_2) (i := 132) rfl)))) rfl
theorem wd_373 : ((Jvm.Cond.methodLink "EditGuess$Marks" (37 : Nat) ({ cls := "EditGuess$Marks", name := "runEnd", desc := "(LEditGuess$Signs;I)I" } : Jvm.MethodName)) : Cond) ∈ zG := zgm (List.mem_append_right _ (List.mem_append_right _ (List.mem_append_left _ (List.mem_of_getElem? (l := tables_1_2) (i := 133) rfl)))) rfl
theorem wd_374 : ((Jvm.Cond.static ({ cls := "EditGuess$Marks", name := "runEnd", desc := "(LEditGuess$Signs;I)I" } : Jvm.MethodName)) : Cond) ∈ zG := zgm (List.mem_append_right _ (List.mem_append_right _ (List.mem_append_left _ (List.mem_of_getElem? (l := tables_1_2) (i := 134) rfl)))) rfl
theorem wd_375 : ((Jvm.Cond.code ({ cls := "EditGuess$Marks", name := "runEnd", desc := "(LEditGuess$Signs;I)I" } : Jvm.MethodName) prog_4_method_10_code (3 : Nat) (Option.some Jvm.ClassFile.FieldType.int)) : Cond) ∈ zG := zgm (List.mem_append_right _ (List.mem_append_right _ (List.mem_append_left _ (List.mem_of_getElem? (l := tables_1_2) (i := 135) rfl)))) rfl
theorem wd_376 : ((Jvm.Cond.methodLink "EditGuess$Row" (39 : Nat) ({ cls := "EditGuess$Row", name := "countAlike", desc := "(LEditGuess$Signs;II)I" } : Jvm.MethodName)) : Cond) ∈ zG := zgm (List.mem_append_right _ (List.mem_append_right _ (List.mem_append_left _ (List.mem_of_getElem? (l := tables_1_2) (i := 136) rfl)))) rfl
theorem wd_378 : ((Jvm.Cond.instanceMethod ({ cls := "EditGuess$Row", name := "countAlike", desc := "(LEditGuess$Signs;II)I" } : Jvm.MethodName)) : Cond) ∈ zG := zgm (List.mem_append_right _ (List.mem_append_right _ (List.mem_append_left _ (List.mem_of_getElem? (l := tables_1_2) (i := 138) rfl)))) rfl
theorem wd_379 : ((Jvm.Cond.code ({ cls := "EditGuess$Row", name := "countAlike", desc := "(LEditGuess$Signs;II)I" } : Jvm.MethodName) prog_8_method_3_code (4 : Nat) (Option.some Jvm.ClassFile.FieldType.int)) : Cond) ∈ zG := zgm (List.mem_append_right _ (List.mem_append_right _ (List.mem_append_left _ (List.mem_of_getElem? (l := tables_1_2) (i := 139) rfl)))) rfl
theorem wd_380 : ((Jvm.Cond.methodLink "EditGuess$Row" (43 : Nat) ({ cls := "EditGuess$Signs", name := "many", desc := "()I" } : Jvm.MethodName)) : Cond) ∈ zG := zgm (List.mem_append_right _ (List.mem_append_right _ (List.mem_append_left _ (List.mem_of_getElem? (l := tables_1_2) (i := 140) rfl)))) rfl
theorem wd_381 : ((Jvm.Cond.methodLink "EditGuess$Row" (47 : Nat) ({ cls := "EditGuess$Signs", name := "at", desc := "(I)I" } : Jvm.MethodName)) : Cond) ∈ zG := zgm (List.mem_append_right _ (List.mem_append_right _ (List.mem_append_left _ (List.mem_of_getElem? (l := tables_1_2) (i := 141) rfl)))) rfl
theorem wd_382 : ((Jvm.Cond.methodLink "EditGuess" (176 : Nat) ({ cls := "EditGuess$Fitting", name := "count", desc := "()J" } : Jvm.MethodName)) : Cond) ∈ zG := zgm (List.mem_append_right _ (List.mem_append_right _ (List.mem_append_left _ (List.mem_of_getElem? (l := tables_1_2) (i := 142) rfl)))) rfl
theorem wd_383 : ((Jvm.Cond.instanceMethod ({ cls := "EditGuess$Fitting", name := "count", desc := "()J" } : Jvm.MethodName)) : Cond) ∈ zG := zgm (List.mem_append_right _ (List.mem_append_right _ (List.mem_append_left _ (List.mem_of_getElem? (l := tables_1_2) (i := 143) rfl)))) rfl
theorem wd_384 : ((Jvm.Cond.selects "EditGuess$Fitting" ({ cls := "EditGuess$Fitting", name := "count", desc := "()J" } : Jvm.MethodName) ({ cls := "EditGuess$Fitting", name := "count", desc := "()J" } : Jvm.MethodName)) : Cond) ∈ zG := zgm (List.mem_append_right _ (List.mem_append_right _ (List.mem_append_left _ (List.mem_of_getElem? (l := tables_1_2) (i := 144) rfl)))) rfl
theorem wd_385 : ((Jvm.Cond.code ({ cls := "EditGuess$Fitting", name := "count", desc := "()J" } : Jvm.MethodName) prog_3_method_5_code (4 : Nat) (Option.some Jvm.ClassFile.FieldType.long)) : Cond) ∈ zG := zgm (List.mem_append_right _ (List.mem_append_right _ (List.mem_append_left _ (List.mem_of_getElem? (l := tables_1_2) (i := 145) rfl)))) rfl
theorem wd_386 : ((Jvm.Cond.methodLink "EditGuess$Fitting" (55 : Nat) ({ cls := "EditGuess$Fitting", name := "groupMarks", desc := "()V" } : Jvm.MethodName)) : Cond) ∈ zG := zgm (List.mem_append_right _ (List.mem_append_right _ (List.mem_append_left _ (List.mem_of_getElem? (l := tables_1_2) (i := 146) rfl)))) rfl
theorem wd_388 : ((Jvm.Cond.instanceMethod ({ cls := "EditGuess$Fitting", name := "groupMarks", desc := "()V" } : Jvm.MethodName)) : Cond) ∈ zG := zgm (List.mem_append_right _ (List.mem_append_right _ (List.mem_append_left _ (List.mem_of_getElem? (l := tables_1_2) (i := 148) rfl)))) rfl
theorem wd_389 : ((Jvm.Cond.code ({ cls := "EditGuess$Fitting", name := "groupMarks", desc := "()V" } : Jvm.MethodName) prog_3_method_14_code (2 : Nat) (Option.none : Option Jvm.ClassFile.FieldType)) : Cond) ∈ zG := zgm (List.mem_append_right _ (List.mem_append_right _ (List.mem_append_left _ (List.mem_of_getElem? (l := tables_1_2) (i := 149) rfl)))) rfl
theorem wd_390 : ((Jvm.Cond.methodLink "EditGuess$Fitting" (156 : Nat) ({ cls := "EditGuess$Fitting", name := "isToldInAll", desc := "(I)Z" } : Jvm.MethodName)) : Cond) ∈ zG := zgm (List.mem_append_right _ (List.mem_append_right _ (List.mem_append_left _ (List.mem_of_getElem? (l := tables_1_2) (i := 150) rfl)))) rfl
theorem wd_392 : ((Jvm.Cond.instanceMethod ({ cls := "EditGuess$Fitting", name := "isToldInAll", desc := "(I)Z" } : Jvm.MethodName)) : Cond) ∈ zG := zgm (List.mem_append_right _ (List.mem_append_right _ (List.mem_append_left _ (List.mem_of_getElem? (l := tables_1_2) (i := 152) rfl)))) rfl
theorem wd_393 : ((Jvm.Cond.code ({ cls := "EditGuess$Fitting", name := "isToldInAll", desc := "(I)Z" } : Jvm.MethodName) prog_3_method_16_code (3 : Nat) (Option.some Jvm.ClassFile.FieldType.boolean)) : Cond) ∈ zG := zgm (List.mem_append_right _ (List.mem_append_right _ (List.mem_append_left _ (List.mem_of_getElem? (l := tables_1_2) (i := 153) rfl)))) rfl
theorem wd_394 : ((Jvm.Cond.methodLink "EditGuess$Fitting" (166 : Nat) ({ cls := "EditGuess$Row", name := "placeOf", desc := "(I)I" } : Jvm.MethodName)) : Cond) ∈ zG := zgm (List.mem_append_right _ (List.mem_append_right _ (List.mem_append_left _ (List.mem_of_getElem? (l := tables_1_2) (i := 154) rfl)))) rfl
theorem wd_395 : ((Jvm.Cond.instanceMethod ({ cls := "EditGuess$Row", name := "placeOf", desc := "(I)I" } : Jvm.MethodName)) : Cond) ∈ zG := zgm (List.mem_append_right _ (List.mem_append_right _ (List.mem_append_left _ (List.mem_of_getElem? (l := tables_1_2) (i := 155) rfl)))) rfl
theorem wd_396 : ((Jvm.Cond.selects "EditGuess$Row" ({ cls := "EditGuess$Row", name := "placeOf", desc := "(I)I" } : Jvm.MethodName) ({ cls := "EditGuess$Row", name := "placeOf", desc := "(I)I" } : Jvm.MethodName)) : Cond) ∈ zG := zgm (List.mem_append_right _ (List.mem_append_right _ (List.mem_append_left _ (List.mem_of_getElem? (l := tables_1_2) (i := 156) rfl)))) rfl
theorem wd_397 : ((Jvm.Cond.code ({ cls := "EditGuess$Row", name := "placeOf", desc := "(I)I" } : Jvm.MethodName) prog_8_method_5_code (2 : Nat) (Option.some Jvm.ClassFile.FieldType.int)) : Cond) ∈ zG := zgm (List.mem_append_right _ (List.mem_append_right _ (List.mem_append_left _ (List.mem_of_getElem? (l := tables_1_2) (i := 157) rfl)))) rfl
theorem wd_398 : ((Jvm.Cond.methodLink "EditGuess$Fitting" (159 : Nat) ({ cls := "EditGuess$Fitting", name := "joinGroup", desc := "(I)V" } : Jvm.MethodName)) : Cond) ∈ zG := zgm (List.mem_append_right _ (List.mem_append_right _ (List.mem_append_left _ (List.mem_of_getElem? (l := tables_1_2) (i := 158) rfl)))) rfl
theorem wd_400 : ((Jvm.Cond.instanceMethod ({ cls := "EditGuess$Fitting", name := "joinGroup", desc := "(I)V" } : Jvm.MethodName)) : Cond) ∈ zG := zgm (List.mem_append_right _ (List.mem_append_right _ (List.mem_append_left _ (List.mem_of_getElem? (l := tables_1_2) (i := 160) rfl)))) rfl
theorem wd_401 : ((Jvm.Cond.code ({ cls := "EditGuess$Fitting", name := "joinGroup", desc := "(I)V" } : Jvm.MethodName) prog_3_method_15_code (3 : Nat) (Option.none : Option Jvm.ClassFile.FieldType)) : Cond) ∈ zG := zgm (List.mem_append_right _ (List.mem_append_right _ (List.mem_append_left _ (List.mem_of_getElem? (l := tables_1_2) (i := 161) rfl)))) rfl
theorem wd_402 : ((Jvm.Cond.methodLink "EditGuess$Fitting" (162 : Nat) ({ cls := "EditGuess$Fitting", name := "tellSame", desc := "(II)Z" } : Jvm.MethodName)) : Cond) ∈ zG := zgm (List.mem_append_right _ (List.mem_append_right _ (List.mem_append_left _ (List.mem_of_getElem? (l := tables_1_2) (i := 162) rfl)))) rfl
theorem wd_404 : ((Jvm.Cond.instanceMethod ({ cls := "EditGuess$Fitting", name := "tellSame", desc := "(II)Z" } : Jvm.MethodName)) : Cond) ∈ zG := zgm (List.mem_append_right _ (List.mem_append_right _ (List.mem_append_left _ (List.mem_of_getElem? (l := tables_1_2) (i := 164) rfl)))) rfl
theorem wd_405 : ((Jvm.Cond.code ({ cls := "EditGuess$Fitting", name := "tellSame", desc := "(II)Z" } : Jvm.MethodName) prog_3_method_17_code (4 : Nat) (Option.some Jvm.ClassFile.FieldType.boolean)) : Cond) ∈ zG := zgm (List.mem_append_right _ (List.mem_append_right _ (List.mem_append_left _ (List.mem_of_getElem? (l := tables_1_2) (i := 165) rfl)))) rfl
theorem wd_406 : ((Jvm.Cond.methodLink "EditGuess$Fitting" (110 : Nat) ({ cls := "EditGuess$Marks", name := "price", desc := "(I)I" } : Jvm.MethodName)) : Cond) ∈ zG := zgm (List.mem_append_right _ (List.mem_append_right _ (List.mem_append_left _ (List.mem_of_getElem? (l := tables_1_2) (i := 166) rfl)))) rfl
theorem wd_407 : ((Jvm.Cond.static ({ cls := "EditGuess$Marks", name := "price", desc := "(I)I" } : Jvm.MethodName)) : Cond) ∈ zG := zgm (List.mem_append_right _ (List.mem_append_right _ (List.mem_append_left _ (List.mem_of_getElem? (l := tables_1_2) (i := 167) rfl)))) rfl
theorem wd_408 : ((Jvm.Cond.code ({ cls := "EditGuess$Marks", name := "price", desc := "(I)I" } : Jvm.MethodName) prog_4_method_5_code (1 : Nat) (Option.some Jvm.ClassFile.FieldType.int)) : Cond) ∈ zG := zgm (List.mem_append_right _ (List.mem_append_right _ (List.mem_append_left _ (List.mem_of_getElem? (l := tables_1_2) (i := 168) rfl)))) rfl
theorem wd_409 : ((Jvm.Cond.methodLink "EditGuess$Fitting" (86 : Nat) ({ cls := "java/lang/Math", name := "min", desc := "(II)I" } : Jvm.MethodName)) : Cond) ∈ zG := zgm (List.mem_append_right _ (List.mem_append_right _ (List.mem_append_left _ (List.mem_of_getElem? (l := tables_1_2) (i := 169) rfl)))) rfl
theorem wd_410 : ((Jvm.Cond.static ({ cls := "java/lang/Math", name := "min", desc := "(II)I" } : Jvm.MethodName)) : Cond) ∈ zG := zgm (List.mem_append_right _ (List.mem_append_right _ (List.mem_append_left _ (List.mem_of_getElem? (l := tables_1_2) (i := 170) rfl)))) rfl
theorem wd_411 : ((Jvm.Cond.code ({ cls := "java/lang/Math", name := "min", desc := "(II)I" } : Jvm.MethodName) prog_12_method_69_code (2 : Nat) (Option.some Jvm.ClassFile.FieldType.int)) : Cond) ∈ zG := zgm (List.mem_append_right _ (List.mem_append_right _ (List.mem_append_left _ (List.mem_of_getElem? (l := tables_1_2) (i := 171) rfl)))) rfl
theorem wd_412 : ((Jvm.Cond.methodLink "EditGuess$Fitting" (58 : Nat) ({ cls := "EditGuess$Fitting", name := "lastState", desc := "()I" } : Jvm.MethodName)) : Cond) ∈ zG := zgm (List.mem_append_right _ (List.mem_append_right _ (List.mem_append_left _ (List.mem_of_getElem? (l := tables_1_2) (i := 172) rfl)))) rfl
theorem wd_414 : ((Jvm.Cond.instanceMethod ({ cls := "EditGuess$Fitting", name := "lastState", desc := "()I" } : Jvm.MethodName)) : Cond) ∈ zG := zgm (List.mem_append_right _ (List.mem_append_right _ (List.mem_append_left _ (List.mem_of_getElem? (l := tables_1_2) (i := 174) rfl)))) rfl
theorem wd_415 : ((Jvm.Cond.code ({ cls := "EditGuess$Fitting", name := "lastState", desc := "()I" } : Jvm.MethodName) prog_3_method_24_code (4 : Nat) (Option.some Jvm.ClassFile.FieldType.int)) : Cond) ∈ zG := zgm (List.mem_append_right _ (List.mem_append_right _ (List.mem_append_left _ (List.mem_of_getElem? (l := tables_1_2) (i := 175) rfl)))) rfl
theorem wd_416 : ((Jvm.Cond.methodLink "EditGuess$Fitting" (135 : Nat) ({ cls := "EditGuess$Row", name := "result", desc := "()LEditGuess$Signs;" } : Jvm.MethodName)) : Cond) ∈ zG := zgm (List.mem_append_right _ (List.mem_append_right _ (List.mem_append_left _ (List.mem_of_getElem? (l := tables_1_2) (i := 176) rfl)))) rfl
theorem wd_417 : ((Jvm.Cond.instanceMethod ({ cls := "EditGuess$Row", name := "result", desc := "()LEditGuess$Signs;" } : Jvm.MethodName)) : Cond) ∈ zG := zgm (List.mem_append_right _ (List.mem_append_right _ (List.mem_append_left _ (List.mem_of_getElem? (l := tables_1_2) (i := 177) rfl)))) rfl
theorem wd_418 : ((Jvm.Cond.selects "EditGuess$Row" ({ cls := "EditGuess$Row", name := "result", desc := "()LEditGuess$Signs;" } : Jvm.MethodName) ({ cls := "EditGuess$Row", name := "result", desc := "()LEditGuess$Signs;" } : Jvm.MethodName)) : Cond) ∈ zG := zgm (List.mem_append_right _ (List.mem_append_right _ (List.mem_append_left _ (List.mem_of_getElem? (l := tables_1_2) (i := 178) rfl)))) rfl
theorem wd_419 : ((Jvm.Cond.code ({ cls := "EditGuess$Row", name := "result", desc := "()LEditGuess$Signs;" } : Jvm.MethodName) prog_8_method_4_code (1 : Nat) (Option.some (Jvm.ClassFile.FieldType.object "EditGuess$Signs"))) : Cond) ∈ zG := zgm (List.mem_append_right _ (List.mem_append_right _ (List.mem_append_left _ (List.mem_of_getElem? (l := tables_1_2) (i := 179) rfl)))) rfl
theorem wd_420 : ((Jvm.Cond.methodLink "EditGuess$Fitting" (183 : Nat) ({ cls := "EditGuess$Signs", name := "many", desc := "()I" } : Jvm.MethodName)) : Cond) ∈ zG := zgm (List.mem_append_right _ (List.mem_append_right _ (List.mem_append_left _ (List.mem_of_getElem? (l := tables_1_2) (i := 180) rfl)))) rfl
theorem wd_421 : ((Jvm.Cond.methodLink "EditGuess$Fitting" (62 : Nat) ({ cls := "EditGuess$Fitting", name := "listMoves", desc := "(I)V" } : Jvm.MethodName)) : Cond) ∈ zG := zgm (List.mem_append_right _ (List.mem_append_right _ (List.mem_append_left _ (List.mem_of_getElem? (l := tables_1_2) (i := 181) rfl)))) rfl
theorem wd_423 : ((Jvm.Cond.instanceMethod ({ cls := "EditGuess$Fitting", name := "listMoves", desc := "(I)V" } : Jvm.MethodName)) : Cond) ∈ zG := zgm (List.mem_append_right _ (List.mem_append_right _ (List.mem_append_left _ (List.mem_of_getElem? (l := tables_1_2) (i := 183) rfl)))) rfl
theorem wd_424 : ((Jvm.Cond.code ({ cls := "EditGuess$Fitting", name := "listMoves", desc := "(I)V" } : Jvm.MethodName) prog_3_method_12_code (4 : Nat) (Option.none : Option Jvm.ClassFile.FieldType)) : Cond) ∈ zG := zgm (List.mem_append_right _ (List.mem_append_right _ (List.mem_append_left _ (List.mem_of_getElem? (l := tables_1_2) (i := 184) rfl)))) rfl
theorem wd_425 : ((Jvm.Cond.methodLink "EditGuess$Fitting" (143 : Nat) ({ cls := "EditGuess$Moves", name := "clear", desc := "()V" } : Jvm.MethodName)) : Cond) ∈ zG := zgm (List.mem_append_right _ (List.mem_append_right _ (List.mem_append_left _ (List.mem_of_getElem? (l := tables_1_2) (i := 185) rfl)))) rfl
theorem wd_426 : ((Jvm.Cond.instanceMethod ({ cls := "EditGuess$Moves", name := "clear", desc := "()V" } : Jvm.MethodName)) : Cond) ∈ zG := zgm (List.mem_append_right _ (List.mem_append_right _ (List.mem_append_left _ (List.mem_of_getElem? (l := tables_1_2) (i := 186) rfl)))) rfl
theorem wd_427 : ((Jvm.Cond.selects "EditGuess$Moves" ({ cls := "EditGuess$Moves", name := "clear", desc := "()V" } : Jvm.MethodName) ({ cls := "EditGuess$Moves", name := "clear", desc := "()V" } : Jvm.MethodName)) : Cond) ∈ zG := zgm (List.mem_append_right _ (List.mem_append_right _ (List.mem_append_left _ (List.mem_of_getElem? (l := tables_1_2) (i := 187) rfl)))) rfl
theorem wd_428 : ((Jvm.Cond.code ({ cls := "EditGuess$Moves", name := "clear", desc := "()V" } : Jvm.MethodName) prog_5_method_3_code (1 : Nat) (Option.none : Option Jvm.ClassFile.FieldType)) : Cond) ∈ zG := zgm (List.mem_append_right _ (List.mem_append_right _ (List.mem_append_left _ (List.mem_of_getElem? (l := tables_1_2) (i := 188) rfl)))) rfl
theorem wd_429 : ((Jvm.Cond.methodLink "EditGuess$Fitting" (92 : Nat) ({ cls := "EditGuess$Fitting", name := "reach", desc := "(I)V" } : Jvm.MethodName)) : Cond) ∈ zG := zgm (List.mem_append_right _ (List.mem_append_right _ (List.mem_append_left _ (List.mem_of_getElem? (l := tables_1_2) (i := 189) rfl)))) rfl
theorem wd_431 : ((Jvm.Cond.instanceMethod ({ cls := "EditGuess$Fitting", name := "reach", desc := "(I)V" } : Jvm.MethodName)) : Cond) ∈ zG := zgm (List.mem_append_right _ (List.mem_append_right _ (List.mem_append_left _ (List.mem_of_getElem? (l := tables_1_2) (i := 191) rfl)))) rfl
theorem wd_432 : ((Jvm.Cond.code ({ cls := "EditGuess$Fitting", name := "reach", desc := "(I)V" } : Jvm.MethodName) prog_3_method_18_code (4 : Nat) (Option.none : Option Jvm.ClassFile.FieldType)) : Cond) ∈ zG := zgm (List.mem_append_right _ (List.mem_append_right _ (List.mem_append_left _ (List.mem_of_getElem? (l := tables_1_2) (i := 192) rfl)))) rfl
theorem wd_433 : ((Jvm.Cond.methodLink "EditGuess$Fitting" (102 : Nat) ({ cls := "EditGuess$Fitting", name := "canBegin", desc := "(I)Z" } : Jvm.MethodName)) : Cond) ∈ zG := zgm (List.mem_append_right _ (List.mem_append_right _ (List.mem_append_left _ (List.mem_of_getElem? (l := tables_1_2) (i := 193) rfl)))) rfl
theorem wd_435 : ((Jvm.Cond.instanceMethod ({ cls := "EditGuess$Fitting", name := "canBegin", desc := "(I)Z" } : Jvm.MethodName)) : Cond) ∈ zG := zgm (List.mem_append_right _ (List.mem_append_right _ (List.mem_append_left _ (List.mem_of_getElem? (l := tables_1_2) (i := 195) rfl)))) rfl
theorem wd_436 : ((Jvm.Cond.code ({ cls := "EditGuess$Fitting", name := "canBegin", desc := "(I)Z" } : Jvm.MethodName) prog_3_method_19_code (3 : Nat) (Option.some Jvm.ClassFile.FieldType.boolean)) : Cond) ∈ zG := zgm (List.mem_append_right _ (List.mem_append_right _ (List.mem_append_left _ (List.mem_of_getElem? (l := tables_1_2) (i := 196) rfl)))) rfl
theorem wd_437 : ((Jvm.Cond.methodLink "EditGuess$Fitting" (169 : Nat) ({ cls := "EditGuess$Row", name := "longestFrom", desc := "(II)I" } : Jvm.MethodName)) : Cond) ∈ zG := zgm (List.mem_append_right _ (List.mem_append_right _ (List.mem_append_left _ (List.mem_of_getElem? (l := tables_1_2) (i := 197) rfl)))) rfl
theorem wd_438 : ((Jvm.Cond.instanceMethod ({ cls := "EditGuess$Row", name := "longestFrom", desc := "(II)I" } : Jvm.MethodName)) : Cond) ∈ zG := zgm (List.mem_append_right _ (List.mem_append_right _ (List.mem_append_left _ (List.mem_of_getElem? (l := tables_1_2) (i := 198) rfl)))) rfl
theorem wd_439 : ((Jvm.Cond.selects "EditGuess$Row" ({ cls := "EditGuess$Row", name := "longestFrom", desc := "(II)I" } : Jvm.MethodName) ({ cls := "EditGuess$Row", name := "longestFrom", desc := "(II)I" } : Jvm.MethodName)) : Cond) ∈ zG := zgm (List.mem_append_right _ (List.mem_append_right _ (List.mem_append_left _ (List.mem_of_getElem? (l := tables_1_2) (i := 199) rfl)))) rfl
theorem wd_440 : ((Jvm.Cond.code ({ cls := "EditGuess$Row", name := "longestFrom", desc := "(II)I" } : Jvm.MethodName) prog_8_method_6_code (3 : Nat) (Option.some Jvm.ClassFile.FieldType.int)) : Cond) ∈ zG := zgm (List.mem_append_right _ (List.mem_append_right _ (List.mem_append_left _ (List.mem_of_getElem? (l := tables_1_2) (i := 200) rfl)))) rfl
theorem wd_441 : ((Jvm.Cond.methodLink "EditGuess$Fitting" (149 : Nat) ({ cls := "EditGuess$Fitting", name := "listCuts", desc := "(II)V" } : Jvm.MethodName)) : Cond) ∈ zG := zgm (List.mem_append_right _ (List.mem_append_right _ (List.mem_append_left _ (List.mem_of_getElem? (l := tables_1_2) (i := 201) rfl)))) rfl
theorem wd_443 : ((Jvm.Cond.instanceMethod ({ cls := "EditGuess$Fitting", name := "listCuts", desc := "(II)V" } : Jvm.MethodName)) : Cond) ∈ zG := zgm (List.mem_append_right _ (List.mem_append_right _ (List.mem_append_left _ (List.mem_of_getElem? (l := tables_1_2) (i := 203) rfl)))) rfl
theorem wd_444 : ((Jvm.Cond.code ({ cls := "EditGuess$Fitting", name := "listCuts", desc := "(II)V" } : Jvm.MethodName) prog_3_method_13_code (6 : Nat) (Option.none : Option Jvm.ClassFile.FieldType)) : Cond) ∈ zG := zgm (List.mem_append_right _ (List.mem_append_right _ (List.mem_append_left _ (List.mem_of_getElem? (l := tables_1_2) (i := 204) rfl)))) rfl
theorem wd_445 : ((Jvm.Cond.methodLink "EditGuess$Fitting" (106 : Nat) ({ cls := "EditGuess$Fitting", name := "cutTarget", desc := "(III)I" } : Jvm.MethodName)) : Cond) ∈ zG := zgm (List.mem_append_right _ (List.mem_append_right _ (List.mem_append_left _ (List.mem_of_getElem? (l := tables_1_2) (i := 205) rfl)))) rfl
theorem wd_447 : ((Jvm.Cond.instanceMethod ({ cls := "EditGuess$Fitting", name := "cutTarget", desc := "(III)I" } : Jvm.MethodName)) : Cond) ∈ zG := zgm (List.mem_append_right _ (List.mem_append_right _ (List.mem_append_left _ (List.mem_of_getElem? (l := tables_1_2) (i := 207) rfl)))) rfl
theorem wd_448 : ((Jvm.Cond.code ({ cls := "EditGuess$Fitting", name := "cutTarget", desc := "(III)I" } : Jvm.MethodName) prog_3_method_20_code (8 : Nat) (Option.some Jvm.ClassFile.FieldType.int)) : Cond) ∈ zG := zgm (List.mem_append_right _ (List.mem_append_right _ (List.mem_append_left _ (List.mem_of_getElem? (l := tables_1_2) (i := 208) rfl)))) rfl
theorem wd_449 : ((Jvm.Cond.methodLink "EditGuess$Fitting" (172 : Nat) ({ cls := "EditGuess$Row", name := "cutLength", desc := "(III)I" } : Jvm.MethodName)) : Cond) ∈ zG := zgm (List.mem_append_right _ (List.mem_append_right _ (List.mem_append_left _ (List.mem_of_getElem? (l := tables_1_2) (i := 209) rfl)))) rfl
theorem wd_450 : ((Jvm.Cond.instanceMethod ({ cls := "EditGuess$Row", name := "cutLength", desc := "(III)I" } : Jvm.MethodName)) : Cond) ∈ zG := zgm (List.mem_append_right _ (List.mem_append_right _ (List.mem_append_left _ (List.mem_of_getElem? (l := tables_1_2) (i := 210) rfl)))) rfl
theorem wd_451 : ((Jvm.Cond.selects "EditGuess$Row" ({ cls := "EditGuess$Row", name := "cutLength", desc := "(III)I" } : Jvm.MethodName) ({ cls := "EditGuess$Row", name := "cutLength", desc := "(III)I" } : Jvm.MethodName)) : Cond) ∈ zG := zgm (List.mem_append_right _ (List.mem_append_right _ (List.mem_append_left _ (List.mem_of_getElem? (l := tables_1_2) (i := 211) rfl)))) rfl
theorem wd_452 : ((Jvm.Cond.code ({ cls := "EditGuess$Row", name := "cutLength", desc := "(III)I" } : Jvm.MethodName) prog_8_method_7_code (6 : Nat) (Option.some Jvm.ClassFile.FieldType.int)) : Cond) ∈ zG := zgm (List.mem_append_right _ (List.mem_append_right _ (List.mem_append_left _ (List.mem_of_getElem? (l := tables_1_2) (i := 212) rfl)))) rfl
theorem wd_453 : ((Jvm.Cond.methodLink "EditGuess$Row" (51 : Nat) ({ cls := "EditGuess$Row", name := "placeOf", desc := "(I)I" } : Jvm.MethodName)) : Cond) ∈ zG := zgm (List.mem_append_right _ (List.mem_append_right _ (List.mem_append_left _ (List.mem_of_getElem? (l := tables_1_2) (i := 213) rfl)))) rfl
theorem wd_454 : ((Jvm.Cond.methodLink "EditGuess$Row" (54 : Nat) ({ cls := "EditGuess$Row", name := "longestFrom", desc := "(II)I" } : Jvm.MethodName)) : Cond) ∈ zG := zgm (List.mem_append_right _ (List.mem_append_right _ (List.mem_append_left _ (List.mem_of_getElem? (l := tables_1_2) (i := 214) rfl)))) rfl
theorem wd_455 : ((Jvm.Cond.methodLink "EditGuess$Fitting" (111 : Nat) ({ cls := "EditGuess$Piece", name := "cutPrice", desc := "(II)I" } : Jvm.MethodName)) : Cond) ∈ zG := zgm (List.mem_append_right _ (List.mem_append_right _ (List.mem_append_left _ (List.mem_of_getElem? (l := tables_1_2) (i := 215) rfl)))) rfl
theorem wd_456 : ((Jvm.Cond.static ({ cls := "EditGuess$Piece", name := "cutPrice", desc := "(II)I" } : Jvm.MethodName)) : Cond) ∈ zG := zgm (List.mem_append_right _ (List.mem_append_right _ (List.mem_append_left _ (List.mem_of_getElem? (l := tables_1_2) (i := 216) rfl)))) rfl
theorem wd_457 : ((Jvm.Cond.code ({ cls := "EditGuess$Piece", name := "cutPrice", desc := "(II)I" } : Jvm.MethodName) prog_6_method_6_code (2 : Nat) (Option.some Jvm.ClassFile.FieldType.int)) : Cond) ∈ zG := zgm (List.mem_append_right _ (List.mem_append_right _ (List.mem_append_left _ (List.mem_of_getElem? (l := tables_1_2) (i := 217) rfl)))) rfl
theorem wd_458 : ((Jvm.Cond.methodLink "EditGuess$Fitting" (152 : Nat) ({ cls := "EditGuess$Moves", name := "add", desc := "(III)V" } : Jvm.MethodName)) : Cond) ∈ zG := zgm (List.mem_append_right _ (List.mem_append_right _ (List.mem_append_left _ (List.mem_of_getElem? (l := tables_1_2) (i := 218) rfl)))) rfl
theorem wd_459 : ((Jvm.Cond.instanceMethod ({ cls := "EditGuess$Moves", name := "add", desc := "(III)V" } : Jvm.MethodName)) : Cond) ∈ zG := zgm (List.mem_append_right _ (List.mem_append_right _ (List.mem_append_left _ (List.mem_of_getElem? (l := tables_1_2) (i := 219) rfl)))) rfl
theorem wd_460 : ((Jvm.Cond.selects "EditGuess$Moves" ({ cls := "EditGuess$Moves", name := "add", desc := "(III)V" } : Jvm.MethodName) ({ cls := "EditGuess$Moves", name := "add", desc := "(III)V" } : Jvm.MethodName)) : Cond) ∈ zG := zgm (List.mem_append_right _ (List.mem_append_right _ (List.mem_append_left _ (List.mem_of_getElem? (l := tables_1_2) (i := 220) rfl)))) rfl
theorem wd_461 : ((Jvm.Cond.code ({ cls := "EditGuess$Moves", name := "add", desc := "(III)V" } : Jvm.MethodName) prog_5_method_4_code (4 : Nat) (Option.none : Option Jvm.ClassFile.FieldType)) : Cond) ∈ zG := zgm (List.mem_append_right _ (List.mem_append_right _ (List.mem_append_left _ (List.mem_of_getElem? (l := tables_1_2) (i := 221) rfl)))) rfl
theorem wd_462 : ((Jvm.Cond.methodLink "EditGuess$Fitting" (126 : Nat) ({ cls := "EditGuess$Fitting", name := "longestText", desc := "()I" } : Jvm.MethodName)) : Cond) ∈ zG := zgm (List.mem_append_right _ (List.mem_append_right _ (List.mem_append_left _ (List.mem_of_getElem? (l := tables_1_2) (i := 222) rfl)))) rfl
theorem wd_464 : ((Jvm.Cond.instanceMethod ({ cls := "EditGuess$Fitting", name := "longestText", desc := "()I" } : Jvm.MethodName)) : Cond) ∈ zG := zgm (List.mem_append_right _ (List.mem_append_right _ (List.mem_append_left _ (List.mem_of_getElem? (l := tables_1_2) (i := 224) rfl)))) rfl
theorem wd_465 : ((Jvm.Cond.code ({ cls := "EditGuess$Fitting", name := "longestText", desc := "()I" } : Jvm.MethodName) prog_3_method_22_code (2 : Nat) (Option.some Jvm.ClassFile.FieldType.int)) : Cond) ∈ zG := zgm (List.mem_append_right _ (List.mem_append_right _ (List.mem_append_left _ (List.mem_of_getElem? (l := tables_1_2) (i := 225) rfl)))) rfl
theorem wd_466 : ((Jvm.Cond.methodLink "EditGuess$Fitting" (175 : Nat) ({ cls := "EditGuess$Fitting", name := "isNextInAll", desc := "(I)Z" } : Jvm.MethodName)) : Cond) ∈ zG := zgm (List.mem_append_right _ (List.mem_append_right _ (List.mem_append_left _ (List.mem_of_getElem? (l := tables_1_2) (i := 226) rfl)))) rfl
theorem wd_468 : ((Jvm.Cond.instanceMethod ({ cls := "EditGuess$Fitting", name := "isNextInAll", desc := "(I)Z" } : Jvm.MethodName)) : Cond) ∈ zG := zgm (List.mem_append_right _ (List.mem_append_right _ (List.mem_append_left _ (List.mem_of_getElem? (l := tables_1_2) (i := 228) rfl)))) rfl
theorem wd_469 : ((Jvm.Cond.code ({ cls := "EditGuess$Fitting", name := "isNextInAll", desc := "(I)Z" } : Jvm.MethodName) prog_3_method_23_code (4 : Nat) (Option.some Jvm.ClassFile.FieldType.boolean)) : Cond) ∈ zG := zgm (List.mem_append_right _ (List.mem_append_right _ (List.mem_append_left _ (List.mem_of_getElem? (l := tables_1_2) (i := 229) rfl)))) rfl
theorem wd_470 : ((Jvm.Cond.methodLink "EditGuess$Fitting" (178 : Nat) ({ cls := "EditGuess$Signs", name := "at", desc := "(I)I" } : Jvm.MethodName)) : Cond) ∈ zG := zgm (List.mem_append_right _ (List.mem_append_right _ (List.mem_append_left _ (List.mem_of_getElem? (l := tables_1_2) (i := 230) rfl)))) rfl
theorem wd_471 : ((Jvm.Cond.methodLink "EditGuess$Fitting" (129 : Nat) ({ cls := "EditGuess$Fitting", name := "textTarget", desc := "(II)I" } : Jvm.MethodName)) : Cond) ∈ zG := zgm (List.mem_append_right _ (List.mem_append_right _ (List.mem_append_left _ (List.mem_of_getElem? (l := tables_1_2) (i := 231) rfl)))) rfl
theorem wd_473 : ((Jvm.Cond.instanceMethod ({ cls := "EditGuess$Fitting", name := "textTarget", desc := "(II)I" } : Jvm.MethodName)) : Cond) ∈ zG := zgm (List.mem_append_right _ (List.mem_append_right _ (List.mem_append_left _ (List.mem_of_getElem? (l := tables_1_2) (i := 233) rfl)))) rfl
theorem wd_474 : ((Jvm.Cond.code ({ cls := "EditGuess$Fitting", name := "textTarget", desc := "(II)I" } : Jvm.MethodName) prog_3_method_21_code (6 : Nat) (Option.some Jvm.ClassFile.FieldType.int)) : Cond) ∈ zG := zgm (List.mem_append_right _ (List.mem_append_right _ (List.mem_append_left _ (List.mem_of_getElem? (l := tables_1_2) (i := 234) rfl)))) rfl
theorem wd_475 : ((Jvm.Cond.methodLink "EditGuess$Fitting" (132 : Nat) ({ cls := "EditGuess$Piece", name := "textPrice", desc := "(I)I" } : Jvm.MethodName)) : Cond) ∈ zG := zgm (List.mem_append_right _ (List.mem_append_right _ (List.mem_append_left _ (List.mem_of_getElem? (l := tables_1_2) (i := 235) rfl)))) rfl
theorem wd_476 : ((Jvm.Cond.static ({ cls := "EditGuess$Piece", name := "textPrice", desc := "(I)I" } : Jvm.MethodName)) : Cond) ∈ zG := zgm (List.mem_append_right _ (List.mem_append_right _ (List.mem_append_left _ (List.mem_of_getElem? (l := tables_1_2) (i := 236) rfl)))) rfl
theorem wd_477 : ((Jvm.Cond.code ({ cls := "EditGuess$Piece", name := "textPrice", desc := "(I)I" } : Jvm.MethodName) prog_6_method_5_code (1 : Nat) (Option.some Jvm.ClassFile.FieldType.int)) : Cond) ∈ zG := zgm (List.mem_append_right _ (List.mem_append_right _ (List.mem_append_left _ (List.mem_of_getElem? (l := tables_1_2) (i := 237) rfl)))) rfl
theorem wd_478 : ((Jvm.Cond.methodLink "EditGuess$Fitting" (66 : Nat) ({ cls := "EditGuess$Moves", name := "many", desc := "()I" } : Jvm.MethodName)) : Cond) ∈ zG := zgm (List.mem_append_right _ (List.mem_append_right _ (List.mem_append_left _ (List.mem_of_getElem? (l := tables_1_2) (i := 238) rfl)))) rfl
theorem wd_479 : ((Jvm.Cond.instanceMethod ({ cls := "EditGuess$Moves", name := "many", desc := "()I" } : Jvm.MethodName)) : Cond) ∈ zG := zgm (List.mem_append_right _ (List.mem_append_right _ (List.mem_append_left _ (List.mem_of_getElem? (l := tables_1_2) (i := 239) rfl)))) rfl
theorem wd_480 : ((Jvm.Cond.selects "EditGuess$Moves" ({ cls := "EditGuess$Moves", name := "many", desc := "()I" } : Jvm.MethodName) ({ cls := "EditGuess$Moves", name := "many", desc := "()I" } : Jvm.MethodName)) : Cond) ∈ zG := zgm (List.mem_append_right _ (List.mem_append_right _ (List.mem_append_right _ (List.mem_append_left _ (List.mem_of_getElem? (l := tables_1_3) (i := 0) rfl))))) rfl
theorem wd_481 : ((Jvm.Cond.code ({ cls := "EditGuess$Moves", name := "many", desc := "()I" } : Jvm.MethodName) prog_5_method_2_code (1 : Nat) (Option.some Jvm.ClassFile.FieldType.int)) : Cond) ∈ zG := zgm (List.mem_append_right _ (List.mem_append_right _ (List.mem_append_right _ (List.mem_append_left _ (List.mem_of_getElem? (l := tables_1_3) (i := 1) rfl))))) rfl
theorem wd_482 : ((Jvm.Cond.methodLink "EditGuess$Fitting" (68 : Nat) ({ cls := "EditGuess$Moves", name := "target", desc := "(I)I" } : Jvm.MethodName)) : Cond) ∈ zG := zgm (List.mem_append_right _ (List.mem_append_right _ (List.mem_append_right _ (List.mem_append_left _ (List.mem_of_getElem? (l := tables_1_3) (i := 2) rfl))))) rfl
theorem wd_483 : ((Jvm.Cond.instanceMethod ({ cls := "EditGuess$Moves", name := "target", desc := "(I)I" } : Jvm.MethodName)) : Cond) ∈ zG := zgm (List.mem_append_right _ (List.mem_append_right _ (List.mem_append_right _ (List.mem_append_left _ (List.mem_of_getElem? (l := tables_1_3) (i := 3) rfl))))) rfl
theorem wd_484 : ((Jvm.Cond.selects "EditGuess$Moves" ({ cls := "EditGuess$Moves", name := "target", desc := "(I)I" } : Jvm.MethodName) ({ cls := "EditGuess$Moves", name := "target", desc := "(I)I" } : Jvm.MethodName)) : Cond) ∈ zG := zgm (List.mem_append_right _ (List.mem_append_right _ (List.mem_append_right _ (List.mem_append_left _ (List.mem_of_getElem? (l := tables_1_3) (i := 4) rfl))))) rfl
theorem wd_485 : ((Jvm.Cond.code ({ cls := "EditGuess$Moves", name := "target", desc := "(I)I" } : Jvm.MethodName) prog_5_method_5_code (2 : Nat) (Option.some Jvm.ClassFile.FieldType.int)) : Cond) ∈ zG := zgm (List.mem_append_right _ (List.mem_append_right _ (List.mem_append_right _ (List.mem_append_left _ (List.mem_of_getElem? (l := tables_1_3) (i := 5) rfl))))) rfl
theorem wd_486 : ((Jvm.Cond.methodLink "EditGuess$Fitting" (72 : Nat) ({ cls := "EditGuess$Moves", name := "pieces", desc := "(I)I" } : Jvm.MethodName)) : Cond) ∈ zG := zgm (List.mem_append_right _ (List.mem_append_right _ (List.mem_append_right _ (List.mem_append_left _ (List.mem_of_getElem? (l := tables_1_3) (i := 6) rfl))))) rfl
theorem wd_487 : ((Jvm.Cond.instanceMethod ({ cls := "EditGuess$Moves", name := "pieces", desc := "(I)I" } : Jvm.MethodName)) : Cond) ∈ zG := zgm (List.mem_append_right _ (List.mem_append_right _ (List.mem_append_right _ (List.mem_append_left _ (List.mem_of_getElem? (l := tables_1_3) (i := 7) rfl))))) rfl
theorem wd_488 : ((Jvm.Cond.selects "EditGuess$Moves" ({ cls := "EditGuess$Moves", name := "pieces", desc := "(I)I" } : Jvm.MethodName) ({ cls := "EditGuess$Moves", name := "pieces", desc := "(I)I" } : Jvm.MethodName)) : Cond) ∈ zG := zgm (List.mem_append_right _ (List.mem_append_right _ (List.mem_append_right _ (List.mem_append_left _ (List.mem_of_getElem? (l := tables_1_3) (i := 8) rfl))))) rfl
theorem wd_489 : ((Jvm.Cond.code ({ cls := "EditGuess$Moves", name := "pieces", desc := "(I)I" } : Jvm.MethodName) prog_5_method_6_code (2 : Nat) (Option.some Jvm.ClassFile.FieldType.int)) : Cond) ∈ zG := zgm (List.mem_append_right _ (List.mem_append_right _ (List.mem_append_right _ (List.mem_append_left _ (List.mem_of_getElem? (l := tables_1_3) (i := 9) rfl))))) rfl
theorem wd_490 : ((Jvm.Cond.methodLink "EditGuess$Fitting" (75 : Nat) ({ cls := "EditGuess$Fitting", name := "addWays", desc := "(IJ)V" } : Jvm.MethodName)) : Cond) ∈ zG := zgm (List.mem_append_right _ (List.mem_append_right _ (List.mem_append_right _ (List.mem_append_left _ (List.mem_of_getElem? (l := tables_1_3) (i := 10) rfl))))) rfl
theorem wd_492 : ((Jvm.Cond.instanceMethod ({ cls := "EditGuess$Fitting", name := "addWays", desc := "(IJ)V" } : Jvm.MethodName)) : Cond) ∈ zG := zgm (List.mem_append_right _ (List.mem_append_right _ (List.mem_append_right _ (List.mem_append_left _ (List.mem_of_getElem? (l := tables_1_3) (i := 12) rfl))))) rfl
theorem wd_493 : ((Jvm.Cond.code ({ cls := "EditGuess$Fitting", name := "addWays", desc := "(IJ)V" } : Jvm.MethodName) prog_3_method_6_code (4 : Nat) (Option.none : Option Jvm.ClassFile.FieldType)) : Cond) ∈ zG := zgm (List.mem_append_right _ (List.mem_append_right _ (List.mem_append_right _ (List.mem_append_left _ (List.mem_of_getElem? (l := tables_1_3) (i := 13) rfl))))) rfl
theorem wd_494 : ((Jvm.Cond.methodLink "EditGuess" (180 : Nat) ({ cls := "EditGuess$Plan", name := "clear", desc := "()V" } : Jvm.MethodName)) : Cond) ∈ zG := zgm (List.mem_append_right _ (List.mem_append_right _ (List.mem_append_right _ (List.mem_append_left _ (List.mem_of_getElem? (l := tables_1_3) (i := 14) rfl))))) rfl
theorem wd_495 : ((Jvm.Cond.instanceMethod ({ cls := "EditGuess$Plan", name := "clear", desc := "()V" } : Jvm.MethodName)) : Cond) ∈ zG := zgm (List.mem_append_right _ (List.mem_append_right _ (List.mem_append_right _ (List.mem_append_left _ (List.mem_of_getElem? (l := tables_1_3) (i := 15) rfl))))) rfl
theorem wd_496 : ((Jvm.Cond.selects "EditGuess$Plan" ({ cls := "EditGuess$Plan", name := "clear", desc := "()V" } : Jvm.MethodName) ({ cls := "EditGuess$Plan", name := "clear", desc := "()V" } : Jvm.MethodName)) : Cond) ∈ zG := zgm (List.mem_append_right _ (List.mem_append_right _ (List.mem_append_right _ (List.mem_append_left _ (List.mem_of_getElem? (l := tables_1_3) (i := 16) rfl))))) rfl
theorem wd_497 : ((Jvm.Cond.code ({ cls := "EditGuess$Plan", name := "clear", desc := "()V" } : Jvm.MethodName) prog_7_method_3_code (1 : Nat) (Option.none : Option Jvm.ClassFile.FieldType)) : Cond) ∈ zG := zgm (List.mem_append_right _ (List.mem_append_right _ (List.mem_append_right _ (List.mem_append_left _ (List.mem_of_getElem? (l := tables_1_3) (i := 17) rfl))))) rfl
theorem wd_498 : ((Jvm.Cond.methodLink "EditGuess" (181 : Nat) ({ cls := "EditGuess$Fitting", name := "weigh", desc := "()V" } : Jvm.MethodName)) : Cond) ∈ zG := zgm (List.mem_append_right _ (List.mem_append_right _ (List.mem_append_right _ (List.mem_append_left _ (List.mem_of_getElem? (l := tables_1_3) (i := 18) rfl))))) rfl
theorem wd_499 : ((Jvm.Cond.instanceMethod ({ cls := "EditGuess$Fitting", name := "weigh", desc := "()V" } : Jvm.MethodName)) : Cond) ∈ zG := zgm (List.mem_append_right _ (List.mem_append_right _ (List.mem_append_right _ (List.mem_append_left _ (List.mem_of_getElem? (l := tables_1_3) (i := 19) rfl))))) rfl
theorem wd_500 : ((Jvm.Cond.selects "EditGuess$Fitting" ({ cls := "EditGuess$Fitting", name := "weigh", desc := "()V" } : Jvm.MethodName) ({ cls := "EditGuess$Fitting", name := "weigh", desc := "()V" } : Jvm.MethodName)) : Cond) ∈ zG := zgm (List.mem_append_right _ (List.mem_append_right _ (List.mem_append_right _ (List.mem_append_left _ (List.mem_of_getElem? (l := tables_1_3) (i := 20) rfl))))) rfl
theorem wd_501 : ((Jvm.Cond.code ({ cls := "EditGuess$Fitting", name := "weigh", desc := "()V" } : Jvm.MethodName) prog_3_method_7_code (5 : Nat) (Option.none : Option Jvm.ClassFile.FieldType)) : Cond) ∈ zG := zgm (List.mem_append_right _ (List.mem_append_right _ (List.mem_append_right _ (List.mem_append_left _ (List.mem_of_getElem? (l := tables_1_3) (i := 21) rfl))))) rfl
theorem wd_502 : ((Jvm.Cond.constant "EditGuess$Fitting" (79 : Nat) (1000000 : Int32)) : Cond) ∈ zG := zgm (List.mem_append_right _ (List.mem_append_right _ (List.mem_append_right _ (List.mem_append_left _ (List.mem_of_getElem? (l := tables_1_3) (i := 22) rfl))))) rfl
theorem wd_503 : ((Jvm.Cond.methodLink "EditGuess$Fitting" (80 : Nat) ({ cls := "EditGuess$Moves", name := "price", desc := "(I)I" } : Jvm.MethodName)) : Cond) ∈ zG := zgm (List.mem_append_right _ (List.mem_append_right _ (List.mem_append_right _ (List.mem_append_left _ (List.mem_of_getElem? (l := tables_1_3) (i := 23) rfl))))) rfl
theorem wd_504 : ((Jvm.Cond.instanceMethod ({ cls := "EditGuess$Moves", name := "price", desc := "(I)I" } : Jvm.MethodName)) : Cond) ∈ zG := zgm (List.mem_append_right _ (List.mem_append_right _ (List.mem_append_right _ (List.mem_append_left _ (List.mem_of_getElem? (l := tables_1_3) (i := 24) rfl))))) rfl
theorem wd_505 : ((Jvm.Cond.selects "EditGuess$Moves" ({ cls := "EditGuess$Moves", name := "price", desc := "(I)I" } : Jvm.MethodName) ({ cls := "EditGuess$Moves", name := "price", desc := "(I)I" } : Jvm.MethodName)) : Cond) ∈ zG := zgm (List.mem_append_right _ (List.mem_append_right _ (List.mem_append_right _ (List.mem_append_left _ (List.mem_of_getElem? (l := tables_1_3) (i := 25) rfl))))) rfl
theorem wd_506 : ((Jvm.Cond.code ({ cls := "EditGuess$Moves", name := "price", desc := "(I)I" } : Jvm.MethodName) prog_5_method_7_code (2 : Nat) (Option.some Jvm.ClassFile.FieldType.int)) : Cond) ∈ zG := zgm (List.mem_append_right _ (List.mem_append_right _ (List.mem_append_right _ (List.mem_append_left _ (List.mem_of_getElem? (l := tables_1_3) (i := 26) rfl))))) rfl
theorem wd_507 : ((Jvm.Cond.methodLink "EditGuess$Fitting" (83 : Nat) ({ cls := "EditGuess$Fitting", name := "leastFrom", desc := "(I)I" } : Jvm.MethodName)) : Cond) ∈ zG := zgm (List.mem_append_right _ (List.mem_append_right _ (List.mem_append_right _ (List.mem_append_left _ (List.mem_of_getElem? (l := tables_1_3) (i := 27) rfl))))) rfl
theorem wd_509 : ((Jvm.Cond.instanceMethod ({ cls := "EditGuess$Fitting", name := "leastFrom", desc := "(I)I" } : Jvm.MethodName)) : Cond) ∈ zG := zgm (List.mem_append_right _ (List.mem_append_right _ (List.mem_append_right _ (List.mem_append_left _ (List.mem_of_getElem? (l := tables_1_3) (i := 29) rfl))))) rfl
theorem wd_510 : ((Jvm.Cond.code ({ cls := "EditGuess$Fitting", name := "leastFrom", desc := "(I)I" } : Jvm.MethodName) prog_3_method_8_code (2 : Nat) (Option.some Jvm.ClassFile.FieldType.int)) : Cond) ∈ zG := zgm (List.mem_append_right _ (List.mem_append_right _ (List.mem_append_right _ (List.mem_append_left _ (List.mem_of_getElem? (l := tables_1_3) (i := 30) rfl))))) rfl
theorem wd_511 : ((Jvm.Cond.methodLink "EditGuess" (184 : Nat) ({ cls := "EditGuess$Fitting", name := "tell", desc := "(LEditGuess$Plan;)V" } : Jvm.MethodName)) : Cond) ∈ zG := zgm (List.mem_append_right _ (List.mem_append_right _ (List.mem_append_right _ (List.mem_append_left _ (List.mem_of_getElem? (l := tables_1_3) (i := 31) rfl))))) rfl
theorem wd_512 : ((Jvm.Cond.instanceMethod ({ cls := "EditGuess$Fitting", name := "tell", desc := "(LEditGuess$Plan;)V" } : Jvm.MethodName)) : Cond) ∈ zG := zgm (List.mem_append_right _ (List.mem_append_right _ (List.mem_append_right _ (List.mem_append_left _ (List.mem_of_getElem? (l := tables_1_3) (i := 32) rfl))))) rfl
theorem wd_513 : ((Jvm.Cond.selects "EditGuess$Fitting" ({ cls := "EditGuess$Fitting", name := "tell", desc := "(LEditGuess$Plan;)V" } : Jvm.MethodName) ({ cls := "EditGuess$Fitting", name := "tell", desc := "(LEditGuess$Plan;)V" } : Jvm.MethodName)) : Cond) ∈ zG := zgm (List.mem_append_right _ (List.mem_append_right _ (List.mem_append_right _ (List.mem_append_left _ (List.mem_of_getElem? (l := tables_1_3) (i := 33) rfl))))) rfl
theorem wd_514 : ((Jvm.Cond.code ({ cls := "EditGuess$Fitting", name := "tell", desc := "(LEditGuess$Plan;)V" } : Jvm.MethodName) prog_3_method_9_code (6 : Nat) (Option.none : Option Jvm.ClassFile.FieldType)) : Cond) ∈ zG := zgm (List.mem_append_right _ (List.mem_append_right _ (List.mem_append_right _ (List.mem_append_left _ (List.mem_of_getElem? (l := tables_1_3) (i := 34) rfl))))) rfl
theorem wd_515 : ((Jvm.Cond.methodLink "EditGuess$Fitting" (95 : Nat) ({ cls := "EditGuess$Fitting", name := "tellCut", desc := "(ILEditGuess$Plan;)I" } : Jvm.MethodName)) : Cond) ∈ zG := zgm (List.mem_append_right _ (List.mem_append_right _ (List.mem_append_right _ (List.mem_append_left _ (List.mem_of_getElem? (l := tables_1_3) (i := 35) rfl))))) rfl
theorem wd_517 : ((Jvm.Cond.instanceMethod ({ cls := "EditGuess$Fitting", name := "tellCut", desc := "(ILEditGuess$Plan;)I" } : Jvm.MethodName)) : Cond) ∈ zG := zgm (List.mem_append_right _ (List.mem_append_right _ (List.mem_append_right _ (List.mem_append_left _ (List.mem_of_getElem? (l := tables_1_3) (i := 37) rfl))))) rfl
theorem wd_518 : ((Jvm.Cond.code ({ cls := "EditGuess$Fitting", name := "tellCut", desc := "(ILEditGuess$Plan;)I" } : Jvm.MethodName) prog_3_method_10_code (8 : Nat) (Option.some Jvm.ClassFile.FieldType.int)) : Cond) ∈ zG := zgm (List.mem_append_right _ (List.mem_append_right _ (List.mem_append_right _ (List.mem_append_left _ (List.mem_of_getElem? (l := tables_1_3) (i := 38) rfl))))) rfl
theorem wd_519 : ((Jvm.Cond.methodLink "EditGuess$Fitting" (116 : Nat) ({ cls := "EditGuess$Plan", name := "next", desc := "()LEditGuess$Piece;" } : Jvm.MethodName)) : Cond) ∈ zG := zgm (List.mem_append_right _ (List.mem_append_right _ (List.mem_append_right _ (List.mem_append_left _ (List.mem_of_getElem? (l := tables_1_3) (i := 39) rfl))))) rfl
theorem wd_520 : ((Jvm.Cond.instanceMethod ({ cls := "EditGuess$Plan", name := "next", desc := "()LEditGuess$Piece;" } : Jvm.MethodName)) : Cond) ∈ zG := zgm (List.mem_append_right _ (List.mem_append_right _ (List.mem_append_right _ (List.mem_append_left _ (List.mem_of_getElem? (l := tables_1_3) (i := 40) rfl))))) rfl
theorem wd_521 : ((Jvm.Cond.selects "EditGuess$Plan" ({ cls := "EditGuess$Plan", name := "next", desc := "()LEditGuess$Piece;" } : Jvm.MethodName) ({ cls := "EditGuess$Plan", name := "next", desc := "()LEditGuess$Piece;" } : Jvm.MethodName)) : Cond) ∈ zG := zgm (List.mem_append_right _ (List.mem_append_right _ (List.mem_append_right _ (List.mem_append_left _ (List.mem_of_getElem? (l := tables_1_3) (i := 41) rfl))))) rfl
theorem wd_522 : ((Jvm.Cond.code ({ cls := "EditGuess$Plan", name := "next", desc := "()LEditGuess$Piece;" } : Jvm.MethodName) prog_7_method_5_code (2 : Nat) (Option.some (Jvm.ClassFile.FieldType.object "EditGuess$Piece"))) : Cond) ∈ zG := zgm (List.mem_append_right _ (List.mem_append_right _ (List.mem_append_right _ (List.mem_append_left _ (List.mem_of_getElem? (l := tables_1_3) (i := 42) rfl))))) rfl
theorem wd_523 : ((Jvm.Cond.methodLink "EditGuess$Plan" (22 : Nat) ({ cls := "EditGuess$Plan", name := "at", desc := "(I)LEditGuess$Piece;" } : Jvm.MethodName)) : Cond) ∈ zG := zgm (List.mem_append_right _ (List.mem_append_right _ (List.mem_append_right _ (List.mem_append_left _ (List.mem_of_getElem? (l := tables_1_3) (i := 43) rfl))))) rfl
theorem wd_524 : ((Jvm.Cond.instanceMethod ({ cls := "EditGuess$Plan", name := "at", desc := "(I)LEditGuess$Piece;" } : Jvm.MethodName)) : Cond) ∈ zG := zgm (List.mem_append_right _ (List.mem_append_right _ (List.mem_append_right _ (List.mem_append_left _ (List.mem_of_getElem? (l := tables_1_3) (i := 44) rfl))))) rfl
theorem wd_525 : ((Jvm.Cond.selects "EditGuess$Plan" ({ cls := "EditGuess$Plan", name := "at", desc := "(I)LEditGuess$Piece;" } : Jvm.MethodName) ({ cls := "EditGuess$Plan", name := "at", desc := "(I)LEditGuess$Piece;" } : Jvm.MethodName)) : Cond) ∈ zG := zgm (List.mem_append_right _ (List.mem_append_right _ (List.mem_append_right _ (List.mem_append_left _ (List.mem_of_getElem? (l := tables_1_3) (i := 45) rfl))))) rfl
theorem wd_526 : ((Jvm.Cond.code ({ cls := "EditGuess$Plan", name := "at", desc := "(I)LEditGuess$Piece;" } : Jvm.MethodName) prog_7_method_4_code (2 : Nat) (Option.some (Jvm.ClassFile.FieldType.object "EditGuess$Piece"))) : Cond) ∈ zG := zgm (List.mem_append_right _ (List.mem_append_right _ (List.mem_append_right _ (List.mem_append_left _ (List.mem_of_getElem? (l := tables_1_3) (i := 46) rfl))))) rfl
theorem wd_527 : ((Jvm.Cond.methodLink "EditGuess$Fitting" (122 : Nat) ({ cls := "EditGuess$Piece", name := "becomeCut", desc := "(II)V" } : Jvm.MethodName)) : Cond) ∈ zG := zgm (List.mem_append_right _ (List.mem_append_right _ (List.mem_append_right _ (List.mem_append_left _ (List.mem_of_getElem? (l := tables_1_3) (i := 47) rfl))))) rfl
theorem wd_528 : ((Jvm.Cond.instanceMethod ({ cls := "EditGuess$Piece", name := "becomeCut", desc := "(II)V" } : Jvm.MethodName)) : Cond) ∈ zG := zgm (List.mem_append_right _ (List.mem_append_right _ (List.mem_append_right _ (List.mem_append_left _ (List.mem_of_getElem? (l := tables_1_3) (i := 48) rfl))))) rfl
theorem wd_529 : ((Jvm.Cond.selects "EditGuess$Piece" ({ cls := "EditGuess$Piece", name := "becomeCut", desc := "(II)V" } : Jvm.MethodName) ({ cls := "EditGuess$Piece", name := "becomeCut", desc := "(II)V" } : Jvm.MethodName)) : Cond) ∈ zG := zgm (List.mem_append_right _ (List.mem_append_right _ (List.mem_append_right _ (List.mem_append_left _ (List.mem_of_getElem? (l := tables_1_3) (i := 49) rfl))))) rfl
theorem wd_530 : ((Jvm.Cond.code ({ cls := "EditGuess$Piece", name := "becomeCut", desc := "(II)V" } : Jvm.MethodName) prog_6_method_2_code (3 : Nat) (Option.none : Option Jvm.ClassFile.FieldType)) : Cond) ∈ zG := zgm (List.mem_append_right _ (List.mem_append_right _ (List.mem_append_right _ (List.mem_append_left _ (List.mem_of_getElem? (l := tables_1_3) (i := 50) rfl))))) rfl
theorem wd_531 : ((Jvm.Cond.methodLink "EditGuess$Fitting" (99 : Nat) ({ cls := "EditGuess$Fitting", name := "tellText", desc := "(ILEditGuess$Plan;)I" } : Jvm.MethodName)) : Cond) ∈ zG := zgm (List.mem_append_right _ (List.mem_append_right _ (List.mem_append_right _ (List.mem_append_left _ (List.mem_of_getElem? (l := tables_1_3) (i := 51) rfl))))) rfl
theorem wd_533 : ((Jvm.Cond.instanceMethod ({ cls := "EditGuess$Fitting", name := "tellText", desc := "(ILEditGuess$Plan;)I" } : Jvm.MethodName)) : Cond) ∈ zG := zgm (List.mem_append_right _ (List.mem_append_right _ (List.mem_append_right _ (List.mem_append_left _ (List.mem_of_getElem? (l := tables_1_3) (i := 53) rfl))))) rfl
theorem wd_534 : ((Jvm.Cond.code ({ cls := "EditGuess$Fitting", name := "tellText", desc := "(ILEditGuess$Plan;)I" } : Jvm.MethodName) prog_3_method_11_code (6 : Nat) (Option.some Jvm.ClassFile.FieldType.int)) : Cond) ∈ zG := zgm (List.mem_append_right _ (List.mem_append_right _ (List.mem_append_right _ (List.mem_append_left _ (List.mem_of_getElem? (l := tables_1_3) (i := 54) rfl))))) rfl
theorem wd_535 : ((Jvm.Cond.methodLink "EditGuess$Fitting" (139 : Nat) ({ cls := "EditGuess$Piece", name := "becomeText", desc := "(LEditGuess$Signs;II)V" } : Jvm.MethodName)) : Cond) ∈ zG := zgm (List.mem_append_right _ (List.mem_append_right _ (List.mem_append_right _ (List.mem_append_left _ (List.mem_of_getElem? (l := tables_1_3) (i := 55) rfl))))) rfl
theorem wd_536 : ((Jvm.Cond.instanceMethod ({ cls := "EditGuess$Piece", name := "becomeText", desc := "(LEditGuess$Signs;II)V" } : Jvm.MethodName)) : Cond) ∈ zG := zgm (List.mem_append_right _ (List.mem_append_right _ (List.mem_append_right _ (List.mem_append_left _ (List.mem_of_getElem? (l := tables_1_3) (i := 56) rfl))))) rfl
theorem wd_537 : ((Jvm.Cond.selects "EditGuess$Piece" ({ cls := "EditGuess$Piece", name := "becomeText", desc := "(LEditGuess$Signs;II)V" } : Jvm.MethodName) ({ cls := "EditGuess$Piece", name := "becomeText", desc := "(LEditGuess$Signs;II)V" } : Jvm.MethodName)) : Cond) ∈ zG := zgm (List.mem_append_right _ (List.mem_append_right _ (List.mem_append_right _ (List.mem_append_left _ (List.mem_of_getElem? (l := tables_1_3) (i := 57) rfl))))) rfl
theorem wd_538 : ((Jvm.Cond.code ({ cls := "EditGuess$Piece", name := "becomeText", desc := "(LEditGuess$Signs;II)V" } : Jvm.MethodName) prog_6_method_3_code (4 : Nat) (Option.none : Option Jvm.ClassFile.FieldType)) : Cond) ∈ zG := zgm (List.mem_append_right _ (List.mem_append_right _ (List.mem_append_right _ (List.mem_append_left _ (List.mem_of_getElem? (l := tables_1_3) (i := 58) rfl))))) rfl
theorem wd_539 : ((Jvm.Cond.methodLink "EditGuess$Piece" (31 : Nat) ({ cls := "EditGuess$Signs", name := "clear", desc := "()V" } : Jvm.MethodName)) : Cond) ∈ zG := zgm (List.mem_append_right _ (List.mem_append_right _ (List.mem_append_right _ (List.mem_append_left _ (List.mem_of_getElem? (l := tables_1_3) (i := 59) rfl))))) rfl
theorem wd_540 : ((Jvm.Cond.methodLink "EditGuess$Piece" (34 : Nat) ({ cls := "EditGuess$Signs", name := "addFrom", desc := "(LEditGuess$Signs;II)V" } : Jvm.MethodName)) : Cond) ∈ zG := zgm (List.mem_append_right _ (List.mem_append_right _ (List.mem_append_right _ (List.mem_append_left _ (List.mem_of_getElem? (l := tables_1_3) (i := 60) rfl))))) rfl
theorem wd_541 : ((Jvm.Cond.methodLink "EditGuessLaw" (48 : Nat) ({ cls := "EditGuess", name := "cost", desc := "(I)I" } : Jvm.MethodName)) : Cond) ∈ zG := zgm (List.mem_append_right _ (List.mem_append_right _ (List.mem_append_right _ (List.mem_append_left _ (List.mem_of_getElem? (l := tables_1_3) (i := 61) rfl))))) rfl
theorem wd_542 : ((Jvm.Cond.instanceMethod ({ cls := "EditGuess", name := "cost", desc := "(I)I" } : Jvm.MethodName)) : Cond) ∈ zG := zgm (List.mem_append_right _ (List.mem_append_right _ (List.mem_append_right _ (List.mem_append_left _ (List.mem_of_getElem? (l := tables_1_3) (i := 62) rfl))))) rfl
theorem wd_543 : ((Jvm.Cond.selects "EditGuess" ({ cls := "EditGuess", name := "cost", desc := "(I)I" } : Jvm.MethodName) ({ cls := "EditGuess", name := "cost", desc := "(I)I" } : Jvm.MethodName)) : Cond) ∈ zG := zgm (List.mem_append_right _ (List.mem_append_right _ (List.mem_append_right _ (List.mem_append_left _ (List.mem_of_getElem? (l := tables_1_3) (i := 63) rfl))))) rfl
theorem wd_544 : ((Jvm.Cond.code ({ cls := "EditGuess", name := "cost", desc := "(I)I" } : Jvm.MethodName) prog_1_method_10_code (2 : Nat) (Option.some Jvm.ClassFile.FieldType.int)) : Cond) ∈ zG := zgm (List.mem_append_right _ (List.mem_append_right _ (List.mem_append_right _ (List.mem_append_left _ (List.mem_of_getElem? (l := tables_1_3) (i := 64) rfl))))) rfl
theorem wd_545 : ((Jvm.Cond.methodLink "EditGuess" (113 : Nat) ({ cls := "EditGuess$Plan", name := "many", desc := "()I" } : Jvm.MethodName)) : Cond) ∈ zG := zgm (List.mem_append_right _ (List.mem_append_right _ (List.mem_append_right _ (List.mem_append_left _ (List.mem_of_getElem? (l := tables_1_3) (i := 65) rfl))))) rfl
theorem wd_546 : ((Jvm.Cond.instanceMethod ({ cls := "EditGuess$Plan", name := "many", desc := "()I" } : Jvm.MethodName)) : Cond) ∈ zG := zgm (List.mem_append_right _ (List.mem_append_right _ (List.mem_append_right _ (List.mem_append_left _ (List.mem_of_getElem? (l := tables_1_3) (i := 66) rfl))))) rfl
theorem wd_547 : ((Jvm.Cond.selects "EditGuess$Plan" ({ cls := "EditGuess$Plan", name := "many", desc := "()I" } : Jvm.MethodName) ({ cls := "EditGuess$Plan", name := "many", desc := "()I" } : Jvm.MethodName)) : Cond) ∈ zG := zgm (List.mem_append_right _ (List.mem_append_right _ (List.mem_append_right _ (List.mem_append_left _ (List.mem_of_getElem? (l := tables_1_3) (i := 67) rfl))))) rfl
theorem wd_548 : ((Jvm.Cond.code ({ cls := "EditGuess$Plan", name := "many", desc := "()I" } : Jvm.MethodName) prog_7_method_2_code (1 : Nat) (Option.some Jvm.ClassFile.FieldType.int)) : Cond) ∈ zG := zgm (List.mem_append_right _ (List.mem_append_right _ (List.mem_append_right _ (List.mem_append_left _ (List.mem_of_getElem? (l := tables_1_3) (i := 68) rfl))))) rfl
theorem wd_549 : ((Jvm.Cond.methodLink "EditGuess" (114 : Nat) ({ cls := "EditGuess$Plan", name := "price", desc := "()I" } : Jvm.MethodName)) : Cond) ∈ zG := zgm (List.mem_append_right _ (List.mem_append_right _ (List.mem_append_right _ (List.mem_append_left _ (List.mem_of_getElem? (l := tables_1_3) (i := 69) rfl))))) rfl
theorem wd_550 : ((Jvm.Cond.instanceMethod ({ cls := "EditGuess$Plan", name := "price", desc := "()I" } : Jvm.MethodName)) : Cond) ∈ zG := zgm (List.mem_append_right _ (List.mem_append_right _ (List.mem_append_right _ (List.mem_append_left _ (List.mem_of_getElem? (l := tables_1_3) (i := 70) rfl))))) rfl
theorem wd_551 : ((Jvm.Cond.selects "EditGuess$Plan" ({ cls := "EditGuess$Plan", name := "price", desc := "()I" } : Jvm.MethodName) ({ cls := "EditGuess$Plan", name := "price", desc := "()I" } : Jvm.MethodName)) : Cond) ∈ zG := zgm (List.mem_append_right _ (List.mem_append_right _ (List.mem_append_right _ (List.mem_append_left _ (List.mem_of_getElem? (l := tables_1_3) (i := 71) rfl))))) rfl
theorem wd_552 : ((Jvm.Cond.code ({ cls := "EditGuess$Plan", name := "price", desc := "()I" } : Jvm.MethodName) prog_7_method_6_code (3 : Nat) (Option.some Jvm.ClassFile.FieldType.int)) : Cond) ∈ zG := zgm (List.mem_append_right _ (List.mem_append_right _ (List.mem_append_right _ (List.mem_append_left _ (List.mem_of_getElem? (l := tables_1_3) (i := 72) rfl))))) rfl
theorem wd_553 : ((Jvm.Cond.methodLink "EditGuess$Plan" (26 : Nat) ({ cls := "EditGuess$Piece", name := "price", desc := "()I" } : Jvm.MethodName)) : Cond) ∈ zG := zgm (List.mem_append_right _ (List.mem_append_right _ (List.mem_append_right _ (List.mem_append_left _ (List.mem_of_getElem? (l := tables_1_3) (i := 73) rfl))))) rfl
theorem wd_554 : ((Jvm.Cond.instanceMethod ({ cls := "EditGuess$Piece", name := "price", desc := "()I" } : Jvm.MethodName)) : Cond) ∈ zG := zgm (List.mem_append_right _ (List.mem_append_right _ (List.mem_append_right _ (List.mem_append_left _ (List.mem_of_getElem? (l := tables_1_3) (i := 74) rfl))))) rfl
theorem wd_555 : ((Jvm.Cond.selects "EditGuess$Piece" ({ cls := "EditGuess$Piece", name := "price", desc := "()I" } : Jvm.MethodName) ({ cls := "EditGuess$Piece", name := "price", desc := "()I" } : Jvm.MethodName)) : Cond) ∈ zG := zgm (List.mem_append_right _ (List.mem_append_right _ (List.mem_append_right _ (List.mem_append_left _ (List.mem_of_getElem? (l := tables_1_3) (i := 75) rfl))))) rfl
theorem wd_556 : ((Jvm.Cond.code ({ cls := "EditGuess$Piece", name := "price", desc := "()I" } : Jvm.MethodName) prog_6_method_4_code (1 : Nat) (Option.some Jvm.ClassFile.FieldType.int)) : Cond) ∈ zG := zgm (List.mem_append_right _ (List.mem_append_right _ (List.mem_append_right _ (List.mem_append_left _ (List.mem_of_getElem? (l := tables_1_3) (i := 76) rfl))))) rfl
theorem wd_557 : ((Jvm.Cond.methodLink "EditGuess$Piece" (38 : Nat) ({ cls := "EditGuess$Signs", name := "many", desc := "()I" } : Jvm.MethodName)) : Cond) ∈ zG := zgm (List.mem_append_right _ (List.mem_append_right _ (List.mem_append_right _ (List.mem_append_left _ (List.mem_of_getElem? (l := tables_1_3) (i := 77) rfl))))) rfl
theorem wd_558 : ((Jvm.Cond.methodLink "EditGuess$Piece" (42 : Nat) ({ cls := "EditGuess$Piece", name := "textPrice", desc := "(I)I" } : Jvm.MethodName)) : Cond) ∈ zG := zgm (List.mem_append_right _ (List.mem_append_right _ (List.mem_append_right _ (List.mem_append_left _ (List.mem_of_getElem? (l := tables_1_3) (i := 78) rfl))))) rfl
theorem wd_559 : ((Jvm.Cond.methodLink "EditGuess$Piece" (46 : Nat) ({ cls := "EditGuess$Marks", name := "price", desc := "(I)I" } : Jvm.MethodName)) : Cond) ∈ zG := zgm (List.mem_append_right _ (List.mem_append_right _ (List.mem_append_right _ (List.mem_append_left _ (List.mem_of_getElem? (l := tables_1_3) (i := 79) rfl))))) rfl
theorem wd_560 : ((Jvm.Cond.methodLink "EditGuess$Piece" (51 : Nat) ({ cls := "EditGuess$Piece", name := "cutPrice", desc := "(II)I" } : Jvm.MethodName)) : Cond) ∈ zG := zgm (List.mem_append_right _ (List.mem_append_right _ (List.mem_append_right _ (List.mem_append_left _ (List.mem_of_getElem? (l := tables_1_3) (i := 80) rfl))))) rfl
theorem wd_561 : ((Jvm.Cond.methodLink "EditGuess" (117 : Nat) ({ cls := "EditGuess$Plan", name := "at", desc := "(I)LEditGuess$Piece;" } : Jvm.MethodName)) : Cond) ∈ zG := zgm (List.mem_append_right _ (List.mem_append_right _ (List.mem_append_right _ (List.mem_append_left _ (List.mem_of_getElem? (l := tables_1_3) (i := 81) rfl))))) rfl
theorem wd_562 : ((Jvm.Cond.methodLink "EditGuess" (121 : Nat) ({ cls := "EditGuess$Piece", name := "price", desc := "()I" } : Jvm.MethodName)) : Cond) ∈ zG := zgm (List.mem_append_right _ (List.mem_append_right _ (List.mem_append_right _ (List.mem_append_left _ (List.mem_of_getElem? (l := tables_1_3) (i := 82) rfl))))) rfl
theorem wd_563 : ((Jvm.Cond.methodLink "EditGuessLaw" (52 : Nat) ({ cls := "EditGuess", name := "piece", desc := "(II)I" } : Jvm.MethodName)) : Cond) ∈ zG := zgm (List.mem_append_right _ (List.mem_append_right _ (List.mem_append_right _ (List.mem_append_left _ (List.mem_of_getElem? (l := tables_1_3) (i := 83) rfl))))) rfl
theorem wd_564 : ((Jvm.Cond.instanceMethod ({ cls := "EditGuess", name := "piece", desc := "(II)I" } : Jvm.MethodName)) : Cond) ∈ zG := zgm (List.mem_append_right _ (List.mem_append_right _ (List.mem_append_right _ (List.mem_append_left _ (List.mem_of_getElem? (l := tables_1_3) (i := 84) rfl))))) rfl
theorem wd_565 : ((Jvm.Cond.selects "EditGuess" ({ cls := "EditGuess", name := "piece", desc := "(II)I" } : Jvm.MethodName) ({ cls := "EditGuess", name := "piece", desc := "(II)I" } : Jvm.MethodName)) : Cond) ∈ zG := zgm (List.mem_append_right _ (List.mem_append_right _ (List.mem_append_right _ (List.mem_append_left _ (List.mem_of_getElem? (l := tables_1_3) (i := 85) rfl))))) rfl
theorem wd_566 : ((Jvm.Cond.code ({ cls := "EditGuess", name := "piece", desc := "(II)I" } : Jvm.MethodName) prog_1_method_11_code (3 : Nat) (Option.some Jvm.ClassFile.FieldType.int)) : Cond) ∈ zG := zgm (List.mem_append_right _ (List.mem_append_right _ (List.mem_append_right _ (List.mem_append_left _ (List.mem_of_getElem? (l := tables_1_3) (i := 86) rfl))))) rfl
theorem wd_567 : ((Jvm.Cond.methodLink "EditGuess" (124 : Nat) ({ cls := "EditGuess$Piece", name := "tells", desc := "(I)I" } : Jvm.MethodName)) : Cond) ∈ zG := zgm (List.mem_append_right _ (List.mem_append_right _ (List.mem_append_right _ (List.mem_append_left _ (List.mem_of_getElem? (l := tables_1_3) (i := 87) rfl))))) rfl
theorem wd_568 : ((Jvm.Cond.instanceMethod ({ cls := "EditGuess$Piece", name := "tells", desc := "(I)I" } : Jvm.MethodName)) : Cond) ∈ zG := zgm (List.mem_append_right _ (List.mem_append_right _ (List.mem_append_right _ (List.mem_append_left _ (List.mem_of_getElem? (l := tables_1_3) (i := 88) rfl))))) rfl
theorem wd_569 : ((Jvm.Cond.selects "EditGuess$Piece" ({ cls := "EditGuess$Piece", name := "tells", desc := "(I)I" } : Jvm.MethodName) ({ cls := "EditGuess$Piece", name := "tells", desc := "(I)I" } : Jvm.MethodName)) : Cond) ∈ zG := zgm (List.mem_append_right _ (List.mem_append_right _ (List.mem_append_right _ (List.mem_append_left _ (List.mem_of_getElem? (l := tables_1_3) (i := 89) rfl))))) rfl
theorem wd_570 : ((Jvm.Cond.code ({ cls := "EditGuess$Piece", name := "tells", desc := "(I)I" } : Jvm.MethodName) prog_6_method_7_code (2 : Nat) (Option.some Jvm.ClassFile.FieldType.int)) : Cond) ∈ zG := zgm (List.mem_append_right _ (List.mem_append_right _ (List.mem_append_right _ (List.mem_append_left _ (List.mem_of_getElem? (l := tables_1_3) (i := 90) rfl))))) rfl
theorem wd_571 : ((Jvm.Cond.methodLink "EditGuess$Piece" (55 : Nat) ({ cls := "EditGuess$Signs", name := "at", desc := "(I)I" } : Jvm.MethodName)) : Cond) ∈ zG := zgm (List.mem_append_right _ (List.mem_append_right _ (List.mem_append_right _ (List.mem_append_left _ (List.mem_of_getElem? (l := tables_1_3) (i := 91) rfl))))) rfl
theorem wd_572 : ((Jvm.Cond.methodLink "EditGuess$Piece" (58 : Nat) ({ cls := "EditGuess$Marks", name := "code", desc := "(I)I" } : Jvm.MethodName)) : Cond) ∈ zG := zgm (List.mem_append_right _ (List.mem_append_right _ (List.mem_append_right _ (List.mem_append_left _ (List.mem_of_getElem? (l := tables_1_3) (i := 92) rfl))))) rfl
theorem wd_573 : ((Jvm.Cond.static ({ cls := "EditGuess$Marks", name := "code", desc := "(I)I" } : Jvm.MethodName)) : Cond) ∈ zG := zgm (List.mem_append_right _ (List.mem_append_right _ (List.mem_append_right _ (List.mem_append_left _ (List.mem_of_getElem? (l := tables_1_3) (i := 93) rfl))))) rfl
theorem wd_574 : ((Jvm.Cond.code ({ cls := "EditGuess$Marks", name := "code", desc := "(I)I" } : Jvm.MethodName) prog_4_method_4_code (2 : Nat) (Option.some Jvm.ClassFile.FieldType.int)) : Cond) ∈ zG := zgm (List.mem_append_right _ (List.mem_append_right _ (List.mem_append_right _ (List.mem_append_left _ (List.mem_of_getElem? (l := tables_1_3) (i := 94) rfl))))) rfl
theorem wd_575 : ((Jvm.Cond.methodLink "EditGuessLaw" (57 : Nat) ({ cls := "EditGuess", name := "place", desc := "(I)I" } : Jvm.MethodName)) : Cond) ∈ zG := zgm (List.mem_append_right _ (List.mem_append_right _ (List.mem_append_right _ (List.mem_append_left _ (List.mem_of_getElem? (l := tables_1_3) (i := 95) rfl))))) rfl
theorem wd_576 : ((Jvm.Cond.instanceMethod ({ cls := "EditGuess", name := "place", desc := "(I)I" } : Jvm.MethodName)) : Cond) ∈ zG := zgm (List.mem_append_right _ (List.mem_append_right _ (List.mem_append_right _ (List.mem_append_left _ (List.mem_of_getElem? (l := tables_1_3) (i := 96) rfl))))) rfl
theorem wd_577 : ((Jvm.Cond.selects "EditGuess" ({ cls := "EditGuess", name := "place", desc := "(I)I" } : Jvm.MethodName) ({ cls := "EditGuess", name := "place", desc := "(I)I" } : Jvm.MethodName)) : Cond) ∈ zG := zgm (List.mem_append_right _ (List.mem_append_right _ (List.mem_append_right _ (List.mem_append_left _ (List.mem_of_getElem? (l := tables_1_3) (i := 97) rfl))))) rfl
theorem wd_578 : ((Jvm.Cond.code ({ cls := "EditGuess", name := "place", desc := "(I)I" } : Jvm.MethodName) prog_1_method_12_code (3 : Nat) (Option.some Jvm.ClassFile.FieldType.int)) : Cond) ∈ zG := zgm (List.mem_append_right _ (List.mem_append_right _ (List.mem_append_right _ (List.mem_append_left _ (List.mem_of_getElem? (l := tables_1_3) (i := 98) rfl))))) rfl
theorem wd_579 : ((Jvm.Cond.methodLink "EditGuess" (128 : Nat) ({ cls := "EditGuess$Marks", name := "index", desc := "(I)I" } : Jvm.MethodName)) : Cond) ∈ zG := zgm (List.mem_append_right _ (List.mem_append_right _ (List.mem_append_right _ (List.mem_append_left _ (List.mem_of_getElem? (l := tables_1_3) (i := 99) rfl))))) rfl
theorem wd_580 : ((Jvm.Cond.static ({ cls := "EditGuess$Marks", name := "index", desc := "(I)I" } : Jvm.MethodName)) : Cond) ∈ zG := zgm (List.mem_append_right _ (List.mem_append_right _ (List.mem_append_right _ (List.mem_append_left _ (List.mem_of_getElem? (l := tables_1_3) (i := 100) rfl))))) rfl
theorem wd_581 : ((Jvm.Cond.code ({ cls := "EditGuess$Marks", name := "index", desc := "(I)I" } : Jvm.MethodName) prog_4_method_2_code (1 : Nat) (Option.some Jvm.ClassFile.FieldType.int)) : Cond) ∈ zG := zgm (List.mem_append_right _ (List.mem_append_right _ (List.mem_append_right _ (List.mem_append_left _ (List.mem_of_getElem? (l := tables_1_3) (i := 101) rfl))))) rfl
theorem wd_582 : ((Jvm.Cond.methodLink "EditGuess$Marks" (11 : Nat) ({ cls := "EditGuess$Marks", name := "runIndex", desc := "(II)I" } : Jvm.MethodName)) : Cond) ∈ zG := zgm (List.mem_append_right _ (List.mem_append_right _ (List.mem_append_right _ (List.mem_append_left _ (List.mem_of_getElem? (l := tables_1_3) (i := 102) rfl))))) rfl
theorem wd_583 : ((Jvm.Cond.static ({ cls := "EditGuess$Marks", name := "runIndex", desc := "(II)I" } : Jvm.MethodName)) : Cond) ∈ zG := zgm (List.mem_append_right _ (List.mem_append_right _ (List.mem_append_right _ (List.mem_append_left _ (List.mem_of_getElem? (l := tables_1_3) (i := 103) rfl))))) rfl
theorem wd_584 : ((Jvm.Cond.code ({ cls := "EditGuess$Marks", name := "runIndex", desc := "(II)I" } : Jvm.MethodName) prog_4_method_3_code (4 : Nat) (Option.some Jvm.ClassFile.FieldType.int)) : Cond) ∈ zG := zgm (List.mem_append_right _ (List.mem_append_right _ (List.mem_append_right _ (List.mem_append_left _ (List.mem_of_getElem? (l := tables_1_3) (i := 104) rfl))))) rfl
theorem wd_585 : ((Jvm.Cond.methodLink "EditGuess" (133 : Nat) ({ cls := "EditGuess$Marks", name := "placeIn", desc := "(LEditGuess$Signs;I)I" } : Jvm.MethodName)) : Cond) ∈ zG := zgm (List.mem_append_right _ (List.mem_append_right _ (List.mem_append_right _ (List.mem_append_left _ (List.mem_of_getElem? (l := tables_1_3) (i := 105) rfl))))) rfl
theorem wd_586 : ((Jvm.Cond.methodLink "EditGuessLaw" (61 : Nat) ({ cls := "EditGuess", name := "makes", desc := "(I)I" } : Jvm.MethodName)) : Cond) ∈ zG := zgm (List.mem_append_right _ (List.mem_append_right _ (List.mem_append_right _ (List.mem_append_left _ (List.mem_of_getElem? (l := tables_1_3) (i := 106) rfl))))) rfl
theorem wd_587 : ((Jvm.Cond.instanceMethod ({ cls := "EditGuess", name := "makes", desc := "(I)I" } : Jvm.MethodName)) : Cond) ∈ zG := zgm (List.mem_append_right _ (List.mem_append_right _ (List.mem_append_right _ (List.mem_append_left _ (List.mem_of_getElem? (l := tables_1_3) (i := 107) rfl))))) rfl
theorem wd_588 : ((Jvm.Cond.selects "EditGuess" ({ cls := "EditGuess", name := "makes", desc := "(I)I" } : Jvm.MethodName) ({ cls := "EditGuess", name := "makes", desc := "(I)I" } : Jvm.MethodName)) : Cond) ∈ zG := zgm (List.mem_append_right _ (List.mem_append_right _ (List.mem_append_right _ (List.mem_append_left _ (List.mem_of_getElem? (l := tables_1_3) (i := 108) rfl))))) rfl
theorem wd_589 : ((Jvm.Cond.code ({ cls := "EditGuess", name := "makes", desc := "(I)I" } : Jvm.MethodName) prog_1_method_13_code (2 : Nat) (Option.some Jvm.ClassFile.FieldType.int)) : Cond) ∈ zG := zgm (List.mem_append_right _ (List.mem_append_right _ (List.mem_append_right _ (List.mem_append_left _ (List.mem_of_getElem? (l := tables_1_3) (i := 109) rfl))))) rfl
theorem wd_590 : ((Jvm.Cond.methodLink "EditGuess" (137 : Nat) ({ cls := "EditGuess$Plan", name := "applyTo", desc := "(LEditGuess$Signs;LEditGuess$Signs;)V" } : Jvm.MethodName)) : Cond) ∈ zG := zgm (List.mem_append_right _ (List.mem_append_right _ (List.mem_append_right _ (List.mem_append_left _ (List.mem_of_getElem? (l := tables_1_3) (i := 110) rfl))))) rfl
theorem wd_591 : ((Jvm.Cond.instanceMethod ({ cls := "EditGuess$Plan", name := "applyTo", desc := "(LEditGuess$Signs;LEditGuess$Signs;)V" } : Jvm.MethodName)) : Cond) ∈ zG := zgm (List.mem_append_right _ (List.mem_append_right _ (List.mem_append_right _ (List.mem_append_left _ (List.mem_of_getElem? (l := tables_1_3) (i := 111) rfl))))) rfl
theorem wd_592 : ((Jvm.Cond.selects "EditGuess$Plan" ({ cls := "EditGuess$Plan", name := "applyTo", desc := "(LEditGuess$Signs;LEditGuess$Signs;)V" } : Jvm.MethodName) ({ cls := "EditGuess$Plan", name := "applyTo", desc := "(LEditGuess$Signs;LEditGuess$Signs;)V" } : Jvm.MethodName)) : Cond) ∈ zG := zgm (List.mem_append_right _ (List.mem_append_right _ (List.mem_append_right _ (List.mem_append_left _ (List.mem_of_getElem? (l := tables_1_3) (i := 112) rfl))))) rfl
theorem wd_593 : ((Jvm.Cond.code ({ cls := "EditGuess$Plan", name := "applyTo", desc := "(LEditGuess$Signs;LEditGuess$Signs;)V" } : Jvm.MethodName) prog_7_method_7_code (4 : Nat) (Option.none : Option Jvm.ClassFile.FieldType)) : Cond) ∈ zG := zgm (List.mem_append_right _ (List.mem_append_right _ (List.mem_append_right _ (List.mem_append_left _ (List.mem_of_getElem? (l := tables_1_3) (i := 113) rfl))))) rfl
theorem wd_594 : ((Jvm.Cond.methodLink "EditGuess$Plan" (30 : Nat) ({ cls := "EditGuess$Signs", name := "clear", desc := "()V" } : Jvm.MethodName)) : Cond) ∈ zG := zgm (List.mem_append_right _ (List.mem_append_right _ (List.mem_append_right _ (List.mem_append_left _ (List.mem_of_getElem? (l := tables_1_3) (i := 114) rfl))))) rfl
theorem wd_595 : ((Jvm.Cond.methodLink "EditGuess$Plan" (35 : Nat) ({ cls := "EditGuess$Piece", name := "addTo", desc := "(LEditGuess$Signs;LEditGuess$Signs;)Z" } : Jvm.MethodName)) : Cond) ∈ zG := zgm (List.mem_append_right _ (List.mem_append_right _ (List.mem_append_right _ (List.mem_append_left _ (List.mem_of_getElem? (l := tables_1_3) (i := 115) rfl))))) rfl
theorem wd_596 : ((Jvm.Cond.instanceMethod ({ cls := "EditGuess$Piece", name := "addTo", desc := "(LEditGuess$Signs;LEditGuess$Signs;)Z" } : Jvm.MethodName)) : Cond) ∈ zG := zgm (List.mem_append_right _ (List.mem_append_right _ (List.mem_append_right _ (List.mem_append_left _ (List.mem_of_getElem? (l := tables_1_3) (i := 116) rfl))))) rfl
theorem wd_597 : ((Jvm.Cond.selects "EditGuess$Piece" ({ cls := "EditGuess$Piece", name := "addTo", desc := "(LEditGuess$Signs;LEditGuess$Signs;)Z" } : Jvm.MethodName) ({ cls := "EditGuess$Piece", name := "addTo", desc := "(LEditGuess$Signs;LEditGuess$Signs;)Z" } : Jvm.MethodName)) : Cond) ∈ zG := zgm (List.mem_append_right _ (List.mem_append_right _ (List.mem_append_right _ (List.mem_append_left _ (List.mem_of_getElem? (l := tables_1_3) (i := 117) rfl))))) rfl
theorem wd_598 : ((Jvm.Cond.code ({ cls := "EditGuess$Piece", name := "addTo", desc := "(LEditGuess$Signs;LEditGuess$Signs;)Z" } : Jvm.MethodName) prog_6_method_8_code (5 : Nat) (Option.some Jvm.ClassFile.FieldType.boolean)) : Cond) ∈ zG := zgm (List.mem_append_right _ (List.mem_append_right _ (List.mem_append_right _ (List.mem_append_left _ (List.mem_of_getElem? (l := tables_1_3) (i := 118) rfl))))) rfl
theorem wd_599 : ((Jvm.Cond.methodLink "EditGuess$Piece" (61 : Nat) ({ cls := "EditGuess$Marks", name := "placeIn", desc := "(LEditGuess$Signs;I)I" } : Jvm.MethodName)) : Cond) ∈ zG := zgm (List.mem_append_right _ (List.mem_append_right _ (List.mem_append_right _ (List.mem_append_left _ (List.mem_of_getElem? (l := tables_1_3) (i := 119) rfl))))) rfl
theorem wd_600 : ((Jvm.Cond.methodLink "EditGuessLaw" (65 : Nat) ({ cls := "EditGuess", name := "accept", desc := "(I)I" } : Jvm.MethodName)) : Cond) ∈ zG := zgm (List.mem_append_right _ (List.mem_append_right _ (List.mem_append_right _ (List.mem_append_left _ (List.mem_of_getElem? (l := tables_1_3) (i := 120) rfl))))) rfl
theorem wd_601 : ((Jvm.Cond.instanceMethod ({ cls := "EditGuess", name := "accept", desc := "(I)I" } : Jvm.MethodName)) : Cond) ∈ zG := zgm (List.mem_append_right _ (List.mem_append_right _ (List.mem_append_right _ (List.mem_append_left _ (List.mem_of_getElem? (l := tables_1_3) (i := 121) rfl))))) rfl
theorem wd_602 : ((Jvm.Cond.selects "EditGuess" ({ cls := "EditGuess", name := "accept", desc := "(I)I" } : Jvm.MethodName) ({ cls := "EditGuess", name := "accept", desc := "(I)I" } : Jvm.MethodName)) : Cond) ∈ zG := zgm (List.mem_append_right _ (List.mem_append_right _ (List.mem_append_right _ (List.mem_append_left _ (List.mem_of_getElem? (l := tables_1_3) (i := 122) rfl))))) rfl
theorem wd_603 : ((Jvm.Cond.code ({ cls := "EditGuess", name := "accept", desc := "(I)I" } : Jvm.MethodName) prog_1_method_14_code (3 : Nat) (Option.some Jvm.ClassFile.FieldType.int)) : Cond) ∈ zG := zgm (List.mem_append_right _ (List.mem_append_right _ (List.mem_append_right _ (List.mem_append_left _ (List.mem_of_getElem? (l := tables_1_3) (i := 123) rfl))))) rfl
theorem wd_604 : ((Jvm.Cond.methodLink "EditGuess" (143 : Nat) ({ cls := "EditGuess", name := "makesResult", desc := "(I)Z" } : Jvm.MethodName)) : Cond) ∈ zG := zgm (List.mem_append_right _ (List.mem_append_right _ (List.mem_append_right _ (List.mem_append_left _ (List.mem_of_getElem? (l := tables_1_3) (i := 124) rfl))))) rfl
theorem wd_606 : ((Jvm.Cond.instanceMethod ({ cls := "EditGuess", name := "makesResult", desc := "(I)Z" } : Jvm.MethodName)) : Cond) ∈ zG := zgm (List.mem_append_right _ (List.mem_append_right _ (List.mem_append_right _ (List.mem_append_left _ (List.mem_of_getElem? (l := tables_1_3) (i := 126) rfl))))) rfl
theorem wd_607 : ((Jvm.Cond.code ({ cls := "EditGuess", name := "makesResult", desc := "(I)Z" } : Jvm.MethodName) prog_1_method_25_code (2 : Nat) (Option.some Jvm.ClassFile.FieldType.boolean)) : Cond) ∈ zG := zgm (List.mem_append_right _ (List.mem_append_right _ (List.mem_append_right _ (List.mem_append_left _ (List.mem_of_getElem? (l := tables_1_3) (i := 127) rfl))))) rfl
theorem wd_608 : ((Jvm.Cond.methodLink "EditGuess" (146 : Nat) ({ cls := "EditGuess$Book", name := "line", desc := "(I)LEditGuess$Signs;" } : Jvm.MethodName)) : Cond) ∈ zG := zgm (List.mem_append_right _ (List.mem_append_right _ (List.mem_append_right _ (List.mem_append_left _ (List.mem_of_getElem? (l := tables_1_3) (i := 128) rfl))))) rfl
theorem wd_609 : ((Jvm.Cond.instanceMethod ({ cls := "EditGuess$Book", name := "line", desc := "(I)LEditGuess$Signs;" } : Jvm.MethodName)) : Cond) ∈ zG := zgm (List.mem_append_right _ (List.mem_append_right _ (List.mem_append_right _ (List.mem_append_left _ (List.mem_of_getElem? (l := tables_1_3) (i := 129) rfl))))) rfl
theorem wd_610 : ((Jvm.Cond.selects "EditGuess$Book" ({ cls := "EditGuess$Book", name := "line", desc := "(I)LEditGuess$Signs;" } : Jvm.MethodName) ({ cls := "EditGuess$Book", name := "line", desc := "(I)LEditGuess$Signs;" } : Jvm.MethodName)) : Cond) ∈ zG := zgm (List.mem_append_right _ (List.mem_append_right _ (List.mem_append_right _ (List.mem_append_left _ (List.mem_of_getElem? (l := tables_1_3) (i := 130) rfl))))) rfl
theorem wd_611 : ((Jvm.Cond.code ({ cls := "EditGuess$Book", name := "line", desc := "(I)LEditGuess$Signs;" } : Jvm.MethodName) prog_2_method_7_code (2 : Nat) (Option.some (Jvm.ClassFile.FieldType.object "EditGuess$Signs"))) : Cond) ∈ zG := zgm (List.mem_append_right _ (List.mem_append_right _ (List.mem_append_right _ (List.mem_append_left _ (List.mem_of_getElem? (l := tables_1_3) (i := 131) rfl))))) rfl
theorem wd_612 : ((Jvm.Cond.methodLink "EditGuessLaw" (69 : Nat) ({ cls := "EditGuess", name := "agreeing", desc := "(I)J" } : Jvm.MethodName)) : Cond) ∈ zG := zgm (List.mem_append_right _ (List.mem_append_right _ (List.mem_append_right _ (List.mem_append_left _ (List.mem_of_getElem? (l := tables_1_3) (i := 132) rfl))))) rfl
theorem wd_613 : ((Jvm.Cond.instanceMethod ({ cls := "EditGuess", name := "agreeing", desc := "(I)J" } : Jvm.MethodName)) : Cond) ∈ zG := zgm (List.mem_append_right _ (List.mem_append_right _ (List.mem_append_right _ (List.mem_append_left _ (List.mem_of_getElem? (l := tables_1_3) (i := 133) rfl))))) rfl
theorem wd_614 : ((Jvm.Cond.selects "EditGuess" ({ cls := "EditGuess", name := "agreeing", desc := "(I)J" } : Jvm.MethodName) ({ cls := "EditGuess", name := "agreeing", desc := "(I)J" } : Jvm.MethodName)) : Cond) ∈ zG := zgm (List.mem_append_right _ (List.mem_append_right _ (List.mem_append_right _ (List.mem_append_left _ (List.mem_of_getElem? (l := tables_1_3) (i := 134) rfl))))) rfl
theorem wd_615 : ((Jvm.Cond.code ({ cls := "EditGuess", name := "agreeing", desc := "(I)J" } : Jvm.MethodName) prog_1_method_15_code (2 : Nat) (Option.some Jvm.ClassFile.FieldType.long)) : Cond) ∈ zG := zgm (List.mem_append_right _ (List.mem_append_right _ (List.mem_append_right _ (List.mem_append_left _ (List.mem_of_getElem? (l := tables_1_3) (i := 135) rfl))))) rfl
theorem wd_616 : ((Jvm.Cond.methodLink "EditGuess" (152 : Nat) ({ cls := "EditGuess", name := "countAgreeing", desc := "(I)J" } : Jvm.MethodName)) : Cond) ∈ zG := zgm (List.mem_append_right _ (List.mem_append_right _ (List.mem_append_right _ (List.mem_append_left _ (List.mem_of_getElem? (l := tables_1_3) (i := 136) rfl))))) rfl
theorem wd_618 : ((Jvm.Cond.instanceMethod ({ cls := "EditGuess", name := "countAgreeing", desc := "(I)J" } : Jvm.MethodName)) : Cond) ∈ zG := zgm (List.mem_append_right _ (List.mem_append_right _ (List.mem_append_right _ (List.mem_append_left _ (List.mem_of_getElem? (l := tables_1_3) (i := 138) rfl))))) rfl
theorem wd_619 : ((Jvm.Cond.code ({ cls := "EditGuess", name := "countAgreeing", desc := "(I)J" } : Jvm.MethodName) prog_1_method_26_code (2 : Nat) (Option.some Jvm.ClassFile.FieldType.long)) : Cond) ∈ zG := zgm (List.mem_append_right _ (List.mem_append_right _ (List.mem_append_right _ (List.mem_append_left _ (List.mem_of_getElem? (l := tables_1_3) (i := 139) rfl))))) rfl
theorem wd_620 : ((Jvm.Cond.methodLink "EditGuess" (188 : Nat) ({ cls := "EditGuess$Fitting", name := "dropRow", desc := "()V" } : Jvm.MethodName)) : Cond) ∈ zG := zgm (List.mem_append_right _ (List.mem_append_right _ (List.mem_append_right _ (List.mem_append_left _ (List.mem_of_getElem? (l := tables_1_3) (i := 140) rfl))))) rfl
theorem wd_621 : ((Jvm.Cond.instanceMethod ({ cls := "EditGuess$Fitting", name := "dropRow", desc := "()V" } : Jvm.MethodName)) : Cond) ∈ zG := zgm (List.mem_append_right _ (List.mem_append_right _ (List.mem_append_right _ (List.mem_append_left _ (List.mem_of_getElem? (l := tables_1_3) (i := 141) rfl))))) rfl
theorem wd_622 : ((Jvm.Cond.selects "EditGuess$Fitting" ({ cls := "EditGuess$Fitting", name := "dropRow", desc := "()V" } : Jvm.MethodName) ({ cls := "EditGuess$Fitting", name := "dropRow", desc := "()V" } : Jvm.MethodName)) : Cond) ∈ zG := zgm (List.mem_append_right _ (List.mem_append_right _ (List.mem_append_right _ (List.mem_append_left _ (List.mem_of_getElem? (l := tables_1_3) (i := 142) rfl))))) rfl
theorem wd_623 : ((Jvm.Cond.code ({ cls := "EditGuess$Fitting", name := "dropRow", desc := "()V" } : Jvm.MethodName) prog_3_method_4_code (1 : Nat) (Option.none : Option Jvm.ClassFile.FieldType)) : Cond) ∈ zG := zgm (List.mem_append_right _ (List.mem_append_right _ (List.mem_append_right _ (List.mem_append_left _ (List.mem_of_getElem? (l := tables_1_3) (i := 143) rfl))))) rfl
theorem wd_624 : ((Jvm.Cond.constantLong "EditGuess" (156 : Nat) (-5 : Int64)) : Cond) ∈ zG := zgm (List.mem_append_right _ (List.mem_append_right _ (List.mem_append_right _ (List.mem_append_left _ (List.mem_of_getElem? (l := tables_1_3) (i := 144) rfl))))) rfl
theorem wd_625 : ((Jvm.Cond.methodLink "EditGuessLaw" (74 : Nat) ({ cls := "EditGuess", name := "asked", desc := "()I" } : Jvm.MethodName)) : Cond) ∈ zG := zgm (List.mem_append_right _ (List.mem_append_right _ (List.mem_append_right _ (List.mem_append_left _ (List.mem_of_getElem? (l := tables_1_3) (i := 145) rfl))))) rfl
theorem wd_626 : ((Jvm.Cond.instanceMethod ({ cls := "EditGuess", name := "asked", desc := "()I" } : Jvm.MethodName)) : Cond) ∈ zG := zgm (List.mem_append_right _ (List.mem_append_right _ (List.mem_append_right _ (List.mem_append_left _ (List.mem_of_getElem? (l := tables_1_3) (i := 146) rfl))))) rfl
theorem wd_627 : ((Jvm.Cond.selects "EditGuess" ({ cls := "EditGuess", name := "asked", desc := "()I" } : Jvm.MethodName) ({ cls := "EditGuess", name := "asked", desc := "()I" } : Jvm.MethodName)) : Cond) ∈ zG := zgm (List.mem_append_right _ (List.mem_append_right _ (List.mem_append_right _ (List.mem_append_left _ (List.mem_of_getElem? (l := tables_1_3) (i := 147) rfl))))) rfl
theorem wd_628 : ((Jvm.Cond.code ({ cls := "EditGuess", name := "asked", desc := "()I" } : Jvm.MethodName) prog_1_method_16_code (7 : Nat) (Option.some Jvm.ClassFile.FieldType.int)) : Cond) ∈ zG := zgm (List.mem_append_right _ (List.mem_append_right _ (List.mem_append_right _ (List.mem_append_left _ (List.mem_of_getElem? (l := tables_1_3) (i := 148) rfl))))) rfl
theorem wd_629 : ((Jvm.Cond.methodLink "EditGuessLaw" (78 : Nat) ({ cls := "EditGuess", name := "image", desc := "(I)I" } : Jvm.MethodName)) : Cond) ∈ zG := zgm (List.mem_append_right _ (List.mem_append_right _ (List.mem_append_right _ (List.mem_append_left _ (List.mem_of_getElem? (l := tables_1_3) (i := 149) rfl))))) rfl
theorem wd_630 : ((Jvm.Cond.instanceMethod ({ cls := "EditGuess", name := "image", desc := "(I)I" } : Jvm.MethodName)) : Cond) ∈ zG := zgm (List.mem_append_right _ (List.mem_append_right _ (List.mem_append_right _ (List.mem_append_left _ (List.mem_of_getElem? (l := tables_1_3) (i := 150) rfl))))) rfl
theorem wd_631 : ((Jvm.Cond.selects "EditGuess" ({ cls := "EditGuess", name := "image", desc := "(I)I" } : Jvm.MethodName) ({ cls := "EditGuess", name := "image", desc := "(I)I" } : Jvm.MethodName)) : Cond) ∈ zG := zgm (List.mem_append_right _ (List.mem_append_right _ (List.mem_append_right _ (List.mem_append_left _ (List.mem_of_getElem? (l := tables_1_3) (i := 151) rfl))))) rfl
theorem wd_632 : ((Jvm.Cond.code ({ cls := "EditGuess", name := "image", desc := "(I)I" } : Jvm.MethodName) prog_1_method_17_code (2 : Nat) (Option.some Jvm.ClassFile.FieldType.int)) : Cond) ∈ zG := zgm (List.mem_append_right _ (List.mem_append_right _ (List.mem_append_right _ (List.mem_append_left _ (List.mem_of_getElem? (l := tables_1_3) (i := 152) rfl))))) rfl
theorem wd_633 : ((Jvm.Cond.methodLink "EditGuess" (158 : Nat) ({ cls := "EditGuess$Book", name := "copy", desc := "(LEditGuess$Book;)V" } : Jvm.MethodName)) : Cond) ∈ zG := zgm (List.mem_append_right _ (List.mem_append_right _ (List.mem_append_right _ (List.mem_append_left _ (List.mem_of_getElem? (l := tables_1_3) (i := 153) rfl))))) rfl
theorem wd_634 : ((Jvm.Cond.instanceMethod ({ cls := "EditGuess$Book", name := "copy", desc := "(LEditGuess$Book;)V" } : Jvm.MethodName)) : Cond) ∈ zG := zgm (List.mem_append_right _ (List.mem_append_right _ (List.mem_append_right _ (List.mem_append_left _ (List.mem_of_getElem? (l := tables_1_3) (i := 154) rfl))))) rfl
theorem wd_635 : ((Jvm.Cond.selects "EditGuess$Book" ({ cls := "EditGuess$Book", name := "copy", desc := "(LEditGuess$Book;)V" } : Jvm.MethodName) ({ cls := "EditGuess$Book", name := "copy", desc := "(LEditGuess$Book;)V" } : Jvm.MethodName)) : Cond) ∈ zG := zgm (List.mem_append_right _ (List.mem_append_right _ (List.mem_append_right _ (List.mem_append_left _ (List.mem_of_getElem? (l := tables_1_3) (i := 155) rfl))))) rfl
theorem wd_636 : ((Jvm.Cond.code ({ cls := "EditGuess$Book", name := "copy", desc := "(LEditGuess$Book;)V" } : Jvm.MethodName) prog_2_method_12_code (3 : Nat) (Option.none : Option Jvm.ClassFile.FieldType)) : Cond) ∈ zG := zgm (List.mem_append_right _ (List.mem_append_right _ (List.mem_append_right _ (List.mem_append_left _ (List.mem_of_getElem? (l := tables_1_3) (i := 156) rfl))))) rfl
theorem wd_637 : ((Jvm.Cond.methodLink "EditGuessLaw" (82 : Nat) ({ cls := "EditGuess", name := "restore", desc := "(I)I" } : Jvm.MethodName)) : Cond) ∈ zG := zgm (List.mem_append_right _ (List.mem_append_right _ (List.mem_append_right _ (List.mem_append_left _ (List.mem_of_getElem? (l := tables_1_3) (i := 157) rfl))))) rfl
theorem wd_638 : ((Jvm.Cond.instanceMethod ({ cls := "EditGuess", name := "restore", desc := "(I)I" } : Jvm.MethodName)) : Cond) ∈ zG := zgm (List.mem_append_right _ (List.mem_append_right _ (List.mem_append_right _ (List.mem_append_left _ (List.mem_of_getElem? (l := tables_1_3) (i := 158) rfl))))) rfl
theorem wd_639 : ((Jvm.Cond.selects "EditGuess" ({ cls := "EditGuess", name := "restore", desc := "(I)I" } : Jvm.MethodName) ({ cls := "EditGuess", name := "restore", desc := "(I)I" } : Jvm.MethodName)) : Cond) ∈ zG := zgm (List.mem_append_right _ (List.mem_append_right _ (List.mem_append_right _ (List.mem_append_left _ (List.mem_of_getElem? (l := tables_1_3) (i := 159) rfl))))) rfl
theorem wd_640 : ((Jvm.Cond.code ({ cls := "EditGuess", name := "restore", desc := "(I)I" } : Jvm.MethodName) prog_1_method_18_code (2 : Nat) (Option.some Jvm.ClassFile.FieldType.int)) : Cond) ∈ zG := zgm (List.mem_append_right _ (List.mem_append_right _ (List.mem_append_right _ (List.mem_append_left _ (List.mem_of_getElem? (l := tables_1_3) (i := 160) rfl))))) rfl
theorem wd_641 : ((Jvm.Cond.methodLink "EditGuessLaw" (86 : Nat) ({ cls := "EditGuess", name := "told", desc := "(I)I" } : Jvm.MethodName)) : Cond) ∈ zG := zgm (List.mem_append_right _ (List.mem_append_right _ (List.mem_append_right _ (List.mem_append_left _ (List.mem_of_getElem? (l := tables_1_3) (i := 161) rfl))))) rfl
theorem wd_642 : ((Jvm.Cond.instanceMethod ({ cls := "EditGuess", name := "told", desc := "(I)I" } : Jvm.MethodName)) : Cond) ∈ zG := zgm (List.mem_append_right _ (List.mem_append_right _ (List.mem_append_right _ (List.mem_append_left _ (List.mem_of_getElem? (l := tables_1_3) (i := 162) rfl))))) rfl
theorem wd_643 : ((Jvm.Cond.selects "EditGuess" ({ cls := "EditGuess", name := "told", desc := "(I)I" } : Jvm.MethodName) ({ cls := "EditGuess", name := "told", desc := "(I)I" } : Jvm.MethodName)) : Cond) ∈ zG := zgm (List.mem_append_right _ (List.mem_append_right _ (List.mem_append_right _ (List.mem_append_left _ (List.mem_of_getElem? (l := tables_1_3) (i := 163) rfl))))) rfl
theorem wd_644 : ((Jvm.Cond.code ({ cls := "EditGuess", name := "told", desc := "(I)I" } : Jvm.MethodName) prog_1_method_19_code (2 : Nat) (Option.some Jvm.ClassFile.FieldType.int)) : Cond) ∈ zG := zgm (List.mem_append_right _ (List.mem_append_right _ (List.mem_append_right _ (List.mem_append_left _ (List.mem_of_getElem? (l := tables_1_3) (i := 164) rfl))))) rfl
theorem wd_645 : ((Jvm.Cond.classLink "EditGuessLaw" (10 : Nat) "EditGuessModel") : Cond) ∈ zG := zgm (List.mem_append_right _ (List.mem_append_right _ (List.mem_append_right _ (List.mem_append_left _ (List.mem_of_getElem? (l := tables_1_3) (i := 165) rfl))))) rfl
theorem wd_646 : ((Jvm.Cond.instantiable "EditGuessModel" (28 : Nat)) : Cond) ∈ zG := zgm (List.mem_append_right _ (List.mem_append_right _ (List.mem_append_right _ (List.mem_append_left _ (List.mem_of_getElem? (l := tables_1_3) (i := 166) rfl))))) rfl
theorem wd_647 : ((Jvm.Cond.methodLink "EditGuessLaw" (12 : Nat) ({ cls := "EditGuessModel", name := "<init>", desc := "()V" } : Jvm.MethodName)) : Cond) ∈ zG := zgm (List.mem_append_right _ (List.mem_append_right _ (List.mem_append_right _ (List.mem_append_left _ (List.mem_of_getElem? (l := tables_1_3) (i := 167) rfl))))) rfl
theorem wd_649 : ((Jvm.Cond.code ({ cls := "EditGuessModel", name := "<init>", desc := "()V" } : Jvm.MethodName) prog_11_method_1_code (3 : Nat) (Option.none : Option Jvm.ClassFile.FieldType)) : Cond) ∈ zG := zgm (List.mem_append_right _ (List.mem_append_right _ (List.mem_append_right _ (List.mem_append_left _ (List.mem_of_getElem? (l := tables_1_3) (i := 169) rfl))))) rfl
theorem wd_650 : ((Jvm.Cond.methodLink "EditGuessModel" (1 : Nat) ({ cls := "java/lang/Object", name := "<init>", desc := "()V" } : Jvm.MethodName)) : Cond) ∈ zG := zgm (List.mem_append_right _ (List.mem_append_right _ (List.mem_append_right _ (List.mem_append_left _ (List.mem_of_getElem? (l := tables_1_3) (i := 170) rfl))))) rfl
theorem wd_651 : ((Jvm.Cond.methodLink "EditGuessModel" (75 : Nat) ({ cls := "EditGuessModel", name := "isCode", desc := "(I)Z" } : Jvm.MethodName)) : Cond) ∈ zG := zgm (List.mem_append_right _ (List.mem_append_right _ (List.mem_append_right _ (List.mem_append_left _ (List.mem_of_getElem? (l := tables_1_3) (i := 171) rfl))))) rfl
theorem wd_652 : ((Jvm.Cond.static ({ cls := "EditGuessModel", name := "isCode", desc := "(I)Z" } : Jvm.MethodName)) : Cond) ∈ zG := zgm (List.mem_append_right _ (List.mem_append_right _ (List.mem_append_right _ (List.mem_append_left _ (List.mem_of_getElem? (l := tables_1_3) (i := 172) rfl))))) rfl
theorem wd_653 : ((Jvm.Cond.code ({ cls := "EditGuessModel", name := "isCode", desc := "(I)Z" } : Jvm.MethodName) prog_11_method_3_code (2 : Nat) (Option.some Jvm.ClassFile.FieldType.boolean)) : Cond) ∈ zG := zgm (List.mem_append_right _ (List.mem_append_right _ (List.mem_append_right _ (List.mem_append_left _ (List.mem_of_getElem? (l := tables_1_3) (i := 173) rfl))))) rfl
theorem wd_654 : ((Jvm.Cond.methodLink "EditGuessModel" (79 : Nat) ({ cls := "EditGuessModel", name := "in", desc := "(III)Z" } : Jvm.MethodName)) : Cond) ∈ zG := zgm (List.mem_append_right _ (List.mem_append_right _ (List.mem_append_right _ (List.mem_append_left _ (List.mem_of_getElem? (l := tables_1_3) (i := 174) rfl))))) rfl
theorem wd_655 : ((Jvm.Cond.static ({ cls := "EditGuessModel", name := "in", desc := "(III)Z" } : Jvm.MethodName)) : Cond) ∈ zG := zgm (List.mem_append_right _ (List.mem_append_right _ (List.mem_append_right _ (List.mem_append_left _ (List.mem_of_getElem? (l := tables_1_3) (i := 175) rfl))))) rfl
theorem wd_656 : ((Jvm.Cond.code ({ cls := "EditGuessModel", name := "in", desc := "(III)Z" } : Jvm.MethodName) prog_11_method_2_code (3 : Nat) (Option.some Jvm.ClassFile.FieldType.boolean)) : Cond) ∈ zG := zgm (List.mem_append_right _ (List.mem_append_right _ (List.mem_append_right _ (List.mem_append_left _ (List.mem_of_getElem? (l := tables_1_3) (i := 176) rfl))))) rfl
theorem wd_657 : ((Jvm.Cond.fieldLink "EditGuessModel" (7 : Nat) "EditGuessModel" "lines" "[I") : Cond) ∈ zG := zgm (List.mem_append_right _ (List.mem_append_right _ (List.mem_append_right _ (List.mem_append_left _ (List.mem_of_getElem? (l := tables_1_3) (i := 177) rfl))))) rfl
theorem wd_658 : ((Jvm.Cond.fieldLink "EditGuessModel" (13 : Nat) "EditGuessModel" "lineSize" "[I") : Cond) ∈ zG := zgm (List.mem_append_right _ (List.mem_append_right _ (List.mem_append_right _ (List.mem_append_left _ (List.mem_of_getElem? (l := tables_1_3) (i := 178) rfl))))) rfl
theorem wd_659 : ((Jvm.Cond.fieldLink "EditGuessModel" (16 : Nat) "EditGuessModel" "outs" "[I") : Cond) ∈ zG := zgm (List.mem_append_right _ (List.mem_append_right _ (List.mem_append_right _ (List.mem_append_left _ (List.mem_of_getElem? (l := tables_1_3) (i := 179) rfl))))) rfl
theorem wd_660 : ((Jvm.Cond.fieldLink "EditGuessModel" (19 : Nat) "EditGuessModel" "outSize" "[I") : Cond) ∈ zG := zgm (List.mem_append_right _ (List.mem_append_right _ (List.mem_append_right _ (List.mem_append_left _ (List.mem_of_getElem? (l := tables_1_3) (i := 180) rfl))))) rfl
theorem wd_661 : ((Jvm.Cond.fieldLink "EditGuessModel" (98 : Nat) "EditGuessModel" "examples" "I") : Cond) ∈ zG := zgm (List.mem_append_right _ (List.mem_append_right _ (List.mem_append_right _ (List.mem_append_left _ (List.mem_of_getElem? (l := tables_1_3) (i := 181) rfl))))) rfl
theorem wd_662 : ((Jvm.Cond.fieldLink "EditGuessModel" (22 : Nat) "EditGuessModel" "pools" "[I") : Cond) ∈ zG := zgm (List.mem_append_right _ (List.mem_append_right _ (List.mem_append_right _ (List.mem_append_left _ (List.mem_of_getElem? (l := tables_1_3) (i := 182) rfl))))) rfl
theorem wd_663 : ((Jvm.Cond.fieldLink "EditGuessModel" (25 : Nat) "EditGuessModel" "poolSize" "[I") : Cond) ∈ zG := zgm (List.mem_append_right _ (List.mem_append_right _ (List.mem_append_right _ (List.mem_append_left _ (List.mem_of_getElem? (l := tables_1_3) (i := 183) rfl))))) rfl
theorem wd_664 : ((Jvm.Cond.fieldLink "EditGuessModel" (101 : Nat) "EditGuessModel" "many" "I") : Cond) ∈ zG := zgm (List.mem_append_right _ (List.mem_append_right _ (List.mem_append_right _ (List.mem_append_left _ (List.mem_of_getElem? (l := tables_1_3) (i := 184) rfl))))) rfl
theorem wd_665 : ((Jvm.Cond.fieldLink "EditGuessModel" (83 : Nat) "EditGuessModel" "signs" "I") : Cond) ∈ zG := zgm (List.mem_append_right _ (List.mem_append_right _ (List.mem_append_right _ (List.mem_append_left _ (List.mem_of_getElem? (l := tables_1_3) (i := 185) rfl))))) rfl
theorem wd_666 : ((Jvm.Cond.fieldLink "EditGuessModel" (28 : Nat) "EditGuessModel" "pad" "[I") : Cond) ∈ zG := zgm (List.mem_append_right _ (List.mem_append_right _ (List.mem_append_right _ (List.mem_append_left _ (List.mem_of_getElem? (l := tables_1_3) (i := 186) rfl))))) rfl
theorem wd_667 : ((Jvm.Cond.fieldLink "EditGuessModel" (31 : Nat) "EditGuessModel" "codes" "[I") : Cond) ∈ zG := zgm (List.mem_append_right _ (List.mem_append_right _ (List.mem_append_right _ (List.mem_append_left _ (List.mem_of_getElem? (l := tables_1_3) (i := 187) rfl))))) rfl
theorem wd_668 : ((Jvm.Cond.fieldLink "EditGuessModel" (34 : Nat) "EditGuessModel" "now" "[I") : Cond) ∈ zG := zgm (List.mem_append_right _ (List.mem_append_right _ (List.mem_append_right _ (List.mem_append_left _ (List.mem_of_getElem? (l := tables_1_3) (i := 188) rfl))))) rfl
theorem wd_669 : ((Jvm.Cond.fieldLink "EditGuessModel" (108 : Nat) "EditGuessModel" "size" "I") : Cond) ∈ zG := zgm (List.mem_append_right _ (List.mem_append_right _ (List.mem_append_right _ (List.mem_append_left _ (List.mem_of_getElem? (l := tables_1_3) (i := 189) rfl))))) rfl
theorem wd_670 : ((Jvm.Cond.fieldLink "EditGuessModel" (37 : Nat) "EditGuessModel" "workLine" "[I") : Cond) ∈ zG := zgm (List.mem_append_right _ (List.mem_append_right _ (List.mem_append_right _ (List.mem_append_left _ (List.mem_of_getElem? (l := tables_1_3) (i := 190) rfl))))) rfl
theorem wd_671 : ((Jvm.Cond.fieldLink "EditGuessModel" (40 : Nat) "EditGuessModel" "workOut" "[I") : Cond) ∈ zG := zgm (List.mem_append_right _ (List.mem_append_right _ (List.mem_append_right _ (List.mem_append_left _ (List.mem_of_getElem? (l := tables_1_3) (i := 191) rfl))))) rfl
theorem wd_672 : ((Jvm.Cond.fieldLink "EditGuessModel" (43 : Nat) "EditGuessModel" "workSize" "[I") : Cond) ∈ zG := zgm (List.mem_append_right _ (List.mem_append_right _ (List.mem_append_right _ (List.mem_append_left _ (List.mem_of_getElem? (l := tables_1_3) (i := 192) rfl))))) rfl
theorem wd_673 : ((Jvm.Cond.fieldLink "EditGuessModel" (46 : Nat) "EditGuessModel" "marks" "[I") : Cond) ∈ zG := zgm (List.mem_append_right _ (List.mem_append_right _ (List.mem_append_right _ (List.mem_append_left _ (List.mem_of_getElem? (l := tables_1_3) (i := 193) rfl))))) rfl
theorem wd_674 : ((Jvm.Cond.fieldLink "EditGuessModel" (124 : Nat) "EditGuessModel" "work" "I") : Cond) ∈ zG := zgm (List.mem_append_right _ (List.mem_append_right _ (List.mem_append_right _ (List.mem_append_left _ (List.mem_of_getElem? (l := tables_1_3) (i := 194) rfl))))) rfl
theorem wd_675 : ((Jvm.Cond.fieldLink "EditGuessModel" (49 : Nat) "EditGuessModel" "ways" "[J") : Cond) ∈ zG := zgm (List.mem_append_right _ (List.mem_append_right _ (List.mem_append_right _ (List.mem_append_left _ (List.mem_of_getElem? (l := tables_1_3) (i := 195) rfl))))) rfl
theorem wd_676 : ((Jvm.Cond.fieldLink "EditGuessModel" (53 : Nat) "EditGuessModel" "least" "[I") : Cond) ∈ zG := zgm (List.mem_append_right _ (List.mem_append_right _ (List.mem_append_right _ (List.mem_append_left _ (List.mem_of_getElem? (l := tables_1_3) (i := 196) rfl))))) rfl
theorem wd_677 : ((Jvm.Cond.fieldLink "EditGuessModel" (56 : Nat) "EditGuessModel" "kind" "[I") : Cond) ∈ zG := zgm (List.mem_append_right _ (List.mem_append_right _ (List.mem_append_right _ (List.mem_append_left _ (List.mem_of_getElem? (l := tables_1_3) (i := 197) rfl))))) rfl
theorem wd_678 : ((Jvm.Cond.fieldLink "EditGuessModel" (59 : Nat) "EditGuessModel" "one" "[I") : Cond) ∈ zG := zgm (List.mem_append_right _ (List.mem_append_right _ (List.mem_append_right _ (List.mem_append_left _ (List.mem_of_getElem? (l := tables_1_3) (i := 198) rfl))))) rfl
theorem wd_679 : ((Jvm.Cond.fieldLink "EditGuessModel" (62 : Nat) "EditGuessModel" "other" "[I") : Cond) ∈ zG := zgm (List.mem_append_right _ (List.mem_append_right _ (List.mem_append_right _ (List.mem_append_left _ (List.mem_of_getElem? (l := tables_1_3) (i := 199) rfl))))) rfl
theorem wd_680 : ((Jvm.Cond.fieldLink "EditGuessModel" (164 : Nat) "EditGuessModel" "pieces" "I") : Cond) ∈ zG := zgm (List.mem_append_right _ (List.mem_append_right _ (List.mem_append_right _ (List.mem_append_left _ (List.mem_of_getElem? (l := tables_1_3) (i := 200) rfl))))) rfl
theorem wd_681 : ((Jvm.Cond.fieldLink "EditGuessModel" (161 : Nat) "EditGuessModel" "cost" "I") : Cond) ∈ zG := zgm (List.mem_append_right _ (List.mem_append_right _ (List.mem_append_right _ (List.mem_append_left _ (List.mem_of_getElem? (l := tables_1_3) (i := 201) rfl))))) rfl
theorem wd_682 : ((Jvm.Cond.fieldLink "EditGuessModel" (65 : Nat) "EditGuessModel" "made" "[I") : Cond) ∈ zG := zgm (List.mem_append_right _ (List.mem_append_right _ (List.mem_append_right _ (List.mem_append_left _ (List.mem_of_getElem? (l := tables_1_3) (i := 202) rfl))))) rfl
theorem wd_683 : ((Jvm.Cond.fieldLink "EditGuessModel" (68 : Nat) "EditGuessModel" "image" "[I") : Cond) ∈ zG := zgm (List.mem_append_right _ (List.mem_append_right _ (List.mem_append_right _ (List.mem_append_left _ (List.mem_of_getElem? (l := tables_1_3) (i := 203) rfl))))) rfl
theorem wd_684 : ((Jvm.Cond.fieldLink "EditGuessModel" (71 : Nat) "EditGuessModel" "isKept" "[Z") : Cond) ∈ zG := zgm (List.mem_append_right _ (List.mem_append_right _ (List.mem_append_right _ (List.mem_append_left _ (List.mem_of_getElem? (l := tables_1_3) (i := 204) rfl))))) rfl
theorem wd_742 : ((Jvm.Cond.methodLink "EditGuessLaw" (17 : Nat) ({ cls := "EditGuessModel", name := "say", desc := "(I)I" } : Jvm.MethodName)) : Cond) ∈ zG := zgm (List.mem_append_right _ (List.mem_append_right _ (List.mem_append_right _ (List.mem_append_right _ ((List.mem_of_getElem? (l := tables_1_4) (i := 22) rfl)))))) rfl
theorem wd_743 : ((Jvm.Cond.instanceMethod ({ cls := "EditGuessModel", name := "say", desc := "(I)I" } : Jvm.MethodName)) : Cond) ∈ zG := zgm (List.mem_append_right _ (List.mem_append_right _ (List.mem_append_right _ (List.mem_append_right _ ((List.mem_of_getElem? (l := tables_1_4) (i := 23) rfl)))))) rfl
theorem wd_744 : ((Jvm.Cond.selects "EditGuessModel" ({ cls := "EditGuessModel", name := "say", desc := "(I)I" } : Jvm.MethodName) ({ cls := "EditGuessModel", name := "say", desc := "(I)I" } : Jvm.MethodName)) : Cond) ∈ zG := zgm (List.mem_append_right _ (List.mem_append_right _ (List.mem_append_right _ (List.mem_append_right _ ((List.mem_of_getElem? (l := tables_1_4) (i := 24) rfl)))))) rfl
theorem wd_745 : ((Jvm.Cond.code ({ cls := "EditGuessModel", name := "say", desc := "(I)I" } : Jvm.MethodName) prog_11_method_6_code (2 : Nat) (Option.some Jvm.ClassFile.FieldType.int)) : Cond) ∈ zG := zgm (List.mem_append_right _ (List.mem_append_right _ (List.mem_append_right _ (List.mem_append_right _ ((List.mem_of_getElem? (l := tables_1_4) (i := 25) rfl)))))) rfl
theorem wd_746 : ((Jvm.Cond.methodLink "EditGuessLaw" (22 : Nat) ({ cls := "EditGuessModel", name := "wipe", desc := "()I" } : Jvm.MethodName)) : Cond) ∈ zG := zgm (List.mem_append_right _ (List.mem_append_right _ (List.mem_append_right _ (List.mem_append_right _ ((List.mem_of_getElem? (l := tables_1_4) (i := 26) rfl)))))) rfl
theorem wd_747 : ((Jvm.Cond.instanceMethod ({ cls := "EditGuessModel", name := "wipe", desc := "()I" } : Jvm.MethodName)) : Cond) ∈ zG := zgm (List.mem_append_right _ (List.mem_append_right _ (List.mem_append_right _ (List.mem_append_right _ ((List.mem_of_getElem? (l := tables_1_4) (i := 27) rfl)))))) rfl
theorem wd_748 : ((Jvm.Cond.selects "EditGuessModel" ({ cls := "EditGuessModel", name := "wipe", desc := "()I" } : Jvm.MethodName) ({ cls := "EditGuessModel", name := "wipe", desc := "()I" } : Jvm.MethodName)) : Cond) ∈ zG := zgm (List.mem_append_right _ (List.mem_append_right _ (List.mem_append_right _ (List.mem_append_right _ ((List.mem_of_getElem? (l := tables_1_4) (i := 28) rfl)))))) rfl
theorem wd_749 : ((Jvm.Cond.code ({ cls := "EditGuessModel", name := "wipe", desc := "()I" } : Jvm.MethodName) prog_11_method_7_code (2 : Nat) (Option.some Jvm.ClassFile.FieldType.int)) : Cond) ∈ zG := zgm (List.mem_append_right _ (List.mem_append_right _ (List.mem_append_right _ (List.mem_append_right _ ((List.mem_of_getElem? (l := tables_1_4) (i := 29) rfl)))))) rfl
theorem wd_750 : ((Jvm.Cond.methodLink "EditGuessLaw" (26 : Nat) ({ cls := "EditGuessModel", name := "fault", desc := "(I)I" } : Jvm.MethodName)) : Cond) ∈ zG := zgm (List.mem_append_right _ (List.mem_append_right _ (List.mem_append_right _ (List.mem_append_right _ ((List.mem_of_getElem? (l := tables_1_4) (i := 30) rfl)))))) rfl
theorem wd_751 : ((Jvm.Cond.instanceMethod ({ cls := "EditGuessModel", name := "fault", desc := "(I)I" } : Jvm.MethodName)) : Cond) ∈ zG := zgm (List.mem_append_right _ (List.mem_append_right _ (List.mem_append_right _ (List.mem_append_right _ ((List.mem_of_getElem? (l := tables_1_4) (i := 31) rfl)))))) rfl
theorem wd_752 : ((Jvm.Cond.selects "EditGuessModel" ({ cls := "EditGuessModel", name := "fault", desc := "(I)I" } : Jvm.MethodName) ({ cls := "EditGuessModel", name := "fault", desc := "(I)I" } : Jvm.MethodName)) : Cond) ∈ zG := zgm (List.mem_append_right _ (List.mem_append_right _ (List.mem_append_right _ (List.mem_append_right _ ((List.mem_of_getElem? (l := tables_1_4) (i := 32) rfl)))))) rfl
theorem wd_753 : ((Jvm.Cond.code ({ cls := "EditGuessModel", name := "fault", desc := "(I)I" } : Jvm.MethodName) prog_11_method_10_code (2 : Nat) (Option.some Jvm.ClassFile.FieldType.int)) : Cond) ∈ zG := zgm (List.mem_append_right _ (List.mem_append_right _ (List.mem_append_right _ (List.mem_append_right _ ((List.mem_of_getElem? (l := tables_1_4) (i := 33) rfl)))))) rfl
theorem wd_754 : ((Jvm.Cond.methodLink "EditGuessModel" (91 : Nat) ({ cls := "EditGuessModel", name := "exampleFault", desc := "()I" } : Jvm.MethodName)) : Cond) ∈ zG := zgm (List.mem_append_right _ (List.mem_append_right _ (List.mem_append_right _ (List.mem_append_right _ ((List.mem_of_getElem? (l := tables_1_4) (i := 34) rfl)))))) rfl
theorem wd_756 : ((Jvm.Cond.instanceMethod ({ cls := "EditGuessModel", name := "exampleFault", desc := "()I" } : Jvm.MethodName)) : Cond) ∈ zG := zgm (List.mem_append_right _ (List.mem_append_right _ (List.mem_append_right _ (List.mem_append_right _ ((List.mem_of_getElem? (l := tables_1_4) (i := 36) rfl)))))) rfl
theorem wd_757 : ((Jvm.Cond.code ({ cls := "EditGuessModel", name := "exampleFault", desc := "()I" } : Jvm.MethodName) prog_11_method_8_code (5 : Nat) (Option.some Jvm.ClassFile.FieldType.int)) : Cond) ∈ zG := zgm (List.mem_append_right _ (List.mem_append_right _ (List.mem_append_right _ (List.mem_append_right _ ((List.mem_of_getElem? (l := tables_1_4) (i := 37) rfl)))))) rfl
theorem wd_758 : ((Jvm.Cond.methodLink "EditGuessModel" (87 : Nat) ({ cls := "EditGuessModel", name := "classOf", desc := "(I)I" } : Jvm.MethodName)) : Cond) ∈ zG := zgm (List.mem_append_right _ (List.mem_append_right _ (List.mem_append_right _ (List.mem_append_right _ ((List.mem_of_getElem? (l := tables_1_4) (i := 38) rfl)))))) rfl
theorem wd_759 : ((Jvm.Cond.static ({ cls := "EditGuessModel", name := "classOf", desc := "(I)I" } : Jvm.MethodName)) : Cond) ∈ zG := zgm (List.mem_append_right _ (List.mem_append_right _ (List.mem_append_right _ (List.mem_append_right _ ((List.mem_of_getElem? (l := tables_1_4) (i := 39) rfl)))))) rfl
theorem wd_760 : ((Jvm.Cond.code ({ cls := "EditGuessModel", name := "classOf", desc := "(I)I" } : Jvm.MethodName) prog_11_method_5_code (1 : Nat) (Option.some Jvm.ClassFile.FieldType.int)) : Cond) ∈ zG := zgm (List.mem_append_right _ (List.mem_append_right _ (List.mem_append_right _ (List.mem_append_right _ ((List.mem_of_getElem? (l := tables_1_4) (i := 40) rfl)))))) rfl
theorem wd_761 : ((Jvm.Cond.methodLink "EditGuessModel" (95 : Nat) ({ cls := "EditGuessModel", name := "lineFault", desc := "()I" } : Jvm.MethodName)) : Cond) ∈ zG := zgm (List.mem_append_right _ (List.mem_append_right _ (List.mem_append_right _ (List.mem_append_right _ ((List.mem_of_getElem? (l := tables_1_4) (i := 41) rfl)))))) rfl
theorem wd_763 : ((Jvm.Cond.instanceMethod ({ cls := "EditGuessModel", name := "lineFault", desc := "()I" } : Jvm.MethodName)) : Cond) ∈ zG := zgm (List.mem_append_right _ (List.mem_append_right _ (List.mem_append_right _ (List.mem_append_right _ ((List.mem_of_getElem? (l := tables_1_4) (i := 43) rfl)))))) rfl
theorem wd_764 : ((Jvm.Cond.code ({ cls := "EditGuessModel", name := "lineFault", desc := "()I" } : Jvm.MethodName) prog_11_method_9_code (2 : Nat) (Option.some Jvm.ClassFile.FieldType.int)) : Cond) ∈ zG := zgm (List.mem_append_right _ (List.mem_append_right _ (List.mem_append_right _ (List.mem_append_right _ ((List.mem_of_getElem? (l := tables_1_4) (i := 44) rfl)))))) rfl
theorem wd_765 : ((Jvm.Cond.methodLink "EditGuessLaw" (30 : Nat) ({ cls := "EditGuessModel", name := "example", desc := "()I" } : Jvm.MethodName)) : Cond) ∈ zG := zgm (List.mem_append_right _ (List.mem_append_right _ (List.mem_append_right _ (List.mem_append_right _ ((List.mem_of_getElem? (l := tables_1_4) (i := 45) rfl)))))) rfl
theorem wd_766 : ((Jvm.Cond.instanceMethod ({ cls := "EditGuessModel", name := "example", desc := "()I" } : Jvm.MethodName)) : Cond) ∈ zG := zgm (List.mem_append_right _ (List.mem_append_right _ (List.mem_append_right _ (List.mem_append_right _ ((List.mem_of_getElem? (l := tables_1_4) (i := 46) rfl)))))) rfl
theorem wd_767 : ((Jvm.Cond.selects "EditGuessModel" ({ cls := "EditGuessModel", name := "example", desc := "()I" } : Jvm.MethodName) ({ cls := "EditGuessModel", name := "example", desc := "()I" } : Jvm.MethodName)) : Cond) ∈ zG := zgm (List.mem_append_right _ (List.mem_append_right _ (List.mem_append_right _ (List.mem_append_right _ ((List.mem_of_getElem? (l := tables_1_4) (i := 47) rfl)))))) rfl
theorem wd_768 : ((Jvm.Cond.code ({ cls := "EditGuessModel", name := "example", desc := "()I" } : Jvm.MethodName) prog_11_method_11_code (3 : Nat) (Option.some Jvm.ClassFile.FieldType.int)) : Cond) ∈ zG := zgm (List.mem_append_right _ (List.mem_append_right _ (List.mem_append_right _ (List.mem_append_right _ ((List.mem_of_getElem? (l := tables_1_4) (i := 48) rfl)))))) rfl
theorem wd_769 : ((Jvm.Cond.methodLink "EditGuessLaw" (34 : Nat) ({ cls := "EditGuessModel", name := "forget", desc := "()I" } : Jvm.MethodName)) : Cond) ∈ zG := zgm (List.mem_append_right _ (List.mem_append_right _ (List.mem_append_right _ (List.mem_append_right _ ((List.mem_of_getElem? (l := tables_1_4) (i := 49) rfl)))))) rfl
theorem wd_770 : ((Jvm.Cond.instanceMethod ({ cls := "EditGuessModel", name := "forget", desc := "()I" } : Jvm.MethodName)) : Cond) ∈ zG := zgm (List.mem_append_right _ (List.mem_append_right _ (List.mem_append_right _ (List.mem_append_right _ ((List.mem_of_getElem? (l := tables_1_4) (i := 50) rfl)))))) rfl
theorem wd_771 : ((Jvm.Cond.selects "EditGuessModel" ({ cls := "EditGuessModel", name := "forget", desc := "()I" } : Jvm.MethodName) ({ cls := "EditGuessModel", name := "forget", desc := "()I" } : Jvm.MethodName)) : Cond) ∈ zG := zgm (List.mem_append_right _ (List.mem_append_right _ (List.mem_append_right _ (List.mem_append_right _ ((List.mem_of_getElem? (l := tables_1_4) (i := 51) rfl)))))) rfl
theorem wd_772 : ((Jvm.Cond.code ({ cls := "EditGuessModel", name := "forget", desc := "()I" } : Jvm.MethodName) prog_11_method_12_code (1 : Nat) (Option.some Jvm.ClassFile.FieldType.int)) : Cond) ∈ zG := zgm (List.mem_append_right _ (List.mem_append_right _ (List.mem_append_right _ (List.mem_append_right _ ((List.mem_of_getElem? (l := tables_1_4) (i := 52) rfl)))))) rfl
theorem wd_773 : ((Jvm.Cond.methodLink "EditGuessLaw" (38 : Nat) ({ cls := "EditGuessModel", name := "pool", desc := "()I" } : Jvm.MethodName)) : Cond) ∈ zG := zgm (List.mem_append_right _ (List.mem_append_right _ (List.mem_append_right _ (List.mem_append_right _ ((List.mem_of_getElem? (l := tables_1_4) (i := 53) rfl)))))) rfl
theorem wd_774 : ((Jvm.Cond.instanceMethod ({ cls := "EditGuessModel", name := "pool", desc := "()I" } : Jvm.MethodName)) : Cond) ∈ zG := zgm (List.mem_append_right _ (List.mem_append_right _ (List.mem_append_right _ (List.mem_append_right _ ((List.mem_of_getElem? (l := tables_1_4) (i := 54) rfl)))))) rfl
theorem wd_775 : ((Jvm.Cond.selects "EditGuessModel" ({ cls := "EditGuessModel", name := "pool", desc := "()I" } : Jvm.MethodName) ({ cls := "EditGuessModel", name := "pool", desc := "()I" } : Jvm.MethodName)) : Cond) ∈ zG := zgm (List.mem_append_right _ (List.mem_append_right _ (List.mem_append_right _ (List.mem_append_right _ ((List.mem_of_getElem? (l := tables_1_4) (i := 55) rfl)))))) rfl
theorem wd_776 : ((Jvm.Cond.code ({ cls := "EditGuessModel", name := "pool", desc := "()I" } : Jvm.MethodName) prog_11_method_13_code (2 : Nat) (Option.some Jvm.ClassFile.FieldType.int)) : Cond) ∈ zG := zgm (List.mem_append_right _ (List.mem_append_right _ (List.mem_append_right _ (List.mem_append_right _ ((List.mem_of_getElem? (l := tables_1_4) (i := 56) rfl)))))) rfl
theorem wd_777 : ((Jvm.Cond.methodLink "EditGuessLaw" (42 : Nat) ({ cls := "EditGuessModel", name := "drain", desc := "(I)I" } : Jvm.MethodName)) : Cond) ∈ zG := zgm (List.mem_append_right _ (List.mem_append_right _ (List.mem_append_right _ (List.mem_append_right _ ((List.mem_of_getElem? (l := tables_1_4) (i := 57) rfl)))))) rfl
theorem wd_778 : ((Jvm.Cond.instanceMethod ({ cls := "EditGuessModel", name := "drain", desc := "(I)I" } : Jvm.MethodName)) : Cond) ∈ zG := zgm (List.mem_append_right _ (List.mem_append_right _ (List.mem_append_right _ (List.mem_append_right _ ((List.mem_of_getElem? (l := tables_1_4) (i := 58) rfl)))))) rfl
theorem wd_779 : ((Jvm.Cond.selects "EditGuessModel" ({ cls := "EditGuessModel", name := "drain", desc := "(I)I" } : Jvm.MethodName) ({ cls := "EditGuessModel", name := "drain", desc := "(I)I" } : Jvm.MethodName)) : Cond) ∈ zG := zgm (List.mem_append_right _ (List.mem_append_right _ (List.mem_append_right _ (List.mem_append_right _ ((List.mem_of_getElem? (l := tables_1_4) (i := 59) rfl)))))) rfl
theorem wd_780 : ((Jvm.Cond.code ({ cls := "EditGuessModel", name := "drain", desc := "(I)I" } : Jvm.MethodName) prog_11_method_15_code (2 : Nat) (Option.some Jvm.ClassFile.FieldType.int)) : Cond) ∈ zG := zgm (List.mem_append_right _ (List.mem_append_right _ (List.mem_append_right _ (List.mem_append_right _ ((List.mem_of_getElem? (l := tables_1_4) (i := 60) rfl)))))) rfl
theorem wd_781 : ((Jvm.Cond.methodLink "EditGuessModel" (104 : Nat) ({ cls := "EditGuessModel", name := "goFrom", desc := "(I)V" } : Jvm.MethodName)) : Cond) ∈ zG := zgm (List.mem_append_right _ (List.mem_append_right _ (List.mem_append_right _ (List.mem_append_right _ ((List.mem_of_getElem? (l := tables_1_4) (i := 61) rfl)))))) rfl
theorem wd_783 : ((Jvm.Cond.instanceMethod ({ cls := "EditGuessModel", name := "goFrom", desc := "(I)V" } : Jvm.MethodName)) : Cond) ∈ zG := zgm (List.mem_append_right _ (List.mem_append_right _ (List.mem_append_right _ (List.mem_append_right _ ((List.mem_of_getElem? (l := tables_1_4) (i := 63) rfl)))))) rfl
theorem wd_784 : ((Jvm.Cond.code ({ cls := "EditGuessModel", name := "goFrom", desc := "(I)V" } : Jvm.MethodName) prog_11_method_14_code (4 : Nat) (Option.none : Option Jvm.ClassFile.FieldType)) : Cond) ∈ zG := zgm (List.mem_append_right _ (List.mem_append_right _ (List.mem_append_right _ (List.mem_append_right _ ((List.mem_of_getElem? (l := tables_1_4) (i := 64) rfl)))))) rfl
theorem wd_785 : ((Jvm.Cond.methodLink "EditGuessLaw" (60 : Nat) ({ cls := "EditGuessModel", name := "place", desc := "(I)I" } : Jvm.MethodName)) : Cond) ∈ zG := zgm (List.mem_append_right _ (List.mem_append_right _ (List.mem_append_right _ (List.mem_append_right _ ((List.mem_of_getElem? (l := tables_1_4) (i := 65) rfl)))))) rfl
theorem wd_786 : ((Jvm.Cond.instanceMethod ({ cls := "EditGuessModel", name := "place", desc := "(I)I" } : Jvm.MethodName)) : Cond) ∈ zG := zgm (List.mem_append_right _ (List.mem_append_right _ (List.mem_append_right _ (List.mem_append_right _ ((List.mem_of_getElem? (l := tables_1_4) (i := 66) rfl)))))) rfl
theorem wd_787 : ((Jvm.Cond.selects "EditGuessModel" ({ cls := "EditGuessModel", name := "place", desc := "(I)I" } : Jvm.MethodName) ({ cls := "EditGuessModel", name := "place", desc := "(I)I" } : Jvm.MethodName)) : Cond) ∈ zG := zgm (List.mem_append_right _ (List.mem_append_right _ (List.mem_append_right _ (List.mem_append_right _ ((List.mem_of_getElem? (l := tables_1_4) (i := 67) rfl)))))) rfl
theorem wd_788 : ((Jvm.Cond.code ({ cls := "EditGuessModel", name := "place", desc := "(I)I" } : Jvm.MethodName) prog_11_method_20_code (2 : Nat) (Option.some Jvm.ClassFile.FieldType.int)) : Cond) ∈ zG := zgm (List.mem_append_right _ (List.mem_append_right _ (List.mem_append_right _ (List.mem_append_right _ ((List.mem_of_getElem? (l := tables_1_4) (i := 68) rfl)))))) rfl
theorem wd_789 : ((Jvm.Cond.methodLink "EditGuessModel" (115 : Nat) ({ cls := "EditGuessModel", name := "lookAtPad", desc := "()V" } : Jvm.MethodName)) : Cond) ∈ zG := zgm (List.mem_append_right _ (List.mem_append_right _ (List.mem_append_right _ (List.mem_append_right _ ((List.mem_of_getElem? (l := tables_1_4) (i := 69) rfl)))))) rfl
theorem wd_791 : ((Jvm.Cond.instanceMethod ({ cls := "EditGuessModel", name := "lookAtPad", desc := "()V" } : Jvm.MethodName)) : Cond) ∈ zG := zgm (List.mem_append_right _ (List.mem_append_right _ (List.mem_append_right _ (List.mem_append_right _ ((List.mem_of_getElem? (l := tables_1_4) (i := 71) rfl)))))) rfl
theorem wd_792 : ((Jvm.Cond.code ({ cls := "EditGuessModel", name := "lookAtPad", desc := "()V" } : Jvm.MethodName) prog_11_method_16_code (2 : Nat) (Option.none : Option Jvm.ClassFile.FieldType)) : Cond) ∈ zG := zgm (List.mem_append_right _ (List.mem_append_right _ (List.mem_append_right _ (List.mem_append_right _ ((List.mem_of_getElem? (l := tables_1_4) (i := 72) rfl)))))) rfl
theorem wd_793 : ((Jvm.Cond.methodLink "EditGuessModel" (118 : Nat) ({ cls := "EditGuessModel", name := "placeOf", desc := "(I)I" } : Jvm.MethodName)) : Cond) ∈ zG := zgm (List.mem_append_right _ (List.mem_append_right _ (List.mem_append_right _ (List.mem_append_right _ ((List.mem_of_getElem? (l := tables_1_4) (i := 73) rfl)))))) rfl
theorem wd_795 : ((Jvm.Cond.instanceMethod ({ cls := "EditGuessModel", name := "placeOf", desc := "(I)I" } : Jvm.MethodName)) : Cond) ∈ zG := zgm (List.mem_append_right _ (List.mem_append_right _ (List.mem_append_right _ (List.mem_append_right _ ((List.mem_of_getElem? (l := tables_1_4) (i := 75) rfl)))))) rfl
theorem wd_796 : ((Jvm.Cond.code ({ cls := "EditGuessModel", name := "placeOf", desc := "(I)I" } : Jvm.MethodName) prog_11_method_19_code (2 : Nat) (Option.some Jvm.ClassFile.FieldType.int)) : Cond) ∈ zG := zgm (List.mem_append_right _ (List.mem_append_right _ (List.mem_append_right _ (List.mem_append_right _ ((List.mem_of_getElem? (l := tables_1_4) (i := 76) rfl)))))) rfl
theorem wd_797 : ((Jvm.Cond.methodLink "EditGuessModel" (111 : Nat) ({ cls := "EditGuessModel", name := "runAt", desc := "(IIZ)I" } : Jvm.MethodName)) : Cond) ∈ zG := zgm (List.mem_append_right _ (List.mem_append_right _ (List.mem_append_right _ (List.mem_append_right _ ((List.mem_of_getElem? (l := tables_1_4) (i := 77) rfl)))))) rfl
theorem wd_799 : ((Jvm.Cond.instanceMethod ({ cls := "EditGuessModel", name := "runAt", desc := "(IIZ)I" } : Jvm.MethodName)) : Cond) ∈ zG := zgm (List.mem_append_right _ (List.mem_append_right _ (List.mem_append_right _ (List.mem_append_right _ ((List.mem_of_getElem? (l := tables_1_4) (i := 79) rfl)))))) rfl
theorem wd_800 : ((Jvm.Cond.code ({ cls := "EditGuessModel", name := "runAt", desc := "(IIZ)I" } : Jvm.MethodName) prog_11_method_18_code (11 : Nat) (Option.some Jvm.ClassFile.FieldType.int)) : Cond) ∈ zG := zgm (List.mem_append_right _ (List.mem_append_right _ (List.mem_append_right _ (List.mem_append_right _ ((List.mem_of_getElem? (l := tables_1_4) (i := 80) rfl)))))) rfl
theorem wd_801 : ((Jvm.Cond.methodLink "EditGuessLaw" (47 : Nat) ({ cls := "EditGuessModel", name := "plans", desc := "()J" } : Jvm.MethodName)) : Cond) ∈ zG := zgm (List.mem_append_right _ (List.mem_append_right _ (List.mem_append_right _ (List.mem_append_right _ ((List.mem_of_getElem? (l := tables_1_4) (i := 81) rfl)))))) rfl
theorem wd_802 : ((Jvm.Cond.instanceMethod ({ cls := "EditGuessModel", name := "plans", desc := "()J" } : Jvm.MethodName)) : Cond) ∈ zG := zgm (List.mem_append_right _ (List.mem_append_right _ (List.mem_append_right _ (List.mem_append_right _ ((List.mem_of_getElem? (l := tables_1_4) (i := 82) rfl)))))) rfl
theorem wd_803 : ((Jvm.Cond.selects "EditGuessModel" ({ cls := "EditGuessModel", name := "plans", desc := "()J" } : Jvm.MethodName) ({ cls := "EditGuessModel", name := "plans", desc := "()J" } : Jvm.MethodName)) : Cond) ∈ zG := zgm (List.mem_append_right _ (List.mem_append_right _ (List.mem_append_right _ (List.mem_append_right _ ((List.mem_of_getElem? (l := tables_1_4) (i := 83) rfl)))))) rfl
theorem wd_804 : ((Jvm.Cond.code ({ cls := "EditGuessModel", name := "plans", desc := "()J" } : Jvm.MethodName) prog_11_method_34_code (1 : Nat) (Option.some Jvm.ClassFile.FieldType.long)) : Cond) ∈ zG := zgm (List.mem_append_right _ (List.mem_append_right _ (List.mem_append_right _ (List.mem_append_right _ ((List.mem_of_getElem? (l := tables_1_4) (i := 84) rfl)))))) rfl
theorem wd_805 : ((Jvm.Cond.constantLong "EditGuessModel" (170 : Nat) (-3 : Int64)) : Cond) ∈ zG := zgm (List.mem_append_right _ (List.mem_append_right _ (List.mem_append_right _ (List.mem_append_right _ ((List.mem_of_getElem? (l := tables_1_4) (i := 85) rfl)))))) rfl
theorem wd_806 : ((Jvm.Cond.methodLink "EditGuessModel" (150 : Nat) ({ cls := "EditGuessModel", name := "layExamples", desc := "()V" } : Jvm.MethodName)) : Cond) ∈ zG := zgm (List.mem_append_right _ (List.mem_append_right _ (List.mem_append_right _ (List.mem_append_right _ ((List.mem_of_getElem? (l := tables_1_4) (i := 86) rfl)))))) rfl
theorem wd_808 : ((Jvm.Cond.instanceMethod ({ cls := "EditGuessModel", name := "layExamples", desc := "()V" } : Jvm.MethodName)) : Cond) ∈ zG := zgm (List.mem_append_right _ (List.mem_append_right _ (List.mem_append_right _ (List.mem_append_right _ ((List.mem_of_getElem? (l := tables_1_4) (i := 88) rfl)))))) rfl
theorem wd_809 : ((Jvm.Cond.code ({ cls := "EditGuessModel", name := "layExamples", desc := "()V" } : Jvm.MethodName) prog_11_method_24_code (3 : Nat) (Option.none : Option Jvm.ClassFile.FieldType)) : Cond) ∈ zG := zgm (List.mem_append_right _ (List.mem_append_right _ (List.mem_append_right _ (List.mem_append_right _ ((List.mem_of_getElem? (l := tables_1_4) (i := 89) rfl)))))) rfl
theorem wd_810 : ((Jvm.Cond.methodLink "EditGuessModel" (127 : Nat) ({ cls := "EditGuessModel", name := "addWork", desc := "()V" } : Jvm.MethodName)) : Cond) ∈ zG := zgm (List.mem_append_right _ (List.mem_append_right _ (List.mem_append_right _ (List.mem_append_right _ ((List.mem_of_getElem? (l := tables_1_4) (i := 90) rfl)))))) rfl
theorem wd_812 : ((Jvm.Cond.instanceMethod ({ cls := "EditGuessModel", name := "addWork", desc := "()V" } : Jvm.MethodName)) : Cond) ∈ zG := zgm (List.mem_append_right _ (List.mem_append_right _ (List.mem_append_right _ (List.mem_append_right _ ((List.mem_of_getElem? (l := tables_1_4) (i := 92) rfl)))))) rfl
theorem wd_813 : ((Jvm.Cond.code ({ cls := "EditGuessModel", name := "addWork", desc := "()V" } : Jvm.MethodName) prog_11_method_23_code (2 : Nat) (Option.none : Option Jvm.ClassFile.FieldType)) : Cond) ∈ zG := zgm (List.mem_append_right _ (List.mem_append_right _ (List.mem_append_right _ (List.mem_append_right _ ((List.mem_of_getElem? (l := tables_1_4) (i := 93) rfl)))))) rfl
theorem wd_814 : ((Jvm.Cond.methodLink "EditGuessModel" (153 : Nat) ({ cls := "EditGuessModel", name := "count", desc := "()J" } : Jvm.MethodName)) : Cond) ∈ zG := zgm (List.mem_append_right _ (List.mem_append_right _ (List.mem_append_right _ (List.mem_append_right _ ((List.mem_of_getElem? (l := tables_1_4) (i := 94) rfl)))))) rfl
theorem wd_816 : ((Jvm.Cond.instanceMethod ({ cls := "EditGuessModel", name := "count", desc := "()J" } : Jvm.MethodName)) : Cond) ∈ zG := zgm (List.mem_append_right _ (List.mem_append_right _ (List.mem_append_right _ (List.mem_append_right _ ((List.mem_of_getElem? (l := tables_1_4) (i := 96) rfl)))))) rfl
theorem wd_817 : ((Jvm.Cond.code ({ cls := "EditGuessModel", name := "count", desc := "()J" } : Jvm.MethodName) prog_11_method_29_code (6 : Nat) (Option.some Jvm.ClassFile.FieldType.long)) : Cond) ∈ zG := zgm (List.mem_append_right _ (List.mem_append_right _ (List.mem_append_right _ (List.mem_append_right _ ((List.mem_of_getElem? (l := tables_1_4) (i := 97) rfl)))))) rfl
theorem wd_818 : ((Jvm.Cond.methodLink "EditGuessModel" (134 : Nat) ({ cls := "EditGuessModel", name := "rows", desc := "()I" } : Jvm.MethodName)) : Cond) ∈ zG := zgm (List.mem_append_right _ (List.mem_append_right _ (List.mem_append_right _ (List.mem_append_right _ ((List.mem_of_getElem? (l := tables_1_4) (i := 98) rfl)))))) rfl
theorem wd_820 : ((Jvm.Cond.instanceMethod ({ cls := "EditGuessModel", name := "rows", desc := "()I" } : Jvm.MethodName)) : Cond) ∈ zG := zgm (List.mem_append_right _ (List.mem_append_right _ (List.mem_append_right _ (List.mem_append_right _ ((List.mem_of_getElem? (l := tables_1_4) (i := 100) rfl)))))) rfl
theorem wd_821 : ((Jvm.Cond.code ({ cls := "EditGuessModel", name := "rows", desc := "()I" } : Jvm.MethodName) prog_11_method_28_code (1 : Nat) (Option.some Jvm.ClassFile.FieldType.int)) : Cond) ∈ zG := zgm (List.mem_append_right _ (List.mem_append_right _ (List.mem_append_right _ (List.mem_append_right _ ((List.mem_of_getElem? (l := tables_1_4) (i := 101) rfl)))))) rfl
theorem wd_822 : ((Jvm.Cond.methodLink "EditGuessModel" (121 : Nat) ({ cls := "EditGuessModel", name := "power", desc := "(I)I" } : Jvm.MethodName)) : Cond) ∈ zG := zgm (List.mem_append_right _ (List.mem_append_right _ (List.mem_append_right _ (List.mem_append_right _ ((List.mem_of_getElem? (l := tables_1_4) (i := 102) rfl)))))) rfl
theorem wd_823 : ((Jvm.Cond.static ({ cls := "EditGuessModel", name := "power", desc := "(I)I" } : Jvm.MethodName)) : Cond) ∈ zG := zgm (List.mem_append_right _ (List.mem_append_right _ (List.mem_append_right _ (List.mem_append_right _ ((List.mem_of_getElem? (l := tables_1_4) (i := 103) rfl)))))) rfl
theorem wd_824 : ((Jvm.Cond.code ({ cls := "EditGuessModel", name := "power", desc := "(I)I" } : Jvm.MethodName) prog_11_method_21_code (1 : Nat) (Option.some Jvm.ClassFile.FieldType.int)) : Cond) ∈ zG := zgm (List.mem_append_right _ (List.mem_append_right _ (List.mem_append_right _ (List.mem_append_right _ ((List.mem_of_getElem? (l := tables_1_4) (i := 104) rfl)))))) rfl
theorem wd_825 : ((Jvm.Cond.methodLink "EditGuessModel" (137 : Nat) ({ cls := "EditGuessModel", name := "cut", desc := "(III)I" } : Jvm.MethodName)) : Cond) ∈ zG := zgm (List.mem_append_right _ (List.mem_append_right _ (List.mem_append_right _ (List.mem_append_right _ ((List.mem_of_getElem? (l := tables_1_4) (i := 105) rfl)))))) rfl
theorem wd_827 : ((Jvm.Cond.instanceMethod ({ cls := "EditGuessModel", name := "cut", desc := "(III)I" } : Jvm.MethodName)) : Cond) ∈ zG := zgm (List.mem_append_right _ (List.mem_append_right _ (List.mem_append_right _ (List.mem_append_right _ ((List.mem_of_getElem? (l := tables_1_4) (i := 107) rfl)))))) rfl
theorem wd_828 : ((Jvm.Cond.code ({ cls := "EditGuessModel", name := "cut", desc := "(III)I" } : Jvm.MethodName) prog_11_method_25_code (10 : Nat) (Option.some Jvm.ClassFile.FieldType.int)) : Cond) ∈ zG := zgm (List.mem_append_right _ (List.mem_append_right _ (List.mem_append_right _ (List.mem_append_right _ ((List.mem_of_getElem? (l := tables_1_4) (i := 108) rfl)))))) rfl
theorem wd_829 : ((Jvm.Cond.methodLink "EditGuessModel" (130 : Nat) ({ cls := "EditGuessModel", name := "at", desc := "(II)I" } : Jvm.MethodName)) : Cond) ∈ zG := zgm (List.mem_append_right _ (List.mem_append_right _ (List.mem_append_right _ (List.mem_append_right _ ((List.mem_of_getElem? (l := tables_1_4) (i := 109) rfl)))))) rfl
theorem wd_830 : ((Jvm.Cond.static ({ cls := "EditGuessModel", name := "at", desc := "(II)I" } : Jvm.MethodName)) : Cond) ∈ zG := zgm (List.mem_append_right _ (List.mem_append_right _ (List.mem_append_right _ (List.mem_append_right _ ((List.mem_of_getElem? (l := tables_1_4) (i := 110) rfl)))))) rfl
theorem wd_831 : ((Jvm.Cond.code ({ cls := "EditGuessModel", name := "at", desc := "(II)I" } : Jvm.MethodName) prog_11_method_22_code (2 : Nat) (Option.some Jvm.ClassFile.FieldType.int)) : Cond) ∈ zG := zgm (List.mem_append_right _ (List.mem_append_right _ (List.mem_append_right _ (List.mem_append_right _ ((List.mem_of_getElem? (l := tables_1_4) (i := 111) rfl)))))) rfl
theorem wd_832 : ((Jvm.Cond.methodLink "EditGuessModel" (141 : Nat) ({ cls := "EditGuessModel", name := "text", desc := "(II)I" } : Jvm.MethodName)) : Cond) ∈ zG := zgm (List.mem_append_right _ (List.mem_append_right _ (List.mem_append_right _ (List.mem_append_right _ ((List.mem_of_getElem? (l := tables_1_4) (i := 112) rfl)))))) rfl
theorem wd_834 : ((Jvm.Cond.instanceMethod ({ cls := "EditGuessModel", name := "text", desc := "(II)I" } : Jvm.MethodName)) : Cond) ∈ zG := zgm (List.mem_append_right _ (List.mem_append_right _ (List.mem_append_right _ (List.mem_append_right _ ((List.mem_of_getElem? (l := tables_1_4) (i := 114) rfl)))))) rfl
theorem wd_835 : ((Jvm.Cond.code ({ cls := "EditGuessModel", name := "text", desc := "(II)I" } : Jvm.MethodName) prog_11_method_26_code (7 : Nat) (Option.some Jvm.ClassFile.FieldType.int)) : Cond) ∈ zG := zgm (List.mem_append_right _ (List.mem_append_right _ (List.mem_append_right _ (List.mem_append_right _ ((List.mem_of_getElem? (l := tables_1_4) (i := 115) rfl)))))) rfl
theorem wd_836 : ((Jvm.Cond.methodLink "EditGuessModel" (144 : Nat) ({ cls := "EditGuessModel", name := "end", desc := "()I" } : Jvm.MethodName)) : Cond) ∈ zG := zgm (List.mem_append_right _ (List.mem_append_right _ (List.mem_append_right _ (List.mem_append_right _ ((List.mem_of_getElem? (l := tables_1_4) (i := 116) rfl)))))) rfl
theorem wd_838 : ((Jvm.Cond.instanceMethod ({ cls := "EditGuessModel", name := "end", desc := "()I" } : Jvm.MethodName)) : Cond) ∈ zG := zgm (List.mem_append_right _ (List.mem_append_right _ (List.mem_append_right _ (List.mem_append_right _ ((List.mem_of_getElem? (l := tables_1_4) (i := 118) rfl)))))) rfl
theorem wd_839 : ((Jvm.Cond.code ({ cls := "EditGuessModel", name := "end", desc := "()I" } : Jvm.MethodName) prog_11_method_27_code (3 : Nat) (Option.some Jvm.ClassFile.FieldType.int)) : Cond) ∈ zG := zgm (List.mem_append_right _ (List.mem_append_right _ (List.mem_append_right _ (List.mem_append_right _ ((List.mem_of_getElem? (l := tables_1_4) (i := 119) rfl)))))) rfl
theorem wd_840 : ((Jvm.Cond.methodLink "EditGuessLaw" (51 : Nat) ({ cls := "EditGuessModel", name := "cost", desc := "(I)I" } : Jvm.MethodName)) : Cond) ∈ zG := zgm (List.mem_append_right _ (List.mem_append_right _ (List.mem_append_right _ (List.mem_append_right _ ((List.mem_of_getElem? (l := tables_1_4) (i := 120) rfl)))))) rfl
theorem wd_841 : ((Jvm.Cond.instanceMethod ({ cls := "EditGuessModel", name := "cost", desc := "(I)I" } : Jvm.MethodName)) : Cond) ∈ zG := zgm (List.mem_append_right _ (List.mem_append_right _ (List.mem_append_right _ (List.mem_append_right _ ((List.mem_of_getElem? (l := tables_1_4) (i := 121) rfl)))))) rfl
theorem wd_842 : ((Jvm.Cond.selects "EditGuessModel" ({ cls := "EditGuessModel", name := "cost", desc := "(I)I" } : Jvm.MethodName) ({ cls := "EditGuessModel", name := "cost", desc := "(I)I" } : Jvm.MethodName)) : Cond) ∈ zG := zgm (List.mem_append_right _ (List.mem_append_right _ (List.mem_append_right _ (List.mem_append_right _ ((List.mem_of_getElem? (l := tables_1_4) (i := 122) rfl)))))) rfl
theorem wd_843 : ((Jvm.Cond.code ({ cls := "EditGuessModel", name := "cost", desc := "(I)I" } : Jvm.MethodName) prog_11_method_35_code (2 : Nat) (Option.some Jvm.ClassFile.FieldType.int)) : Cond) ∈ zG := zgm (List.mem_append_right _ (List.mem_append_right _ (List.mem_append_right _ (List.mem_append_right _ ((List.mem_of_getElem? (l := tables_1_4) (i := 123) rfl)))))) rfl
theorem wd_844 : ((Jvm.Cond.methodLink "EditGuessModel" (172 : Nat) ({ cls := "EditGuessModel", name := "layBest", desc := "()Z" } : Jvm.MethodName)) : Cond) ∈ zG := zgm (List.mem_append_right _ (List.mem_append_right _ (List.mem_append_right _ (List.mem_append_right _ ((List.mem_of_getElem? (l := tables_1_4) (i := 124) rfl)))))) rfl
theorem wd_846 : ((Jvm.Cond.instanceMethod ({ cls := "EditGuessModel", name := "layBest", desc := "()Z" } : Jvm.MethodName)) : Cond) ∈ zG := zgm (List.mem_append_right _ (List.mem_append_right _ (List.mem_append_right _ (List.mem_append_right _ ((List.mem_of_getElem? (l := tables_1_4) (i := 126) rfl)))))) rfl
theorem wd_847 : ((Jvm.Cond.code ({ cls := "EditGuessModel", name := "layBest", desc := "()Z" } : Jvm.MethodName) prog_11_method_32_code (7 : Nat) (Option.some Jvm.ClassFile.FieldType.boolean)) : Cond) ∈ zG := zgm (List.mem_append_right _ (List.mem_append_right _ (List.mem_append_right _ (List.mem_append_right _ ((List.mem_of_getElem? (l := tables_1_4) (i := 127) rfl)))))) rfl
theorem wd_848 : ((Jvm.Cond.constant "EditGuessModel" (157 : Nat) (1000000 : Int32)) : Cond) ∈ zG := zgm (List.mem_append_right _ (List.mem_append_right _ (List.mem_append_right _ (List.mem_append_right _ ((List.mem_of_getElem? (l := tables_1_4) (i := 128) rfl)))))) rfl
theorem wd_849 : ((Jvm.Cond.methodLink "EditGuessModel" (158 : Nat) ({ cls := "EditGuessModel", name := "costOfCut", desc := "(II)I" } : Jvm.MethodName)) : Cond) ∈ zG := zgm (List.mem_append_right _ (List.mem_append_right _ (List.mem_append_right _ (List.mem_append_right _ ((List.mem_of_getElem? (l := tables_1_4) (i := 129) rfl)))))) rfl
theorem wd_851 : ((Jvm.Cond.instanceMethod ({ cls := "EditGuessModel", name := "costOfCut", desc := "(II)I" } : Jvm.MethodName)) : Cond) ∈ zG := zgm (List.mem_append_right _ (List.mem_append_right _ (List.mem_append_right _ (List.mem_append_right _ ((List.mem_of_getElem? (l := tables_1_4) (i := 131) rfl)))))) rfl
theorem wd_852 : ((Jvm.Cond.code ({ cls := "EditGuessModel", name := "costOfCut", desc := "(II)I" } : Jvm.MethodName) prog_11_method_30_code (3 : Nat) (Option.some Jvm.ClassFile.FieldType.int)) : Cond) ∈ zG := zgm (List.mem_append_right _ (List.mem_append_right _ (List.mem_append_right _ (List.mem_append_right _ ((List.mem_of_getElem? (l := tables_1_4) (i := 132) rfl)))))) rfl
theorem wd_853 : ((Jvm.Cond.methodLink "EditGuessModel" (147 : Nat) ({ cls := "EditGuessModel", name := "costOfMark", desc := "(I)I" } : Jvm.MethodName)) : Cond) ∈ zG := zgm (List.mem_append_right _ (List.mem_append_right _ (List.mem_append_right _ (List.mem_append_right _ ((List.mem_of_getElem? (l := tables_1_4) (i := 133) rfl)))))) rfl
theorem wd_854 : ((Jvm.Cond.static ({ cls := "EditGuessModel", name := "costOfMark", desc := "(I)I" } : Jvm.MethodName)) : Cond) ∈ zG := zgm (List.mem_append_right _ (List.mem_append_right _ (List.mem_append_right _ (List.mem_append_right _ ((List.mem_of_getElem? (l := tables_1_4) (i := 134) rfl)))))) rfl
theorem wd_855 : ((Jvm.Cond.code ({ cls := "EditGuessModel", name := "costOfMark", desc := "(I)I" } : Jvm.MethodName) prog_11_method_4_code (1 : Nat) (Option.some Jvm.ClassFile.FieldType.int)) : Cond) ∈ zG := zgm (List.mem_append_right _ (List.mem_append_right _ (List.mem_append_right _ (List.mem_append_right _ ((List.mem_of_getElem? (l := tables_1_4) (i := 135) rfl)))))) rfl
theorem wd_856 : ((Jvm.Cond.methodLink "EditGuessModel" (167 : Nat) ({ cls := "EditGuessModel", name := "goOn", desc := "(I)I" } : Jvm.MethodName)) : Cond) ∈ zG := zgm (List.mem_append_right _ (List.mem_append_right _ (List.mem_append_right _ (List.mem_append_right _ ((List.mem_of_getElem? (l := tables_1_4) (i := 136) rfl)))))) rfl
theorem wd_858 : ((Jvm.Cond.instanceMethod ({ cls := "EditGuessModel", name := "goOn", desc := "(I)I" } : Jvm.MethodName)) : Cond) ∈ zG := zgm (List.mem_append_right _ (List.mem_append_right _ (List.mem_append_right _ (List.mem_append_right _ ((List.mem_of_getElem? (l := tables_1_4) (i := 138) rfl)))))) rfl
theorem wd_859 : ((Jvm.Cond.code ({ cls := "EditGuessModel", name := "goOn", desc := "(I)I" } : Jvm.MethodName) prog_11_method_33_code (4 : Nat) (Option.some Jvm.ClassFile.FieldType.int)) : Cond) ∈ zG := zgm (List.mem_append_right _ (List.mem_append_right _ (List.mem_append_right _ (List.mem_append_right _ ((List.mem_of_getElem? (l := tables_1_4) (i := 139) rfl)))))) rfl
theorem wd_860 : ((Jvm.Cond.methodLink "EditGuessModel" (176 : Nat) ({ cls := "EditGuessModel", name := "costOfPiece", desc := "(I)I" } : Jvm.MethodName)) : Cond) ∈ zG := zgm (List.mem_append_right _ (List.mem_append_right _ (List.mem_append_right _ (List.mem_append_right _ ((List.mem_of_getElem? (l := tables_1_4) (i := 140) rfl)))))) rfl
theorem wd_862 : ((Jvm.Cond.instanceMethod ({ cls := "EditGuessModel", name := "costOfPiece", desc := "(I)I" } : Jvm.MethodName)) : Cond) ∈ zG := zgm (List.mem_append_right _ (List.mem_append_right _ (List.mem_append_right _ (List.mem_append_right _ ((List.mem_of_getElem? (l := tables_1_4) (i := 142) rfl)))))) rfl
theorem wd_863 : ((Jvm.Cond.code ({ cls := "EditGuessModel", name := "costOfPiece", desc := "(I)I" } : Jvm.MethodName) prog_11_method_31_code (2 : Nat) (Option.some Jvm.ClassFile.FieldType.int)) : Cond) ∈ zG := zgm (List.mem_append_right _ (List.mem_append_right _ (List.mem_append_right _ (List.mem_append_right _ ((List.mem_of_getElem? (l := tables_1_4) (i := 143) rfl)))))) rfl
theorem wd_864 : ((Jvm.Cond.methodLink "EditGuessLaw" (56 : Nat) ({ cls := "EditGuessModel", name := "piece", desc := "(II)I" } : Jvm.MethodName)) : Cond) ∈ zG := zgm (List.mem_append_right _ (List.mem_append_right _ (List.mem_append_right _ (List.mem_append_right _ ((List.mem_of_getElem? (l := tables_1_4) (i := 144) rfl)))))) rfl
theorem wd_865 : ((Jvm.Cond.instanceMethod ({ cls := "EditGuessModel", name := "piece", desc := "(II)I" } : Jvm.MethodName)) : Cond) ∈ zG := zgm (List.mem_append_right _ (List.mem_append_right _ (List.mem_append_right _ (List.mem_append_right _ ((List.mem_of_getElem? (l := tables_1_4) (i := 145) rfl)))))) rfl
theorem wd_866 : ((Jvm.Cond.selects "EditGuessModel" ({ cls := "EditGuessModel", name := "piece", desc := "(II)I" } : Jvm.MethodName) ({ cls := "EditGuessModel", name := "piece", desc := "(II)I" } : Jvm.MethodName)) : Cond) ∈ zG := zgm (List.mem_append_right _ (List.mem_append_right _ (List.mem_append_right _ (List.mem_append_right _ ((List.mem_of_getElem? (l := tables_1_4) (i := 146) rfl)))))) rfl
theorem wd_867 : ((Jvm.Cond.code ({ cls := "EditGuessModel", name := "piece", desc := "(II)I" } : Jvm.MethodName) prog_11_method_36_code (3 : Nat) (Option.some Jvm.ClassFile.FieldType.int)) : Cond) ∈ zG := zgm (List.mem_append_right _ (List.mem_append_right _ (List.mem_append_right _ (List.mem_append_right _ ((List.mem_of_getElem? (l := tables_1_4) (i := 147) rfl)))))) rfl
theorem wd_868 : ((Jvm.Cond.methodLink "EditGuessLaw" (64 : Nat) ({ cls := "EditGuessModel", name := "makes", desc := "(I)I" } : Jvm.MethodName)) : Cond) ∈ zG := zgm (List.mem_append_right _ (List.mem_append_right _ (List.mem_append_right _ (List.mem_append_right _ ((List.mem_of_getElem? (l := tables_1_4) (i := 148) rfl)))))) rfl
theorem wd_869 : ((Jvm.Cond.instanceMethod ({ cls := "EditGuessModel", name := "makes", desc := "(I)I" } : Jvm.MethodName)) : Cond) ∈ zG := zgm (List.mem_append_right _ (List.mem_append_right _ (List.mem_append_right _ (List.mem_append_right _ ((List.mem_of_getElem? (l := tables_1_4) (i := 149) rfl)))))) rfl
theorem wd_870 : ((Jvm.Cond.selects "EditGuessModel" ({ cls := "EditGuessModel", name := "makes", desc := "(I)I" } : Jvm.MethodName) ({ cls := "EditGuessModel", name := "makes", desc := "(I)I" } : Jvm.MethodName)) : Cond) ∈ zG := zgm (List.mem_append_right _ (List.mem_append_right _ (List.mem_append_right _ (List.mem_append_right _ ((List.mem_of_getElem? (l := tables_1_4) (i := 150) rfl)))))) rfl
theorem wd_871 : ((Jvm.Cond.code ({ cls := "EditGuessModel", name := "makes", desc := "(I)I" } : Jvm.MethodName) prog_11_method_38_code (3 : Nat) (Option.some Jvm.ClassFile.FieldType.int)) : Cond) ∈ zG := zgm (List.mem_append_right _ (List.mem_append_right _ (List.mem_append_right _ (List.mem_append_right _ ((List.mem_of_getElem? (l := tables_1_4) (i := 151) rfl)))))) rfl
theorem wd_872 : ((Jvm.Cond.methodLink "EditGuessModel" (179 : Nat) ({ cls := "EditGuessModel", name := "make", desc := "()I" } : Jvm.MethodName)) : Cond) ∈ zG := zgm (List.mem_append_right _ (List.mem_append_right _ (List.mem_append_right _ (List.mem_append_right _ ((List.mem_of_getElem? (l := tables_1_4) (i := 152) rfl)))))) rfl
theorem wd_874 : ((Jvm.Cond.instanceMethod ({ cls := "EditGuessModel", name := "make", desc := "()I" } : Jvm.MethodName)) : Cond) ∈ zG := zgm (List.mem_append_right _ (List.mem_append_right _ (List.mem_append_right _ (List.mem_append_right _ ((List.mem_of_getElem? (l := tables_1_4) (i := 154) rfl)))))) rfl
theorem wd_875 : ((Jvm.Cond.code ({ cls := "EditGuessModel", name := "make", desc := "()I" } : Jvm.MethodName) prog_11_method_37_code (6 : Nat) (Option.some Jvm.ClassFile.FieldType.int)) : Cond) ∈ zG := zgm (List.mem_append_right _ (List.mem_append_right _ (List.mem_append_right _ (List.mem_append_right _ ((List.mem_of_getElem? (l := tables_1_4) (i := 155) rfl)))))) rfl
theorem wd_876 : ((Jvm.Cond.methodLink "EditGuessLaw" (68 : Nat) ({ cls := "EditGuessModel", name := "accept", desc := "(I)I" } : Jvm.MethodName)) : Cond) ∈ zG := zgm (List.mem_append_right _ (List.mem_append_right _ (List.mem_append_right _ (List.mem_append_right _ ((List.mem_of_getElem? (l := tables_1_4) (i := 156) rfl)))))) rfl
theorem wd_877 : ((Jvm.Cond.instanceMethod ({ cls := "EditGuessModel", name := "accept", desc := "(I)I" } : Jvm.MethodName)) : Cond) ∈ zG := zgm (List.mem_append_right _ (List.mem_append_right _ (List.mem_append_right _ (List.mem_append_right _ ((List.mem_of_getElem? (l := tables_1_4) (i := 157) rfl)))))) rfl
theorem wd_878 : ((Jvm.Cond.selects "EditGuessModel" ({ cls := "EditGuessModel", name := "accept", desc := "(I)I" } : Jvm.MethodName) ({ cls := "EditGuessModel", name := "accept", desc := "(I)I" } : Jvm.MethodName)) : Cond) ∈ zG := zgm (List.mem_append_right _ (List.mem_append_right _ (List.mem_append_right _ (List.mem_append_right _ ((List.mem_of_getElem? (l := tables_1_4) (i := 158) rfl)))))) rfl
theorem wd_879 : ((Jvm.Cond.code ({ cls := "EditGuessModel", name := "accept", desc := "(I)I" } : Jvm.MethodName) prog_11_method_39_code (4 : Nat) (Option.some Jvm.ClassFile.FieldType.int)) : Cond) ∈ zG := zgm (List.mem_append_right _ (List.mem_append_right _ (List.mem_append_right _ (List.mem_append_right _ ((List.mem_of_getElem? (l := tables_1_4) (i := 159) rfl)))))) rfl
theorem wd_880 : ((Jvm.Cond.methodLink "EditGuessModel" (182 : Nat) ({ cls := "EditGuessModel", name := "lookAtPool", desc := "(I)V" } : Jvm.MethodName)) : Cond) ∈ zG := zgm (List.mem_append_right _ (List.mem_append_right _ (List.mem_append_right _ (List.mem_append_right _ ((List.mem_of_getElem? (l := tables_1_4) (i := 160) rfl)))))) rfl
theorem wd_882 : ((Jvm.Cond.instanceMethod ({ cls := "EditGuessModel", name := "lookAtPool", desc := "(I)V" } : Jvm.MethodName)) : Cond) ∈ zG := zgm (List.mem_append_right _ (List.mem_append_right _ (List.mem_append_right _ (List.mem_append_right _ ((List.mem_of_getElem? (l := tables_1_4) (i := 162) rfl)))))) rfl
theorem wd_883 : ((Jvm.Cond.code ({ cls := "EditGuessModel", name := "lookAtPool", desc := "(I)V" } : Jvm.MethodName) prog_11_method_17_code (3 : Nat) (Option.none : Option Jvm.ClassFile.FieldType)) : Cond) ∈ zG := zgm (List.mem_append_right _ (List.mem_append_right _ (List.mem_append_right _ (List.mem_append_right _ ((List.mem_of_getElem? (l := tables_1_4) (i := 163) rfl)))))) rfl
theorem wd_884 : ((Jvm.Cond.methodLink "EditGuessLaw" (73 : Nat) ({ cls := "EditGuessModel", name := "agreeing", desc := "(I)J" } : Jvm.MethodName)) : Cond) ∈ zG := zgm (List.mem_append_right _ (List.mem_append_right _ (List.mem_append_right _ (List.mem_append_right _ ((List.mem_of_getElem? (l := tables_1_4) (i := 164) rfl)))))) rfl
theorem wd_885 : ((Jvm.Cond.instanceMethod ({ cls := "EditGuessModel", name := "agreeing", desc := "(I)J" } : Jvm.MethodName)) : Cond) ∈ zG := zgm (List.mem_append_right _ (List.mem_append_right _ (List.mem_append_right _ (List.mem_append_right _ ((List.mem_of_getElem? (l := tables_1_4) (i := 165) rfl)))))) rfl
theorem wd_886 : ((Jvm.Cond.selects "EditGuessModel" ({ cls := "EditGuessModel", name := "agreeing", desc := "(I)J" } : Jvm.MethodName) ({ cls := "EditGuessModel", name := "agreeing", desc := "(I)J" } : Jvm.MethodName)) : Cond) ∈ zG := zgm (List.mem_append_right _ (List.mem_append_right _ (List.mem_append_right _ (List.mem_append_right _ ((List.mem_of_getElem? (l := tables_1_4) (i := 166) rfl)))))) rfl
theorem wd_887 : ((Jvm.Cond.code ({ cls := "EditGuessModel", name := "agreeing", desc := "(I)J" } : Jvm.MethodName) prog_11_method_41_code (2 : Nat) (Option.some Jvm.ClassFile.FieldType.long)) : Cond) ∈ zG := zgm (List.mem_append_right _ (List.mem_append_right _ (List.mem_append_right _ (List.mem_append_right _ ((List.mem_of_getElem? (l := tables_1_4) (i := 167) rfl)))))) rfl
theorem wd_888 : ((Jvm.Cond.constantLong "EditGuessModel" (187 : Nat) (-1 : Int64)) : Cond) ∈ zG := zgm (List.mem_append_right _ (List.mem_append_right _ (List.mem_append_right _ (List.mem_append_right _ ((List.mem_of_getElem? (l := tables_1_4) (i := 168) rfl)))))) rfl
theorem wd_889 : ((Jvm.Cond.methodLink "EditGuessModel" (189 : Nat) ({ cls := "EditGuessModel", name := "agreeingOf", desc := "(I)J" } : Jvm.MethodName)) : Cond) ∈ zG := zgm (List.mem_append_right _ (List.mem_append_right _ (List.mem_append_right _ (List.mem_append_right _ ((List.mem_of_getElem? (l := tables_1_4) (i := 169) rfl)))))) rfl
theorem wd_891 : ((Jvm.Cond.instanceMethod ({ cls := "EditGuessModel", name := "agreeingOf", desc := "(I)J" } : Jvm.MethodName)) : Cond) ∈ zG := zgm (List.mem_append_right _ (List.mem_append_right _ (List.mem_append_right _ (List.mem_append_right _ ((List.mem_of_getElem? (l := tables_1_4) (i := 171) rfl)))))) rfl
theorem wd_892 : ((Jvm.Cond.code ({ cls := "EditGuessModel", name := "agreeingOf", desc := "(I)J" } : Jvm.MethodName) prog_11_method_40_code (4 : Nat) (Option.some Jvm.ClassFile.FieldType.long)) : Cond) ∈ zG := zgm (List.mem_append_right _ (List.mem_append_right _ (List.mem_append_right _ (List.mem_append_right _ ((List.mem_of_getElem? (l := tables_1_4) (i := 172) rfl)))))) rfl
theorem wd_893 : ((Jvm.Cond.constantLong "EditGuessModel" (185 : Nat) (-5 : Int64)) : Cond) ∈ zG := zgm (List.mem_append_right _ (List.mem_append_right _ (List.mem_append_right _ (List.mem_append_right _ ((List.mem_of_getElem? (l := tables_1_4) (i := 173) rfl)))))) rfl
theorem wd_894 : ((Jvm.Cond.methodLink "EditGuessLaw" (77 : Nat) ({ cls := "EditGuessModel", name := "asked", desc := "()I" } : Jvm.MethodName)) : Cond) ∈ zG := zgm (List.mem_append_right _ (List.mem_append_right _ (List.mem_append_right _ (List.mem_append_right _ ((List.mem_of_getElem? (l := tables_1_4) (i := 174) rfl)))))) rfl
theorem wd_895 : ((Jvm.Cond.instanceMethod ({ cls := "EditGuessModel", name := "asked", desc := "()I" } : Jvm.MethodName)) : Cond) ∈ zG := zgm (List.mem_append_right _ (List.mem_append_right _ (List.mem_append_right _ (List.mem_append_right _ ((List.mem_of_getElem? (l := tables_1_4) (i := 175) rfl)))))) rfl
theorem wd_896 : ((Jvm.Cond.selects "EditGuessModel" ({ cls := "EditGuessModel", name := "asked", desc := "()I" } : Jvm.MethodName) ({ cls := "EditGuessModel", name := "asked", desc := "()I" } : Jvm.MethodName)) : Cond) ∈ zG := zgm (List.mem_append_right _ (List.mem_append_right _ (List.mem_append_right _ (List.mem_append_right _ ((List.mem_of_getElem? (l := tables_1_4) (i := 176) rfl)))))) rfl
theorem wd_897 : ((Jvm.Cond.code ({ cls := "EditGuessModel", name := "asked", desc := "()I" } : Jvm.MethodName) prog_11_method_42_code (8 : Nat) (Option.some Jvm.ClassFile.FieldType.int)) : Cond) ∈ zG := zgm (List.mem_append_right _ (List.mem_append_right _ (List.mem_append_right _ (List.mem_append_right _ ((List.mem_of_getElem? (l := tables_1_4) (i := 177) rfl)))))) rfl
theorem wd_898 : ((Jvm.Cond.methodLink "EditGuessLaw" (81 : Nat) ({ cls := "EditGuessModel", name := "image", desc := "(I)I" } : Jvm.MethodName)) : Cond) ∈ zG := zgm (List.mem_append_right _ (List.mem_append_right _ (List.mem_append_right _ (List.mem_append_right _ ((List.mem_of_getElem? (l := tables_1_4) (i := 178) rfl)))))) rfl
theorem wd_899 : ((Jvm.Cond.instanceMethod ({ cls := "EditGuessModel", name := "image", desc := "(I)I" } : Jvm.MethodName)) : Cond) ∈ zG := zgm (List.mem_append_right _ (List.mem_append_right _ (List.mem_append_right _ (List.mem_append_right _ ((List.mem_of_getElem? (l := tables_1_4) (i := 179) rfl)))))) rfl
theorem wd_900 : ((Jvm.Cond.selects "EditGuessModel" ({ cls := "EditGuessModel", name := "image", desc := "(I)I" } : Jvm.MethodName) ({ cls := "EditGuessModel", name := "image", desc := "(I)I" } : Jvm.MethodName)) : Cond) ∈ zG := zgm (List.mem_append_right _ (List.mem_append_right _ (List.mem_append_right _ (List.mem_append_right _ ((List.mem_of_getElem? (l := tables_1_4) (i := 180) rfl)))))) rfl
theorem wd_901 : ((Jvm.Cond.code ({ cls := "EditGuessModel", name := "image", desc := "(I)I" } : Jvm.MethodName) prog_11_method_43_code (4 : Nat) (Option.some Jvm.ClassFile.FieldType.int)) : Cond) ∈ zG := zgm (List.mem_append_right _ (List.mem_append_right _ (List.mem_append_right _ (List.mem_append_right _ ((List.mem_of_getElem? (l := tables_1_4) (i := 181) rfl)))))) rfl
theorem wd_902 : ((Jvm.Cond.methodLink "EditGuessLaw" (85 : Nat) ({ cls := "EditGuessModel", name := "restore", desc := "(I)I" } : Jvm.MethodName)) : Cond) ∈ zG := zgm (List.mem_append_right _ (List.mem_append_right _ (List.mem_append_right _ (List.mem_append_right _ ((List.mem_of_getElem? (l := tables_1_4) (i := 182) rfl)))))) rfl
theorem wd_903 : ((Jvm.Cond.instanceMethod ({ cls := "EditGuessModel", name := "restore", desc := "(I)I" } : Jvm.MethodName)) : Cond) ∈ zG := zgm (List.mem_append_right _ (List.mem_append_right _ (List.mem_append_right _ (List.mem_append_right _ ((List.mem_of_getElem? (l := tables_1_4) (i := 183) rfl)))))) rfl
theorem wd_904 : ((Jvm.Cond.selects "EditGuessModel" ({ cls := "EditGuessModel", name := "restore", desc := "(I)I" } : Jvm.MethodName) ({ cls := "EditGuessModel", name := "restore", desc := "(I)I" } : Jvm.MethodName)) : Cond) ∈ zG := zgm (List.mem_append_right _ (List.mem_append_right _ (List.mem_append_right _ (List.mem_append_right _ ((List.mem_of_getElem? (l := tables_1_4) (i := 184) rfl)))))) rfl
theorem wd_905 : ((Jvm.Cond.code ({ cls := "EditGuessModel", name := "restore", desc := "(I)I" } : Jvm.MethodName) prog_11_method_44_code (4 : Nat) (Option.some Jvm.ClassFile.FieldType.int)) : Cond) ∈ zG := zgm (List.mem_append_right _ (List.mem_append_right _ (List.mem_append_right _ (List.mem_append_right _ ((List.mem_of_getElem? (l := tables_1_4) (i := 185) rfl)))))) rfl
theorem wd_906 : ((Jvm.Cond.methodLink "EditGuessLaw" (89 : Nat) ({ cls := "EditGuessModel", name := "told", desc := "(I)I" } : Jvm.MethodName)) : Cond) ∈ zG := zgm (List.mem_append_right _ (List.mem_append_right _ (List.mem_append_right _ (List.mem_append_right _ ((List.mem_of_getElem? (l := tables_1_4) (i := 186) rfl)))))) rfl
theorem wd_907 : ((Jvm.Cond.instanceMethod ({ cls := "EditGuessModel", name := "told", desc := "(I)I" } : Jvm.MethodName)) : Cond) ∈ zG := zgm (List.mem_append_right _ (List.mem_append_right _ (List.mem_append_right _ (List.mem_append_right _ ((List.mem_of_getElem? (l := tables_1_4) (i := 187) rfl)))))) rfl
theorem wd_908 : ((Jvm.Cond.selects "EditGuessModel" ({ cls := "EditGuessModel", name := "told", desc := "(I)I" } : Jvm.MethodName) ({ cls := "EditGuessModel", name := "told", desc := "(I)I" } : Jvm.MethodName)) : Cond) ∈ zG := zgm (List.mem_append_right _ (List.mem_append_right _ (List.mem_append_right _ (List.mem_append_right _ ((List.mem_of_getElem? (l := tables_1_4) (i := 188) rfl)))))) rfl
theorem wd_909 : ((Jvm.Cond.code ({ cls := "EditGuessModel", name := "told", desc := "(I)I" } : Jvm.MethodName) prog_11_method_45_code (2 : Nat) (Option.some Jvm.ClassFile.FieldType.int)) : Cond) ∈ zG := zgm (List.mem_append_right _ (List.mem_append_right _ (List.mem_append_right _ (List.mem_append_right _ ((List.mem_of_getElem? (l := tables_1_4) (i := 189) rfl)))))) rfl
end
section
/-! the methods, and what the tables say of them -/
def m_E_init : Zm := (⟨"EditGuess", "<init>", "()V"⟩, prog_1_method_1_code, 2, none, (4, 239, 20840, 87), true)
def m_E_say : Zm := (⟨"EditGuess", "say", "(I)I"⟩, prog_1_method_2_code, 2, some .int, (3, 0, 0, 65), false)
def m_E_wipe : Zm := (⟨"EditGuess", "wipe", "()I"⟩, prog_1_method_3_code, 2, some .int, (2, 0, 0, 44), false)
def m_E_fault : Zm := (⟨"EditGuess", "fault", "(I)I"⟩, prog_1_method_4_code, 2, some .int, (4, 0, 0, 90), false)
def m_E_example : Zm := (⟨"EditGuess", "example", "()I"⟩, prog_1_method_5_code, 2, some .int, (5, 0, 0, 113), false)
def m_E_forget : Zm := (⟨"EditGuess", "forget", "()I"⟩, prog_1_method_6_code, 1, some .int, (3, 0, 0, 65), false)
def m_E_pool : Zm := (⟨"EditGuess", "pool", "()I"⟩, prog_1_method_7_code, 1, some .int, (6, 0, 0, 131), false)
def m_E_drain : Zm := (⟨"EditGuess", "drain", "(I)I"⟩, prog_1_method_8_code, 2, some .int, (6, 0, 0, 132), false)
def m_E_plans : Zm := (⟨"EditGuess", "plans", "()J"⟩, prog_1_method_9_code, 1, some .long, (8, 0, 0, 191), false)
def m_E_cost : Zm := (⟨"EditGuess", "cost", "(I)I"⟩, prog_1_method_10_code, 2, some .int, (8, 0, 0, 191), false)
def m_E_piece : Zm := (⟨"EditGuess", "piece", "(II)I"⟩, prog_1_method_11_code, 3, some .int, (8, 0, 0, 191), false)
def m_E_place : Zm := (⟨"EditGuess", "place", "(I)I"⟩, prog_1_method_12_code, 3, some .int, (4, 0, 0, 92), false)
def m_E_makes : Zm := (⟨"EditGuess", "makes", "(I)I"⟩, prog_1_method_13_code, 2, some .int, (8, 0, 0, 191), false)
def m_E_accept : Zm := (⟨"EditGuess", "accept", "(I)I"⟩, prog_1_method_14_code, 3, some .int, (8, 0, 0, 191), false)
def m_E_agreeing : Zm := (⟨"EditGuess", "agreeing", "(I)J"⟩, prog_1_method_15_code, 2, some .long, (8, 0, 0, 191), false)
def m_E_asked : Zm := (⟨"EditGuess", "asked", "()I"⟩, prog_1_method_16_code, 7, some .int, (8, 0, 0, 191), false)
def m_E_image : Zm := (⟨"EditGuess", "image", "(I)I"⟩, prog_1_method_17_code, 2, some .int, (6, 0, 0, 132), false)
def m_E_restore : Zm := (⟨"EditGuess", "restore", "(I)I"⟩, prog_1_method_18_code, 2, some .int, (6, 0, 0, 132), false)
def m_E_told : Zm := (⟨"EditGuess", "told", "(I)I"⟩, prog_1_method_19_code, 2, some .int, (2, 0, 0, 45), false)
def m_E_lineFault : Zm := (⟨"EditGuess", "lineFault", "()I"⟩, prog_1_method_20_code, 2, some .int, (3, 0, 0, 68), false)
def m_E_exampleFault : Zm := (⟨"EditGuess", "exampleFault", "()I"⟩, prog_1_method_21_code, 3, some .int, (3, 0, 0, 68), false)
def m_E_examplesChanged : Zm := (⟨"EditGuess", "examplesChanged", "()V"⟩, prog_1_method_22_code, 1, none, (2, 0, 0, 45), false)
def m_E_poolChanged : Zm := (⟨"EditGuess", "poolChanged", "()V"⟩, prog_1_method_23_code, 2, none, (1, 0, 0, 24), false)
def m_E_guess : Zm := (⟨"EditGuess", "guess", "()V"⟩, prog_1_method_24_code, 2, none, (7, 0, 0, 170), false)
def m_E_makesResult : Zm := (⟨"EditGuess", "makesResult", "(I)Z"⟩, prog_1_method_25_code, 2, some .boolean, (6, 0, 0, 139), false)
def m_E_countAgreeing : Zm := (⟨"EditGuess", "countAgreeing", "(I)J"⟩, prog_1_method_26_code, 2, some .long, (7, 0, 0, 169), false)
def m_M_init : Zm := (⟨"EditGuessModel", "<init>", "()V"⟩, prog_11_method_1_code, 3, none, (3, 21, 4000, 67), true)
def m_M_in : Zm := (⟨"EditGuessModel", "in", "(III)Z"⟩, prog_11_method_2_code, 3, some .boolean, (1, 0, 0, 24), false)
def m_M_isCode : Zm := (⟨"EditGuessModel", "isCode", "(I)Z"⟩, prog_11_method_3_code, 2, some .boolean, (2, 0, 0, 46), false)
def m_M_costOfMark : Zm := (⟨"EditGuessModel", "costOfMark", "(I)I"⟩, prog_11_method_4_code, 1, some .int, (1, 0, 0, 24), false)
def m_M_classOf : Zm := (⟨"EditGuessModel", "classOf", "(I)I"⟩, prog_11_method_5_code, 1, some .int, (2, 0, 0, 46), false)
def m_M_say : Zm := (⟨"EditGuessModel", "say", "(I)I"⟩, prog_11_method_6_code, 2, some .int, (2, 0, 0, 46), false)
def m_M_wipe : Zm := (⟨"EditGuessModel", "wipe", "()I"⟩, prog_11_method_7_code, 2, some .int, (1, 0, 0, 24), false)
def m_M_exampleFault : Zm := (⟨"EditGuessModel", "exampleFault", "()I"⟩, prog_11_method_8_code, 5, some .int, (3, 0, 0, 66), false)
def m_M_lineFault : Zm := (⟨"EditGuessModel", "lineFault", "()I"⟩, prog_11_method_9_code, 2, some .int, (3, 0, 0, 66), false)
def m_M_fault : Zm := (⟨"EditGuessModel", "fault", "(I)I"⟩, prog_11_method_10_code, 2, some .int, (4, 0, 0, 90), false)
def m_M_example : Zm := (⟨"EditGuessModel", "example", "()I"⟩, prog_11_method_11_code, 3, some .int, (4, 0, 0, 90), false)
def m_M_forget : Zm := (⟨"EditGuessModel", "forget", "()I"⟩, prog_11_method_12_code, 1, some .int, (1, 0, 0, 24), false)
def m_M_pool : Zm := (⟨"EditGuessModel", "pool", "()I"⟩, prog_11_method_13_code, 2, some .int, (4, 0, 0, 87), false)
def m_M_goFrom : Zm := (⟨"EditGuessModel", "goFrom", "(I)V"⟩, prog_11_method_14_code, 4, none, (1, 0, 0, 24), false)
def m_M_drain : Zm := (⟨"EditGuessModel", "drain", "(I)I"⟩, prog_11_method_15_code, 2, some .int, (2, 0, 0, 47), false)
def m_M_lookAtPad : Zm := (⟨"EditGuessModel", "lookAtPad", "()V"⟩, prog_11_method_16_code, 2, none, (1, 0, 0, 24), false)
def m_M_lookAtPool : Zm := (⟨"EditGuessModel", "lookAtPool", "(I)V"⟩, prog_11_method_17_code, 3, none, (1, 0, 0, 24), false)
def m_M_runAt : Zm := (⟨"EditGuessModel", "runAt", "(IIZ)I"⟩, prog_11_method_18_code, 11, some .int, (3, 0, 0, 66), false)
def m_M_placeOf : Zm := (⟨"EditGuessModel", "placeOf", "(I)I"⟩, prog_11_method_19_code, 2, some .int, (4, 0, 0, 96), false)
def m_M_place : Zm := (⟨"EditGuessModel", "place", "(I)I"⟩, prog_11_method_20_code, 2, some .int, (5, 0, 0, 117), false)
def m_M_power : Zm := (⟨"EditGuessModel", "power", "(I)I"⟩, prog_11_method_21_code, 1, some .int, (1, 0, 0, 24), false)
def m_M_at : Zm := (⟨"EditGuessModel", "at", "(II)I"⟩, prog_11_method_22_code, 2, some .int, (2, 0, 0, 44), false)
def m_M_addWork : Zm := (⟨"EditGuessModel", "addWork", "()V"⟩, prog_11_method_23_code, 2, none, (5, 0, 0, 117), false)
def m_M_layExamples : Zm := (⟨"EditGuessModel", "layExamples", "()V"⟩, prog_11_method_24_code, 3, none, (6, 0, 0, 138), false)
def m_M_cut : Zm := (⟨"EditGuessModel", "cut", "(III)I"⟩, prog_11_method_25_code, 10, some .int, (3, 0, 0, 65), false)
def m_M_text : Zm := (⟨"EditGuessModel", "text", "(II)I"⟩, prog_11_method_26_code, 7, some .int, (3, 0, 0, 65), false)
def m_M_end : Zm := (⟨"EditGuessModel", "end", "()I"⟩, prog_11_method_27_code, 3, some .int, (2, 0, 0, 44), false)
def m_M_rows : Zm := (⟨"EditGuessModel", "rows", "()I"⟩, prog_11_method_28_code, 1, some .int, (2, 0, 0, 44), false)
def m_M_count : Zm := (⟨"EditGuessModel", "count", "()J"⟩, prog_11_method_29_code, 6, some .long, (4, 0, 0, 94), false)
def m_M_costOfCut : Zm := (⟨"EditGuessModel", "costOfCut", "(II)I"⟩, prog_11_method_30_code, 3, some .int, (2, 0, 0, 44), false)
def m_M_costOfPiece : Zm := (⟨"EditGuessModel", "costOfPiece", "(I)I"⟩, prog_11_method_31_code, 2, some .int, (2, 0, 0, 44), false)
def m_M_layBest : Zm := (⟨"EditGuessModel", "layBest", "()Z"⟩, prog_11_method_32_code, 7, some .boolean, (7, 0, 0, 160), false)
def m_M_goOn : Zm := (⟨"EditGuessModel", "goOn", "(I)I"⟩, prog_11_method_33_code, 4, some .int, (4, 0, 0, 94), false)
def m_M_plans : Zm := (⟨"EditGuessModel", "plans", "()J"⟩, prog_11_method_34_code, 1, some .long, (7, 0, 0, 160), false)
def m_M_cost : Zm := (⟨"EditGuessModel", "cost", "(I)I"⟩, prog_11_method_35_code, 2, some .int, (8, 0, 0, 186), false)
def m_M_piece : Zm := (⟨"EditGuessModel", "piece", "(II)I"⟩, prog_11_method_36_code, 3, some .int, (8, 0, 0, 186), false)
def m_M_make : Zm := (⟨"EditGuessModel", "make", "()I"⟩, prog_11_method_37_code, 6, some .int, (5, 0, 0, 117), false)
def m_M_makes : Zm := (⟨"EditGuessModel", "makes", "(I)I"⟩, prog_11_method_38_code, 3, some .int, (8, 0, 0, 186), false)
def m_M_accept : Zm := (⟨"EditGuessModel", "accept", "(I)I"⟩, prog_11_method_39_code, 4, some .int, (8, 0, 0, 186), false)
def m_M_agreeingOf : Zm := (⟨"EditGuessModel", "agreeingOf", "(I)J"⟩, prog_11_method_40_code, 4, some .long, (6, 0, 0, 142), false)
def m_M_agreeing : Zm := (⟨"EditGuessModel", "agreeing", "(I)J"⟩, prog_11_method_41_code, 2, some .long, (8, 0, 0, 186), false)
def m_M_asked : Zm := (⟨"EditGuessModel", "asked", "()I"⟩, prog_11_method_42_code, 8, some .int, (8, 0, 0, 186), false)
def m_M_image : Zm := (⟨"EditGuessModel", "image", "(I)I"⟩, prog_11_method_43_code, 4, some .int, (2, 0, 0, 46), false)
def m_M_restore : Zm := (⟨"EditGuessModel", "restore", "(I)I"⟩, prog_11_method_44_code, 4, some .int, (2, 0, 0, 46), false)
def m_M_told : Zm := (⟨"EditGuessModel", "told", "(I)I"⟩, prog_11_method_45_code, 2, some .int, (2, 0, 0, 46), false)
def m_Bk_init : Zm := (⟨"EditGuess$Book", "<init>", "()V"⟩, prog_2_method_1_code, 2, none, (2, 39, 1488, 46), true)
def m_Bk_examples : Zm := (⟨"EditGuess$Book", "examples", "()I"⟩, prog_2_method_2_code, 1, some .int, (1, 0, 0, 24), false)
def m_Bk_pooled : Zm := (⟨"EditGuess$Book", "pooled", "()I"⟩, prog_2_method_3_code, 1, some .int, (1, 0, 0, 24), false)
def m_Bk_knows : Zm := (⟨"EditGuess$Book", "knows", "(I)Z"⟩, prog_2_method_4_code, 2, some .boolean, (1, 0, 0, 24), false)
def m_Bk_exampleLine : Zm := (⟨"EditGuess$Book", "exampleLine", "(I)LEditGuess$Signs;"⟩, prog_2_method_5_code, 2, some (.object "EditGuess$Signs"), (1, 0, 0, 24), false)
def m_Bk_result : Zm := (⟨"EditGuess$Book", "result", "(I)LEditGuess$Signs;"⟩, prog_2_method_6_code, 2, some (.object "EditGuess$Signs"), (1, 0, 0, 24), false)
def m_Bk_line : Zm := (⟨"EditGuess$Book", "line", "(I)LEditGuess$Signs;"⟩, prog_2_method_7_code, 2, some (.object "EditGuess$Signs"), (1, 0, 0, 24), false)
def m_Bk_addExample : Zm := (⟨"EditGuess$Book", "addExample", "(LEditGuess$Signs;ILEditGuess$Signs;I)V"⟩, prog_2_method_8_code, 5, none, (4, 0, 0, 89), false)
def m_Bk_dropExample : Zm := (⟨"EditGuess$Book", "dropExample", "()V"⟩, prog_2_method_9_code, 1, none, (1, 0, 0, 24), false)
def m_Bk_addLine : Zm := (⟨"EditGuess$Book", "addLine", "(LEditGuess$Signs;)V"⟩, prog_2_method_10_code, 2, none, (5, 0, 0, 110), false)
def m_Bk_dropLine : Zm := (⟨"EditGuess$Book", "dropLine", "(I)V"⟩, prog_2_method_11_code, 3, none, (5, 0, 0, 110), false)
def m_Bk_copy : Zm := (⟨"EditGuess$Book", "copy", "(LEditGuess$Book;)V"⟩, prog_2_method_12_code, 3, none, (5, 0, 0, 110), false)
def m_Ft_init : Zm := (⟨"EditGuess$Fitting", "<init>", "()V"⟩, prog_3_method_1_code, 2, none, (3, 87, 15453, 66), true)
def m_Ft_clear : Zm := (⟨"EditGuess$Fitting", "clear", "()V"⟩, prog_3_method_2_code, 1, none, (1, 0, 0, 24), false)
def m_Ft_addRow : Zm := (⟨"EditGuess$Fitting", "addRow", "(LEditGuess$Signs;LEditGuess$Signs;)V"⟩, prog_3_method_3_code, 3, none, (6, 0, 0, 134), false)
def m_Ft_dropRow : Zm := (⟨"EditGuess$Fitting", "dropRow", "()V"⟩, prog_3_method_4_code, 1, none, (1, 0, 0, 24), false)
def m_Ft_count : Zm := (⟨"EditGuess$Fitting", "count", "()J"⟩, prog_3_method_5_code, 4, some .long, (6, 0, 0, 146), false)
def m_Ft_addWays : Zm := (⟨"EditGuess$Fitting", "addWays", "(IJ)V"⟩, prog_3_method_6_code, 4, none, (1, 0, 0, 24), false)
def m_Ft_weigh : Zm := (⟨"EditGuess$Fitting", "weigh", "()V"⟩, prog_3_method_7_code, 5, none, (6, 0, 0, 146), false)
def m_Ft_leastFrom : Zm := (⟨"EditGuess$Fitting", "leastFrom", "(I)I"⟩, prog_3_method_8_code, 2, some .int, (1, 0, 0, 24), false)
def m_Ft_tell : Zm := (⟨"EditGuess$Fitting", "tell", "(LEditGuess$Plan;)V"⟩, prog_3_method_9_code, 6, none, (6, 0, 0, 137), false)
def m_Ft_tellCut : Zm := (⟨"EditGuess$Fitting", "tellCut", "(ILEditGuess$Plan;)I"⟩, prog_3_method_10_code, 8, some .int, (4, 0, 0, 98), false)
def m_Ft_tellText : Zm := (⟨"EditGuess$Fitting", "tellText", "(ILEditGuess$Plan;)I"⟩, prog_3_method_11_code, 6, some .int, (5, 0, 0, 112), false)
def m_Ft_listMoves : Zm := (⟨"EditGuess$Fitting", "listMoves", "(I)V"⟩, prog_3_method_12_code, 4, none, (5, 0, 0, 123), false)
def m_Ft_listCuts : Zm := (⟨"EditGuess$Fitting", "listCuts", "(II)V"⟩, prog_3_method_13_code, 6, none, (4, 0, 0, 98), false)
def m_Ft_groupMarks : Zm := (⟨"EditGuess$Fitting", "groupMarks", "()V"⟩, prog_3_method_14_code, 2, none, (4, 0, 0, 90), false)
def m_Ft_joinGroup : Zm := (⟨"EditGuess$Fitting", "joinGroup", "(I)V"⟩, prog_3_method_15_code, 3, none, (3, 0, 0, 68), false)
def m_Ft_isToldInAll : Zm := (⟨"EditGuess$Fitting", "isToldInAll", "(I)Z"⟩, prog_3_method_16_code, 3, some .boolean, (2, 0, 0, 45), false)
def m_Ft_tellSame : Zm := (⟨"EditGuess$Fitting", "tellSame", "(II)Z"⟩, prog_3_method_17_code, 4, some .boolean, (2, 0, 0, 45), false)
def m_Ft_reach : Zm := (⟨"EditGuess$Fitting", "reach", "(I)V"⟩, prog_3_method_18_code, 4, none, (1, 0, 0, 24), false)
def m_Ft_canBegin : Zm := (⟨"EditGuess$Fitting", "canBegin", "(I)Z"⟩, prog_3_method_19_code, 3, some .boolean, (2, 0, 0, 46), false)
def m_Ft_cutTarget : Zm := (⟨"EditGuess$Fitting", "cutTarget", "(III)I"⟩, prog_3_method_20_code, 8, some .int, (3, 0, 0, 71), false)
def m_Ft_textTarget : Zm := (⟨"EditGuess$Fitting", "textTarget", "(II)I"⟩, prog_3_method_21_code, 6, some .int, (1, 0, 0, 24), false)
def m_Ft_longestText : Zm := (⟨"EditGuess$Fitting", "longestText", "()I"⟩, prog_3_method_22_code, 2, some .int, (3, 0, 0, 68), false)
def m_Ft_isNextInAll : Zm := (⟨"EditGuess$Fitting", "isNextInAll", "(I)Z"⟩, prog_3_method_23_code, 4, some .boolean, (2, 0, 0, 45), false)
def m_Ft_lastState : Zm := (⟨"EditGuess$Fitting", "lastState", "()I"⟩, prog_3_method_24_code, 4, some .int, (2, 0, 0, 44), false)
def m_Mk_index : Zm := (⟨"EditGuess$Marks", "index", "(I)I"⟩, prog_4_method_2_code, 1, some .int, (2, 0, 0, 47), false)
def m_Mk_runIndex : Zm := (⟨"EditGuess$Marks", "runIndex", "(II)I"⟩, prog_4_method_3_code, 4, some .int, (1, 0, 0, 24), false)
def m_Mk_code : Zm := (⟨"EditGuess$Marks", "code", "(I)I"⟩, prog_4_method_4_code, 2, some .int, (2, 0, 0, 45), false)
def m_Mk_price : Zm := (⟨"EditGuess$Marks", "price", "(I)I"⟩, prog_4_method_5_code, 1, some .int, (2, 0, 0, 45), false)
def m_Mk_placeIn : Zm := (⟨"EditGuess$Marks", "placeIn", "(LEditGuess$Signs;I)I"⟩, prog_4_method_6_code, 3, some .int, (3, 0, 0, 70), false)
def m_Mk_kind : Zm := (⟨"EditGuess$Marks", "kind", "(I)I"⟩, prog_4_method_7_code, 1, some .int, (1, 0, 0, 24), false)
def m_Mk_turn : Zm := (⟨"EditGuess$Marks", "turn", "(I)I"⟩, prog_4_method_8_code, 2, some .int, (1, 0, 0, 24), false)
def m_Mk_runBegin : Zm := (⟨"EditGuess$Marks", "runBegin", "(LEditGuess$Signs;II)I"⟩, prog_4_method_9_code, 6, some .int, (2, 0, 0, 45), false)
def m_Mk_runEnd : Zm := (⟨"EditGuess$Marks", "runEnd", "(LEditGuess$Signs;I)I"⟩, prog_4_method_10_code, 3, some .int, (2, 0, 0, 45), false)
def m_Mv_init : Zm := (⟨"EditGuess$Moves", "<init>", "()V"⟩, prog_5_method_1_code, 1, none, (1, 3, 11547, 24), true)
def m_Mv_many : Zm := (⟨"EditGuess$Moves", "many", "()I"⟩, prog_5_method_2_code, 1, some .int, (1, 0, 0, 24), false)
def m_Mv_clear : Zm := (⟨"EditGuess$Moves", "clear", "()V"⟩, prog_5_method_3_code, 1, none, (1, 0, 0, 24), false)
def m_Mv_add : Zm := (⟨"EditGuess$Moves", "add", "(III)V"⟩, prog_5_method_4_code, 4, none, (1, 0, 0, 24), false)
def m_Mv_target : Zm := (⟨"EditGuess$Moves", "target", "(I)I"⟩, prog_5_method_5_code, 2, some .int, (1, 0, 0, 24), false)
def m_Mv_pieces : Zm := (⟨"EditGuess$Moves", "pieces", "(I)I"⟩, prog_5_method_6_code, 2, some .int, (1, 0, 0, 24), false)
def m_Mv_price : Zm := (⟨"EditGuess$Moves", "price", "(I)I"⟩, prog_5_method_7_code, 2, some .int, (1, 0, 0, 24), false)
def m_Pc_init : Zm := (⟨"EditGuess$Piece", "<init>", "()V"⟩, prog_6_method_1_code, 1, none, (2, 3, 123, 46), true)
def m_Pc_becomeCut : Zm := (⟨"EditGuess$Piece", "becomeCut", "(II)V"⟩, prog_6_method_2_code, 3, none, (1, 0, 0, 24), false)
def m_Pc_becomeText : Zm := (⟨"EditGuess$Piece", "becomeText", "(LEditGuess$Signs;II)V"⟩, prog_6_method_3_code, 4, none, (4, 0, 0, 89), false)
def m_Pc_price : Zm := (⟨"EditGuess$Piece", "price", "()I"⟩, prog_6_method_4_code, 1, some .int, (3, 0, 0, 65), false)
def m_Pc_textPrice : Zm := (⟨"EditGuess$Piece", "textPrice", "(I)I"⟩, prog_6_method_5_code, 1, some .int, (1, 0, 0, 24), false)
def m_Pc_cutPrice : Zm := (⟨"EditGuess$Piece", "cutPrice", "(II)I"⟩, prog_6_method_6_code, 2, some .int, (1, 0, 0, 24), false)
def m_Pc_tells : Zm := (⟨"EditGuess$Piece", "tells", "(I)I"⟩, prog_6_method_7_code, 2, some .int, (3, 0, 0, 66), false)
def m_Pc_addTo : Zm := (⟨"EditGuess$Piece", "addTo", "(LEditGuess$Signs;LEditGuess$Signs;)Z"⟩, prog_6_method_8_code, 5, some .boolean, (4, 0, 0, 92), false)
def m_Pl_init : Zm := (⟨"EditGuess$Plan", "<init>", "()V"⟩, prog_7_method_1_code, 2, none, (3, 21, 640, 66), true)
def m_Pl_many : Zm := (⟨"EditGuess$Plan", "many", "()I"⟩, prog_7_method_2_code, 1, some .int, (1, 0, 0, 24), false)
def m_Pl_clear : Zm := (⟨"EditGuess$Plan", "clear", "()V"⟩, prog_7_method_3_code, 1, none, (1, 0, 0, 24), false)
def m_Pl_at : Zm := (⟨"EditGuess$Plan", "at", "(I)LEditGuess$Piece;"⟩, prog_7_method_4_code, 2, some (.object "EditGuess$Piece"), (1, 0, 0, 24), false)
def m_Pl_next : Zm := (⟨"EditGuess$Plan", "next", "()LEditGuess$Piece;"⟩, prog_7_method_5_code, 2, some (.object "EditGuess$Piece"), (2, 0, 0, 45), false)
def m_Pl_price : Zm := (⟨"EditGuess$Plan", "price", "()I"⟩, prog_7_method_6_code, 3, some .int, (4, 0, 0, 85), false)
def m_Pl_applyTo : Zm := (⟨"EditGuess$Plan", "applyTo", "(LEditGuess$Signs;LEditGuess$Signs;)V"⟩, prog_7_method_7_code, 4, none, (5, 0, 0, 116), false)
def m_Rw_init : Zm := (⟨"EditGuess$Row", "<init>", "()V"⟩, prog_8_method_1_code, 1, none, (2, 18, 276, 46), true)
def m_Rw_become : Zm := (⟨"EditGuess$Row", "become", "(LEditGuess$Signs;LEditGuess$Signs;)V"⟩, prog_8_method_2_code, 5, none, (5, 0, 0, 110), false)
def m_Rw_countAlike : Zm := (⟨"EditGuess$Row", "countAlike", "(LEditGuess$Signs;II)I"⟩, prog_8_method_3_code, 4, some .int, (2, 0, 0, 45), false)
def m_Rw_result : Zm := (⟨"EditGuess$Row", "result", "()LEditGuess$Signs;"⟩, prog_8_method_4_code, 1, some (.object "EditGuess$Signs"), (1, 0, 0, 24), false)
def m_Rw_placeOf : Zm := (⟨"EditGuess$Row", "placeOf", "(I)I"⟩, prog_8_method_5_code, 2, some .int, (1, 0, 0, 24), false)
def m_Rw_longestFrom : Zm := (⟨"EditGuess$Row", "longestFrom", "(II)I"⟩, prog_8_method_6_code, 3, some .int, (1, 0, 0, 24), false)
def m_Rw_cutLength : Zm := (⟨"EditGuess$Row", "cutLength", "(III)I"⟩, prog_8_method_7_code, 6, some .int, (2, 0, 0, 46), false)
def m_Sg_init : Zm := (⟨"EditGuess$Signs", "<init>", "(I)V"⟩, prog_9_method_1_code, 3, none, (1, 2, 120, 24), true)
def m_Sg_many : Zm := (⟨"EditGuess$Signs", "many", "()I"⟩, prog_9_method_2_code, 1, some .int, (1, 0, 0, 24), false)
def m_Sg_clear : Zm := (⟨"EditGuess$Signs", "clear", "()V"⟩, prog_9_method_3_code, 1, none, (1, 0, 0, 24), false)
def m_Sg_add : Zm := (⟨"EditGuess$Signs", "add", "(I)Z"⟩, prog_9_method_4_code, 2, some .boolean, (2, 0, 0, 44), false)
def m_Sg_kindOf : Zm := (⟨"EditGuess$Signs", "kindOf", "(I)I"⟩, prog_9_method_5_code, 1, some .int, (1, 0, 0, 24), false)
def m_Sg_at : Zm := (⟨"EditGuess$Signs", "at", "(I)I"⟩, prog_9_method_6_code, 2, some .int, (1, 0, 0, 24), false)
def m_Sg_kindAt : Zm := (⟨"EditGuess$Signs", "kindAt", "(I)I"⟩, prog_9_method_7_code, 2, some .int, (1, 0, 0, 24), false)
def m_Sg_addFrom : Zm := (⟨"EditGuess$Signs", "addFrom", "(LEditGuess$Signs;II)V"⟩, prog_9_method_8_code, 5, none, (3, 0, 0, 65), false)
def m_Sg_copy : Zm := (⟨"EditGuess$Signs", "copy", "(LEditGuess$Signs;)V"⟩, prog_9_method_9_code, 2, none, (4, 0, 0, 89), false)
def m_Sg_signsEnd : Zm := (⟨"EditGuess$Signs", "signsEnd", "(II)I"⟩, prog_9_method_10_code, 4, some .int, (2, 0, 0, 45), false)
theorem mk_E_init : Zm0 m_E_init 0 := ⟨wd_16, wd_1, ⟨by decide, by decide⟩, by decide⟩
theorem mi_E_say : ZmI m_E_say 7 1 := ⟨⟨wd_219, wd_1, ⟨by decide, by decide⟩, by decide⟩, wd_217, wd_218, rfl, rfl, rfl, _, rfl, rfl⟩
theorem mi_E_wipe : ZmI m_E_wipe 7 0 := ⟨⟨wd_234, wd_1, ⟨by decide, by decide⟩, by decide⟩, wd_232, wd_233, rfl, rfl, rfl, _, rfl, rfl⟩
theorem mi_E_fault : ZmI m_E_fault 7 1 := ⟨⟨wd_242, wd_1, ⟨by decide, by decide⟩, by decide⟩, wd_240, wd_241, rfl, rfl, rfl, _, rfl, rfl⟩
theorem mi_E_example : ZmI m_E_example 7 0 := ⟨⟨wd_266, wd_1, ⟨by decide, by decide⟩, by decide⟩, wd_264, wd_265, rfl, rfl, rfl, _, rfl, rfl⟩
theorem mi_E_forget : ZmI m_E_forget 7 0 := ⟨⟨wd_290, wd_1, ⟨by decide, by decide⟩, by decide⟩, wd_288, wd_289, rfl, rfl, rfl, _, rfl, rfl⟩
theorem mi_E_pool : ZmI m_E_pool 7 0 := ⟨⟨wd_298, wd_1, ⟨by decide, by decide⟩, by decide⟩, wd_296, wd_297, rfl, rfl, rfl, _, rfl, rfl⟩
theorem mi_E_drain : ZmI m_E_drain 7 1 := ⟨⟨wd_316, wd_1, ⟨by decide, by decide⟩, by decide⟩, wd_314, wd_315, rfl, rfl, rfl, _, rfl, rfl⟩
theorem mi_E_plans : ZmI m_E_plans 7 0 := ⟨⟨wd_329, wd_1, ⟨by decide, by decide⟩, by decide⟩, wd_327, wd_328, rfl, rfl, rfl, _, rfl, rfl⟩
theorem mi_E_cost : ZmI m_E_cost 7 1 := ⟨⟨wd_544, wd_1, ⟨by decide, by decide⟩, by decide⟩, wd_542, wd_543, rfl, rfl, rfl, _, rfl, rfl⟩
theorem mi_E_piece : ZmI m_E_piece 7 2 := ⟨⟨wd_566, wd_1, ⟨by decide, by decide⟩, by decide⟩, wd_564, wd_565, rfl, rfl, rfl, _, rfl, rfl⟩
theorem mi_E_place : ZmI m_E_place 7 1 := ⟨⟨wd_578, wd_1, ⟨by decide, by decide⟩, by decide⟩, wd_576, wd_577, rfl, rfl, rfl, _, rfl, rfl⟩
theorem mi_E_makes : ZmI m_E_makes 7 1 := ⟨⟨wd_589, wd_1, ⟨by decide, by decide⟩, by decide⟩, wd_587, wd_588, rfl, rfl, rfl, _, rfl, rfl⟩
theorem mi_E_accept : ZmI m_E_accept 7 1 := ⟨⟨wd_603, wd_1, ⟨by decide, by decide⟩, by decide⟩, wd_601, wd_602, rfl, rfl, rfl, _, rfl, rfl⟩
theorem mi_E_agreeing : ZmI m_E_agreeing 7 1 := ⟨⟨wd_615, wd_1, ⟨by decide, by decide⟩, by decide⟩, wd_613, wd_614, rfl, rfl, rfl, _, rfl, rfl⟩
theorem mi_E_asked : ZmI m_E_asked 7 0 := ⟨⟨wd_628, wd_1, ⟨by decide, by decide⟩, by decide⟩, wd_626, wd_627, rfl, rfl, rfl, _, rfl, rfl⟩
theorem mi_E_image : ZmI m_E_image 7 1 := ⟨⟨wd_632, wd_1, ⟨by decide, by decide⟩, by decide⟩, wd_630, wd_631, rfl, rfl, rfl, _, rfl, rfl⟩
theorem mi_E_restore : ZmI m_E_restore 7 1 := ⟨⟨wd_640, wd_1, ⟨by decide, by decide⟩, by decide⟩, wd_638, wd_639, rfl, rfl, rfl, _, rfl, rfl⟩
theorem mi_E_told : ZmI m_E_told 7 1 := ⟨⟨wd_644, wd_1, ⟨by decide, by decide⟩, by decide⟩, wd_642, wd_643, rfl, rfl, rfl, _, rfl, rfl⟩
theorem mi_E_lineFault : ZmI m_E_lineFault 7 0 := ⟨⟨wd_262, wd_1, ⟨by decide, by decide⟩, by decide⟩, wd_261, ws_2, rfl, rfl, rfl, _, rfl, rfl⟩
theorem mi_E_exampleFault : ZmI m_E_exampleFault 7 0 := ⟨⟨wd_246, wd_1, ⟨by decide, by decide⟩, by decide⟩, wd_245, ws_1, rfl, rfl, rfl, _, rfl, rfl⟩
theorem mi_E_examplesChanged : ZmI m_E_examplesChanged 7 0 := ⟨⟨wd_286, wd_1, ⟨by decide, by decide⟩, by decide⟩, wd_285, ws_3, rfl, rfl, rfl, _, rfl, rfl⟩
theorem mi_E_poolChanged : ZmI m_E_poolChanged 7 0 := ⟨⟨wd_183, wd_1, ⟨by decide, by decide⟩, by decide⟩, wd_182, ws_0, rfl, rfl, rfl, _, rfl, rfl⟩
theorem mi_E_guess : ZmI m_E_guess 7 0 := ⟨⟨wd_334, wd_1, ⟨by decide, by decide⟩, by decide⟩, wd_333, ws_4, rfl, rfl, rfl, _, rfl, rfl⟩
theorem mi_E_makesResult : ZmI m_E_makesResult 7 1 := ⟨⟨wd_607, wd_1, ⟨by decide, by decide⟩, by decide⟩, wd_606, ws_23, rfl, rfl, rfl, _, rfl, rfl⟩
theorem mi_E_countAgreeing : ZmI m_E_countAgreeing 7 1 := ⟨⟨wd_619, wd_1, ⟨by decide, by decide⟩, by decide⟩, wd_618, ws_24, rfl, rfl, rfl, _, rfl, rfl⟩
theorem mk_M_init : Zm0 m_M_init 0 := ⟨wd_649, wd_10, ⟨by decide, by decide⟩, by decide⟩
theorem ms_M_in : ZmS m_M_in 3 := ⟨⟨wd_656, wd_10, ⟨by decide, by decide⟩, by decide⟩, wd_655, rfl, rfl, rfl⟩
theorem ms_M_isCode : ZmS m_M_isCode 1 := ⟨⟨wd_653, wd_10, ⟨by decide, by decide⟩, by decide⟩, wd_652, rfl, rfl, rfl⟩
theorem ms_M_costOfMark : ZmS m_M_costOfMark 1 := ⟨⟨wd_855, wd_10, ⟨by decide, by decide⟩, by decide⟩, wd_854, rfl, rfl, rfl⟩
theorem ms_M_classOf : ZmS m_M_classOf 1 := ⟨⟨wd_760, wd_10, ⟨by decide, by decide⟩, by decide⟩, wd_759, rfl, rfl, rfl⟩
theorem mi_M_say : ZmI m_M_say 8 1 := ⟨⟨wd_745, wd_10, ⟨by decide, by decide⟩, by decide⟩, wd_743, wd_744, rfl, rfl, rfl, _, rfl, rfl⟩
theorem mi_M_wipe : ZmI m_M_wipe 8 0 := ⟨⟨wd_749, wd_10, ⟨by decide, by decide⟩, by decide⟩, wd_747, wd_748, rfl, rfl, rfl, _, rfl, rfl⟩
theorem mi_M_exampleFault : ZmI m_M_exampleFault 8 0 := ⟨⟨wd_757, wd_10, ⟨by decide, by decide⟩, by decide⟩, wd_756, ws_25, rfl, rfl, rfl, _, rfl, rfl⟩
theorem mi_M_lineFault : ZmI m_M_lineFault 8 0 := ⟨⟨wd_764, wd_10, ⟨by decide, by decide⟩, by decide⟩, wd_763, ws_26, rfl, rfl, rfl, _, rfl, rfl⟩
theorem mi_M_fault : ZmI m_M_fault 8 1 := ⟨⟨wd_753, wd_10, ⟨by decide, by decide⟩, by decide⟩, wd_751, wd_752, rfl, rfl, rfl, _, rfl, rfl⟩
theorem mi_M_example : ZmI m_M_example 8 0 := ⟨⟨wd_768, wd_10, ⟨by decide, by decide⟩, by decide⟩, wd_766, wd_767, rfl, rfl, rfl, _, rfl, rfl⟩
theorem mi_M_forget : ZmI m_M_forget 8 0 := ⟨⟨wd_772, wd_10, ⟨by decide, by decide⟩, by decide⟩, wd_770, wd_771, rfl, rfl, rfl, _, rfl, rfl⟩
theorem mi_M_pool : ZmI m_M_pool 8 0 := ⟨⟨wd_776, wd_10, ⟨by decide, by decide⟩, by decide⟩, wd_774, wd_775, rfl, rfl, rfl, _, rfl, rfl⟩
theorem mi_M_goFrom : ZmI m_M_goFrom 8 1 := ⟨⟨wd_784, wd_10, ⟨by decide, by decide⟩, by decide⟩, wd_783, ws_27, rfl, rfl, rfl, _, rfl, rfl⟩
theorem mi_M_drain : ZmI m_M_drain 8 1 := ⟨⟨wd_780, wd_10, ⟨by decide, by decide⟩, by decide⟩, wd_778, wd_779, rfl, rfl, rfl, _, rfl, rfl⟩
theorem mi_M_lookAtPad : ZmI m_M_lookAtPad 8 0 := ⟨⟨wd_792, wd_10, ⟨by decide, by decide⟩, by decide⟩, wd_791, ws_28, rfl, rfl, rfl, _, rfl, rfl⟩
theorem mi_M_lookAtPool : ZmI m_M_lookAtPool 8 1 := ⟨⟨wd_883, wd_10, ⟨by decide, by decide⟩, by decide⟩, wd_882, ws_43, rfl, rfl, rfl, _, rfl, rfl⟩
theorem mi_M_runAt : ZmI m_M_runAt 8 3 := ⟨⟨wd_800, wd_10, ⟨by decide, by decide⟩, by decide⟩, wd_799, ws_30, rfl, rfl, rfl, _, rfl, rfl⟩
theorem mi_M_placeOf : ZmI m_M_placeOf 8 1 := ⟨⟨wd_796, wd_10, ⟨by decide, by decide⟩, by decide⟩, wd_795, ws_29, rfl, rfl, rfl, _, rfl, rfl⟩
theorem mi_M_place : ZmI m_M_place 8 1 := ⟨⟨wd_788, wd_10, ⟨by decide, by decide⟩, by decide⟩, wd_786, wd_787, rfl, rfl, rfl, _, rfl, rfl⟩
theorem ms_M_power : ZmS m_M_power 1 := ⟨⟨wd_824, wd_10, ⟨by decide, by decide⟩, by decide⟩, wd_823, rfl, rfl, rfl⟩
theorem ms_M_at : ZmS m_M_at 2 := ⟨⟨wd_831, wd_10, ⟨by decide, by decide⟩, by decide⟩, wd_830, rfl, rfl, rfl⟩
theorem mi_M_addWork : ZmI m_M_addWork 8 0 := ⟨⟨wd_813, wd_10, ⟨by decide, by decide⟩, by decide⟩, wd_812, ws_32, rfl, rfl, rfl, _, rfl, rfl⟩
theorem mi_M_layExamples : ZmI m_M_layExamples 8 0 := ⟨⟨wd_809, wd_10, ⟨by decide, by decide⟩, by decide⟩, wd_808, ws_31, rfl, rfl, rfl, _, rfl, rfl⟩
theorem mi_M_cut : ZmI m_M_cut 8 3 := ⟨⟨wd_828, wd_10, ⟨by decide, by decide⟩, by decide⟩, wd_827, ws_35, rfl, rfl, rfl, _, rfl, rfl⟩
theorem mi_M_text : ZmI m_M_text 8 2 := ⟨⟨wd_835, wd_10, ⟨by decide, by decide⟩, by decide⟩, wd_834, ws_36, rfl, rfl, rfl, _, rfl, rfl⟩
theorem mi_M_end : ZmI m_M_end 8 0 := ⟨⟨wd_839, wd_10, ⟨by decide, by decide⟩, by decide⟩, wd_838, ws_37, rfl, rfl, rfl, _, rfl, rfl⟩
theorem mi_M_rows : ZmI m_M_rows 8 0 := ⟨⟨wd_821, wd_10, ⟨by decide, by decide⟩, by decide⟩, wd_820, ws_34, rfl, rfl, rfl, _, rfl, rfl⟩
theorem mi_M_count : ZmI m_M_count 8 0 := ⟨⟨wd_817, wd_10, ⟨by decide, by decide⟩, by decide⟩, wd_816, ws_33, rfl, rfl, rfl, _, rfl, rfl⟩
theorem mi_M_costOfCut : ZmI m_M_costOfCut 8 2 := ⟨⟨wd_852, wd_10, ⟨by decide, by decide⟩, by decide⟩, wd_851, ws_39, rfl, rfl, rfl, _, rfl, rfl⟩
theorem mi_M_costOfPiece : ZmI m_M_costOfPiece 8 1 := ⟨⟨wd_863, wd_10, ⟨by decide, by decide⟩, by decide⟩, wd_862, ws_41, rfl, rfl, rfl, _, rfl, rfl⟩
theorem mi_M_layBest : ZmI m_M_layBest 8 0 := ⟨⟨wd_847, wd_10, ⟨by decide, by decide⟩, by decide⟩, wd_846, ws_38, rfl, rfl, rfl, _, rfl, rfl⟩
theorem mi_M_goOn : ZmI m_M_goOn 8 1 := ⟨⟨wd_859, wd_10, ⟨by decide, by decide⟩, by decide⟩, wd_858, ws_40, rfl, rfl, rfl, _, rfl, rfl⟩
theorem mi_M_plans : ZmI m_M_plans 8 0 := ⟨⟨wd_804, wd_10, ⟨by decide, by decide⟩, by decide⟩, wd_802, wd_803, rfl, rfl, rfl, _, rfl, rfl⟩
theorem mi_M_cost : ZmI m_M_cost 8 1 := ⟨⟨wd_843, wd_10, ⟨by decide, by decide⟩, by decide⟩, wd_841, wd_842, rfl, rfl, rfl, _, rfl, rfl⟩
theorem mi_M_piece : ZmI m_M_piece 8 2 := ⟨⟨wd_867, wd_10, ⟨by decide, by decide⟩, by decide⟩, wd_865, wd_866, rfl, rfl, rfl, _, rfl, rfl⟩
theorem mi_M_make : ZmI m_M_make 8 0 := ⟨⟨wd_875, wd_10, ⟨by decide, by decide⟩, by decide⟩, wd_874, ws_42, rfl, rfl, rfl, _, rfl, rfl⟩
theorem mi_M_makes : ZmI m_M_makes 8 1 := ⟨⟨wd_871, wd_10, ⟨by decide, by decide⟩, by decide⟩, wd_869, wd_870, rfl, rfl, rfl, _, rfl, rfl⟩
theorem mi_M_accept : ZmI m_M_accept 8 1 := ⟨⟨wd_879, wd_10, ⟨by decide, by decide⟩, by decide⟩, wd_877, wd_878, rfl, rfl, rfl, _, rfl, rfl⟩
theorem mi_M_agreeingOf : ZmI m_M_agreeingOf 8 1 := ⟨⟨wd_892, wd_10, ⟨by decide, by decide⟩, by decide⟩, wd_891, ws_44, rfl, rfl, rfl, _, rfl, rfl⟩
theorem mi_M_agreeing : ZmI m_M_agreeing 8 1 := ⟨⟨wd_887, wd_10, ⟨by decide, by decide⟩, by decide⟩, wd_885, wd_886, rfl, rfl, rfl, _, rfl, rfl⟩
theorem mi_M_asked : ZmI m_M_asked 8 0 := ⟨⟨wd_897, wd_10, ⟨by decide, by decide⟩, by decide⟩, wd_895, wd_896, rfl, rfl, rfl, _, rfl, rfl⟩
theorem mi_M_image : ZmI m_M_image 8 1 := ⟨⟨wd_901, wd_10, ⟨by decide, by decide⟩, by decide⟩, wd_899, wd_900, rfl, rfl, rfl, _, rfl, rfl⟩
theorem mi_M_restore : ZmI m_M_restore 8 1 := ⟨⟨wd_905, wd_10, ⟨by decide, by decide⟩, by decide⟩, wd_903, wd_904, rfl, rfl, rfl, _, rfl, rfl⟩
theorem mi_M_told : ZmI m_M_told 8 1 := ⟨⟨wd_909, wd_10, ⟨by decide, by decide⟩, by decide⟩, wd_907, wd_908, rfl, rfl, rfl, _, rfl, rfl⟩
theorem mk_Bk_init : Zm0 m_Bk_init 0 := ⟨wd_44, wd_4, ⟨by decide, by decide⟩, by decide⟩
theorem mi_Bk_examples : ZmI m_Bk_examples 0 0 := ⟨⟨wd_270, wd_4, ⟨by decide, by decide⟩, by decide⟩, wd_268, wd_269, rfl, rfl, rfl, _, rfl, rfl⟩
theorem mi_Bk_pooled : ZmI m_Bk_pooled 0 0 := ⟨⟨wd_302, wd_4, ⟨by decide, by decide⟩, by decide⟩, wd_300, wd_301, rfl, rfl, rfl, _, rfl, rfl⟩
theorem mi_Bk_knows : ZmI m_Bk_knows 0 1 := ⟨⟨wd_320, wd_4, ⟨by decide, by decide⟩, by decide⟩, wd_318, wd_319, rfl, rfl, rfl, _, rfl, rfl⟩
theorem mi_Bk_exampleLine : ZmI m_Bk_exampleLine 0 1 := ⟨⟨wd_342, wd_4, ⟨by decide, by decide⟩, by decide⟩, wd_340, wd_341, rfl, rfl, rfl, _, rfl, rfl⟩
theorem mi_Bk_result : ZmI m_Bk_result 0 1 := ⟨⟨wd_346, wd_4, ⟨by decide, by decide⟩, by decide⟩, wd_344, wd_345, rfl, rfl, rfl, _, rfl, rfl⟩
theorem mi_Bk_line : ZmI m_Bk_line 0 1 := ⟨⟨wd_611, wd_4, ⟨by decide, by decide⟩, by decide⟩, wd_609, wd_610, rfl, rfl, rfl, _, rfl, rfl⟩
theorem mi_Bk_addExample : ZmI m_Bk_addExample 0 4 := ⟨⟨wd_274, wd_4, ⟨by decide, by decide⟩, by decide⟩, wd_272, wd_273, rfl, rfl, rfl, _, rfl, rfl⟩
theorem mi_Bk_dropExample : ZmI m_Bk_dropExample 0 0 := ⟨⟨wd_294, wd_4, ⟨by decide, by decide⟩, by decide⟩, wd_292, wd_293, rfl, rfl, rfl, _, rfl, rfl⟩
theorem mi_Bk_addLine : ZmI m_Bk_addLine 0 1 := ⟨⟨wd_306, wd_4, ⟨by decide, by decide⟩, by decide⟩, wd_304, wd_305, rfl, rfl, rfl, _, rfl, rfl⟩
theorem mi_Bk_dropLine : ZmI m_Bk_dropLine 0 1 := ⟨⟨wd_324, wd_4, ⟨by decide, by decide⟩, by decide⟩, wd_322, wd_323, rfl, rfl, rfl, _, rfl, rfl⟩
theorem mi_Bk_copy : ZmI m_Bk_copy 0 1 := ⟨⟨wd_636, wd_4, ⟨by decide, by decide⟩, by decide⟩, wd_634, wd_635, rfl, rfl, rfl, _, rfl, rfl⟩
theorem mk_Ft_init : Zm0 m_Ft_init 0 := ⟨wd_70, wd_5, ⟨by decide, by decide⟩, by decide⟩
theorem mi_Ft_clear : ZmI m_Ft_clear 1 0 := ⟨⟨wd_338, wd_5, ⟨by decide, by decide⟩, by decide⟩, wd_336, wd_337, rfl, rfl, rfl, _, rfl, rfl⟩
theorem mi_Ft_addRow : ZmI m_Ft_addRow 1 2 := ⟨⟨wd_350, wd_5, ⟨by decide, by decide⟩, by decide⟩, wd_348, wd_349, rfl, rfl, rfl, _, rfl, rfl⟩
theorem mi_Ft_dropRow : ZmI m_Ft_dropRow 1 0 := ⟨⟨wd_623, wd_5, ⟨by decide, by decide⟩, by decide⟩, wd_621, wd_622, rfl, rfl, rfl, _, rfl, rfl⟩
theorem mi_Ft_count : ZmI m_Ft_count 1 0 := ⟨⟨wd_385, wd_5, ⟨by decide, by decide⟩, by decide⟩, wd_383, wd_384, rfl, rfl, rfl, _, rfl, rfl⟩
theorem mi_Ft_addWays : ZmI m_Ft_addWays 1 2 := ⟨⟨wd_493, wd_5, ⟨by decide, by decide⟩, by decide⟩, wd_492, ws_19, rfl, rfl, rfl, _, rfl, rfl⟩
theorem mi_Ft_weigh : ZmI m_Ft_weigh 1 0 := ⟨⟨wd_501, wd_5, ⟨by decide, by decide⟩, by decide⟩, wd_499, wd_500, rfl, rfl, rfl, _, rfl, rfl⟩
theorem mi_Ft_leastFrom : ZmI m_Ft_leastFrom 1 1 := ⟨⟨wd_510, wd_5, ⟨by decide, by decide⟩, by decide⟩, wd_509, ws_20, rfl, rfl, rfl, _, rfl, rfl⟩
theorem mi_Ft_tell : ZmI m_Ft_tell 1 1 := ⟨⟨wd_514, wd_5, ⟨by decide, by decide⟩, by decide⟩, wd_512, wd_513, rfl, rfl, rfl, _, rfl, rfl⟩
theorem mi_Ft_tellCut : ZmI m_Ft_tellCut 1 2 := ⟨⟨wd_518, wd_5, ⟨by decide, by decide⟩, by decide⟩, wd_517, ws_21, rfl, rfl, rfl, _, rfl, rfl⟩
theorem mi_Ft_tellText : ZmI m_Ft_tellText 1 2 := ⟨⟨wd_534, wd_5, ⟨by decide, by decide⟩, by decide⟩, wd_533, ws_22, rfl, rfl, rfl, _, rfl, rfl⟩
theorem mi_Ft_listMoves : ZmI m_Ft_listMoves 1 1 := ⟨⟨wd_424, wd_5, ⟨by decide, by decide⟩, by decide⟩, wd_423, ws_11, rfl, rfl, rfl, _, rfl, rfl⟩
theorem mi_Ft_listCuts : ZmI m_Ft_listCuts 1 2 := ⟨⟨wd_444, wd_5, ⟨by decide, by decide⟩, by decide⟩, wd_443, ws_14, rfl, rfl, rfl, _, rfl, rfl⟩
theorem mi_Ft_groupMarks : ZmI m_Ft_groupMarks 1 0 := ⟨⟨wd_389, wd_5, ⟨by decide, by decide⟩, by decide⟩, wd_388, ws_6, rfl, rfl, rfl, _, rfl, rfl⟩
theorem mi_Ft_joinGroup : ZmI m_Ft_joinGroup 1 1 := ⟨⟨wd_401, wd_5, ⟨by decide, by decide⟩, by decide⟩, wd_400, ws_8, rfl, rfl, rfl, _, rfl, rfl⟩
theorem mi_Ft_isToldInAll : ZmI m_Ft_isToldInAll 1 1 := ⟨⟨wd_393, wd_5, ⟨by decide, by decide⟩, by decide⟩, wd_392, ws_7, rfl, rfl, rfl, _, rfl, rfl⟩
theorem mi_Ft_tellSame : ZmI m_Ft_tellSame 1 2 := ⟨⟨wd_405, wd_5, ⟨by decide, by decide⟩, by decide⟩, wd_404, ws_9, rfl, rfl, rfl, _, rfl, rfl⟩
theorem mi_Ft_reach : ZmI m_Ft_reach 1 1 := ⟨⟨wd_432, wd_5, ⟨by decide, by decide⟩, by decide⟩, wd_431, ws_12, rfl, rfl, rfl, _, rfl, rfl⟩
theorem mi_Ft_canBegin : ZmI m_Ft_canBegin 1 1 := ⟨⟨wd_436, wd_5, ⟨by decide, by decide⟩, by decide⟩, wd_435, ws_13, rfl, rfl, rfl, _, rfl, rfl⟩
theorem mi_Ft_cutTarget : ZmI m_Ft_cutTarget 1 3 := ⟨⟨wd_448, wd_5, ⟨by decide, by decide⟩, by decide⟩, wd_447, ws_15, rfl, rfl, rfl, _, rfl, rfl⟩
theorem mi_Ft_textTarget : ZmI m_Ft_textTarget 1 2 := ⟨⟨wd_474, wd_5, ⟨by decide, by decide⟩, by decide⟩, wd_473, ws_18, rfl, rfl, rfl, _, rfl, rfl⟩
theorem mi_Ft_longestText : ZmI m_Ft_longestText 1 0 := ⟨⟨wd_465, wd_5, ⟨by decide, by decide⟩, by decide⟩, wd_464, ws_16, rfl, rfl, rfl, _, rfl, rfl⟩
theorem mi_Ft_isNextInAll : ZmI m_Ft_isNextInAll 1 1 := ⟨⟨wd_469, wd_5, ⟨by decide, by decide⟩, by decide⟩, wd_468, ws_17, rfl, rfl, rfl, _, rfl, rfl⟩
theorem mi_Ft_lastState : ZmI m_Ft_lastState 1 0 := ⟨⟨wd_415, wd_5, ⟨by decide, by decide⟩, by decide⟩, wd_414, ws_10, rfl, rfl, rfl, _, rfl, rfl⟩
theorem ms_Mk_index : ZmS m_Mk_index 1 := ⟨⟨wd_581, wd_11, ⟨by decide, by decide⟩, by decide⟩, wd_580, rfl, rfl, rfl⟩
theorem ms_Mk_runIndex : ZmS m_Mk_runIndex 2 := ⟨⟨wd_584, wd_11, ⟨by decide, by decide⟩, by decide⟩, wd_583, rfl, rfl, rfl⟩
theorem ms_Mk_code : ZmS m_Mk_code 1 := ⟨⟨wd_574, wd_11, ⟨by decide, by decide⟩, by decide⟩, wd_573, rfl, rfl, rfl⟩
theorem ms_Mk_price : ZmS m_Mk_price 1 := ⟨⟨wd_408, wd_11, ⟨by decide, by decide⟩, by decide⟩, wd_407, rfl, rfl, rfl⟩
theorem ms_Mk_placeIn : ZmS m_Mk_placeIn 2 := ⟨⟨wd_358, wd_11, ⟨by decide, by decide⟩, by decide⟩, wd_357, rfl, rfl, rfl⟩
theorem ms_Mk_kind : ZmS m_Mk_kind 1 := ⟨⟨wd_362, wd_11, ⟨by decide, by decide⟩, by decide⟩, wd_361, rfl, rfl, rfl⟩
theorem ms_Mk_turn : ZmS m_Mk_turn 1 := ⟨⟨wd_365, wd_11, ⟨by decide, by decide⟩, by decide⟩, wd_364, rfl, rfl, rfl⟩
theorem ms_Mk_runBegin : ZmS m_Mk_runBegin 3 := ⟨⟨wd_368, wd_11, ⟨by decide, by decide⟩, by decide⟩, wd_367, rfl, rfl, rfl⟩
theorem ms_Mk_runEnd : ZmS m_Mk_runEnd 2 := ⟨⟨wd_375, wd_11, ⟨by decide, by decide⟩, by decide⟩, wd_374, rfl, rfl, rfl⟩
theorem mk_Mv_init : Zm0 m_Mv_init 0 := ⟨wd_78, wd_6, ⟨by decide, by decide⟩, by decide⟩
theorem mi_Mv_many : ZmI m_Mv_many 2 0 := ⟨⟨wd_481, wd_6, ⟨by decide, by decide⟩, by decide⟩, wd_479, wd_480, rfl, rfl, rfl, _, rfl, rfl⟩
theorem mi_Mv_clear : ZmI m_Mv_clear 2 0 := ⟨⟨wd_428, wd_6, ⟨by decide, by decide⟩, by decide⟩, wd_426, wd_427, rfl, rfl, rfl, _, rfl, rfl⟩
theorem mi_Mv_add : ZmI m_Mv_add 2 3 := ⟨⟨wd_461, wd_6, ⟨by decide, by decide⟩, by decide⟩, wd_459, wd_460, rfl, rfl, rfl, _, rfl, rfl⟩
theorem mi_Mv_target : ZmI m_Mv_target 2 1 := ⟨⟨wd_485, wd_6, ⟨by decide, by decide⟩, by decide⟩, wd_483, wd_484, rfl, rfl, rfl, _, rfl, rfl⟩
theorem mi_Mv_pieces : ZmI m_Mv_pieces 2 1 := ⟨⟨wd_489, wd_6, ⟨by decide, by decide⟩, by decide⟩, wd_487, wd_488, rfl, rfl, rfl, _, rfl, rfl⟩
theorem mi_Mv_price : ZmI m_Mv_price 2 1 := ⟨⟨wd_506, wd_6, ⟨by decide, by decide⟩, by decide⟩, wd_504, wd_505, rfl, rfl, rfl, _, rfl, rfl⟩
theorem mk_Pc_init : Zm0 m_Pc_init 0 := ⟨wd_156, wd_9, ⟨by decide, by decide⟩, by decide⟩
theorem mi_Pc_becomeCut : ZmI m_Pc_becomeCut 3 2 := ⟨⟨wd_530, wd_9, ⟨by decide, by decide⟩, by decide⟩, wd_528, wd_529, rfl, rfl, rfl, _, rfl, rfl⟩
theorem mi_Pc_becomeText : ZmI m_Pc_becomeText 3 3 := ⟨⟨wd_538, wd_9, ⟨by decide, by decide⟩, by decide⟩, wd_536, wd_537, rfl, rfl, rfl, _, rfl, rfl⟩
theorem mi_Pc_price : ZmI m_Pc_price 3 0 := ⟨⟨wd_556, wd_9, ⟨by decide, by decide⟩, by decide⟩, wd_554, wd_555, rfl, rfl, rfl, _, rfl, rfl⟩
theorem ms_Pc_textPrice : ZmS m_Pc_textPrice 1 := ⟨⟨wd_477, wd_9, ⟨by decide, by decide⟩, by decide⟩, wd_476, rfl, rfl, rfl⟩
theorem ms_Pc_cutPrice : ZmS m_Pc_cutPrice 2 := ⟨⟨wd_457, wd_9, ⟨by decide, by decide⟩, by decide⟩, wd_456, rfl, rfl, rfl⟩
theorem mi_Pc_tells : ZmI m_Pc_tells 3 1 := ⟨⟨wd_570, wd_9, ⟨by decide, by decide⟩, by decide⟩, wd_568, wd_569, rfl, rfl, rfl, _, rfl, rfl⟩
theorem mi_Pc_addTo : ZmI m_Pc_addTo 3 2 := ⟨⟨wd_598, wd_9, ⟨by decide, by decide⟩, by decide⟩, wd_596, wd_597, rfl, rfl, rfl, _, rfl, rfl⟩
theorem mk_Pl_init : Zm0 m_Pl_init 0 := ⟨wd_149, wd_8, ⟨by decide, by decide⟩, by decide⟩
theorem mi_Pl_many : ZmI m_Pl_many 4 0 := ⟨⟨wd_548, wd_8, ⟨by decide, by decide⟩, by decide⟩, wd_546, wd_547, rfl, rfl, rfl, _, rfl, rfl⟩
theorem mi_Pl_clear : ZmI m_Pl_clear 4 0 := ⟨⟨wd_497, wd_8, ⟨by decide, by decide⟩, by decide⟩, wd_495, wd_496, rfl, rfl, rfl, _, rfl, rfl⟩
theorem mi_Pl_at : ZmI m_Pl_at 4 1 := ⟨⟨wd_526, wd_8, ⟨by decide, by decide⟩, by decide⟩, wd_524, wd_525, rfl, rfl, rfl, _, rfl, rfl⟩
theorem mi_Pl_next : ZmI m_Pl_next 4 0 := ⟨⟨wd_522, wd_8, ⟨by decide, by decide⟩, by decide⟩, wd_520, wd_521, rfl, rfl, rfl, _, rfl, rfl⟩
theorem mi_Pl_price : ZmI m_Pl_price 4 0 := ⟨⟨wd_552, wd_8, ⟨by decide, by decide⟩, by decide⟩, wd_550, wd_551, rfl, rfl, rfl, _, rfl, rfl⟩
theorem mi_Pl_applyTo : ZmI m_Pl_applyTo 4 2 := ⟨⟨wd_593, wd_8, ⟨by decide, by decide⟩, by decide⟩, wd_591, wd_592, rfl, rfl, rfl, _, rfl, rfl⟩
theorem mk_Rw_init : Zm0 m_Rw_init 0 := ⟨wd_97, wd_7, ⟨by decide, by decide⟩, by decide⟩
theorem mi_Rw_become : ZmI m_Rw_become 5 2 := ⟨⟨wd_354, wd_7, ⟨by decide, by decide⟩, by decide⟩, wd_352, wd_353, rfl, rfl, rfl, _, rfl, rfl⟩
theorem mi_Rw_countAlike : ZmI m_Rw_countAlike 5 3 := ⟨⟨wd_379, wd_7, ⟨by decide, by decide⟩, by decide⟩, wd_378, ws_5, rfl, rfl, rfl, _, rfl, rfl⟩
theorem mi_Rw_result : ZmI m_Rw_result 5 0 := ⟨⟨wd_419, wd_7, ⟨by decide, by decide⟩, by decide⟩, wd_417, wd_418, rfl, rfl, rfl, _, rfl, rfl⟩
theorem mi_Rw_placeOf : ZmI m_Rw_placeOf 5 1 := ⟨⟨wd_397, wd_7, ⟨by decide, by decide⟩, by decide⟩, wd_395, wd_396, rfl, rfl, rfl, _, rfl, rfl⟩
theorem mi_Rw_longestFrom : ZmI m_Rw_longestFrom 5 2 := ⟨⟨wd_440, wd_7, ⟨by decide, by decide⟩, by decide⟩, wd_438, wd_439, rfl, rfl, rfl, _, rfl, rfl⟩
theorem mi_Rw_cutLength : ZmI m_Rw_cutLength 5 3 := ⟨⟨wd_452, wd_7, ⟨by decide, by decide⟩, by decide⟩, wd_450, wd_451, rfl, rfl, rfl, _, rfl, rfl⟩
theorem mk_Sg_init : Zm0 m_Sg_init 1 := ⟨wd_24, wd_2, ⟨by decide, by decide⟩, by decide⟩
theorem mi_Sg_many : ZmI m_Sg_many 6 0 := ⟨⟨wd_230, wd_2, ⟨by decide, by decide⟩, by decide⟩, wd_228, wd_229, rfl, rfl, rfl, _, rfl, rfl⟩
theorem mi_Sg_clear : ZmI m_Sg_clear 6 0 := ⟨⟨wd_238, wd_2, ⟨by decide, by decide⟩, by decide⟩, wd_236, wd_237, rfl, rfl, rfl, _, rfl, rfl⟩
theorem mi_Sg_add : ZmI m_Sg_add 6 1 := ⟨⟨wd_223, wd_2, ⟨by decide, by decide⟩, by decide⟩, wd_221, wd_222, rfl, rfl, rfl, _, rfl, rfl⟩
theorem ms_Sg_kindOf : ZmS m_Sg_kindOf 1 := ⟨⟨wd_226, wd_2, ⟨by decide, by decide⟩, by decide⟩, wd_225, rfl, rfl, rfl⟩
theorem mi_Sg_at : ZmI m_Sg_at 6 1 := ⟨⟨wd_258, wd_2, ⟨by decide, by decide⟩, by decide⟩, wd_256, wd_257, rfl, rfl, rfl, _, rfl, rfl⟩
theorem mi_Sg_kindAt : ZmI m_Sg_kindAt 6 1 := ⟨⟨wd_254, wd_2, ⟨by decide, by decide⟩, by decide⟩, wd_252, wd_253, rfl, rfl, rfl, _, rfl, rfl⟩
theorem mi_Sg_addFrom : ZmI m_Sg_addFrom 6 3 := ⟨⟨wd_279, wd_2, ⟨by decide, by decide⟩, by decide⟩, wd_277, wd_278, rfl, rfl, rfl, _, rfl, rfl⟩
theorem mi_Sg_copy : ZmI m_Sg_copy 6 1 := ⟨⟨wd_310, wd_2, ⟨by decide, by decide⟩, by decide⟩, wd_308, wd_309, rfl, rfl, rfl, _, rfl, rfl⟩
theorem mi_Sg_signsEnd : ZmI m_Sg_signsEnd 6 2 := ⟨⟨wd_250, wd_2, ⟨by decide, by decide⟩, by decide⟩, wd_248, wd_249, rfl, rfl, rfl, _, rfl, rfl⟩
theorem fl_E_14 : Zf "EditGuess" 14 7 0 (2, 1) true (.object "EditGuess$Signs") := ⟨_, rfl, by decide, wd_185, rfl, rfl, rfl⟩
theorem fl_E_21 : Zf "EditGuess" 21 7 1 (2, 4) true (.object "EditGuess$Book") := ⟨_, rfl, by decide, wd_186, rfl, rfl, rfl⟩
theorem fl_E_25 : Zf "EditGuess" 25 7 2 (2, 44) true (.array (.object "EditGuess$Book")) := ⟨_, rfl, by decide, wd_187, rfl, rfl, rfl⟩
theorem fl_E_29 : Zf "EditGuess" 29 7 3 (2, 45) true (.array .boolean) := ⟨_, rfl, by decide, wd_188, rfl, rfl, rfl⟩
theorem fl_E_36 : Zf "EditGuess" 36 7 4 (2, 46) true (.object "EditGuess$Fitting") := ⟨_, rfl, by decide, wd_189, rfl, rfl, rfl⟩
theorem fl_E_43 : Zf "EditGuess" 43 7 5 (2, 134) true (.object "EditGuess$Plan") := ⟨_, rfl, by decide, wd_190, rfl, rfl, rfl⟩
theorem fl_E_47 : Zf "EditGuess" 47 7 6 (2, 156) true (.object "EditGuess$Signs") := ⟨_, rfl, by decide, wd_191, rfl, rfl, rfl⟩
theorem fl_E_50 : Zf "EditGuess" 50 7 7 (2, 159) true (.array .long) := ⟨_, rfl, by decide, wd_192, rfl, rfl, rfl⟩
theorem fl_E_109 : Zf "EditGuess" 109 7 9 (1, 0) false .long := ⟨_, rfl, by decide, wd_194, rfl, rfl, rfl⟩
theorem fl_E_168 : Zf "EditGuess" 168 7 8 (0, 0) false .boolean := ⟨_, rfl, by decide, wd_193, rfl, rfl, rfl⟩
theorem fl_M_7 : Zf "EditGuessModel" 7 8 0 (2, 1) true (.array .int) := ⟨_, rfl, by decide, wd_657, rfl, rfl, rfl⟩
theorem fl_M_13 : Zf "EditGuessModel" 13 8 1 (2, 2) true (.array .int) := ⟨_, rfl, by decide, wd_658, rfl, rfl, rfl⟩
theorem fl_M_16 : Zf "EditGuessModel" 16 8 2 (2, 3) true (.array .int) := ⟨_, rfl, by decide, wd_659, rfl, rfl, rfl⟩
theorem fl_M_19 : Zf "EditGuessModel" 19 8 3 (2, 4) true (.array .int) := ⟨_, rfl, by decide, wd_660, rfl, rfl, rfl⟩
theorem fl_M_22 : Zf "EditGuessModel" 22 8 5 (2, 5) true (.array .int) := ⟨_, rfl, by decide, wd_662, rfl, rfl, rfl⟩
theorem fl_M_25 : Zf "EditGuessModel" 25 8 6 (2, 6) true (.array .int) := ⟨_, rfl, by decide, wd_663, rfl, rfl, rfl⟩
theorem fl_M_28 : Zf "EditGuessModel" 28 8 9 (2, 7) true (.array .int) := ⟨_, rfl, by decide, wd_666, rfl, rfl, rfl⟩
theorem fl_M_31 : Zf "EditGuessModel" 31 8 10 (2, 8) true (.array .int) := ⟨_, rfl, by decide, wd_667, rfl, rfl, rfl⟩
theorem fl_M_34 : Zf "EditGuessModel" 34 8 11 (2, 9) true (.array .int) := ⟨_, rfl, by decide, wd_668, rfl, rfl, rfl⟩
theorem fl_M_37 : Zf "EditGuessModel" 37 8 13 (2, 10) true (.array .int) := ⟨_, rfl, by decide, wd_670, rfl, rfl, rfl⟩
theorem fl_M_40 : Zf "EditGuessModel" 40 8 14 (2, 11) true (.array .int) := ⟨_, rfl, by decide, wd_671, rfl, rfl, rfl⟩
theorem fl_M_43 : Zf "EditGuessModel" 43 8 15 (2, 12) true (.array .int) := ⟨_, rfl, by decide, wd_672, rfl, rfl, rfl⟩
theorem fl_M_46 : Zf "EditGuessModel" 46 8 16 (2, 13) true (.array .int) := ⟨_, rfl, by decide, wd_673, rfl, rfl, rfl⟩
theorem fl_M_49 : Zf "EditGuessModel" 49 8 18 (2, 14) true (.array .long) := ⟨_, rfl, by decide, wd_675, rfl, rfl, rfl⟩
theorem fl_M_53 : Zf "EditGuessModel" 53 8 19 (2, 15) true (.array .int) := ⟨_, rfl, by decide, wd_676, rfl, rfl, rfl⟩
theorem fl_M_56 : Zf "EditGuessModel" 56 8 20 (2, 16) true (.array .int) := ⟨_, rfl, by decide, wd_677, rfl, rfl, rfl⟩
theorem fl_M_59 : Zf "EditGuessModel" 59 8 21 (2, 17) true (.array .int) := ⟨_, rfl, by decide, wd_678, rfl, rfl, rfl⟩
theorem fl_M_62 : Zf "EditGuessModel" 62 8 22 (2, 18) true (.array .int) := ⟨_, rfl, by decide, wd_679, rfl, rfl, rfl⟩
theorem fl_M_65 : Zf "EditGuessModel" 65 8 25 (2, 19) true (.array .int) := ⟨_, rfl, by decide, wd_682, rfl, rfl, rfl⟩
theorem fl_M_68 : Zf "EditGuessModel" 68 8 26 (2, 20) true (.array .int) := ⟨_, rfl, by decide, wd_683, rfl, rfl, rfl⟩
theorem fl_M_71 : Zf "EditGuessModel" 71 8 27 (2, 21) true (.array .boolean) := ⟨_, rfl, by decide, wd_684, rfl, rfl, rfl⟩
theorem fl_M_83 : Zf "EditGuessModel" 83 8 8 (0, 0) false .int := ⟨_, rfl, by decide, wd_665, rfl, rfl, rfl⟩
theorem fl_M_98 : Zf "EditGuessModel" 98 8 4 (0, 0) false .int := ⟨_, rfl, by decide, wd_661, rfl, rfl, rfl⟩
theorem fl_M_101 : Zf "EditGuessModel" 101 8 7 (0, 0) false .int := ⟨_, rfl, by decide, wd_664, rfl, rfl, rfl⟩
theorem fl_M_108 : Zf "EditGuessModel" 108 8 12 (0, 0) false .int := ⟨_, rfl, by decide, wd_669, rfl, rfl, rfl⟩
theorem fl_M_124 : Zf "EditGuessModel" 124 8 17 (0, 0) false .int := ⟨_, rfl, by decide, wd_674, rfl, rfl, rfl⟩
theorem fl_M_161 : Zf "EditGuessModel" 161 8 24 (0, 0) false .int := ⟨_, rfl, by decide, wd_681, rfl, rfl, rfl⟩
theorem fl_M_164 : Zf "EditGuessModel" 164 8 23 (0, 0) false .int := ⟨_, rfl, by decide, wd_680, rfl, rfl, rfl⟩
theorem fl_Bk_11 : Zf "EditGuess$Book" 11 0 0 (2, 1) true (.array (.object "EditGuess$Signs")) := ⟨_, rfl, by decide, wd_49, rfl, rfl, rfl⟩
theorem fl_Bk_17 : Zf "EditGuess$Book" 17 0 1 (2, 2) true (.array (.object "EditGuess$Signs")) := ⟨_, rfl, by decide, wd_50, rfl, rfl, rfl⟩
theorem fl_Bk_20 : Zf "EditGuess$Book" 20 0 2 (2, 3) true (.array (.object "EditGuess$Signs")) := ⟨_, rfl, by decide, wd_51, rfl, rfl, rfl⟩
theorem fl_Bk_26 : Zf "EditGuess$Book" 26 0 3 (0, 0) false .int := ⟨_, rfl, by decide, wd_52, rfl, rfl, rfl⟩
theorem fl_Bk_30 : Zf "EditGuess$Book" 30 0 4 (0, 0) false .int := ⟨_, rfl, by decide, wd_53, rfl, rfl, rfl⟩
theorem fl_Ft_13 : Zf "EditGuess$Fitting" 13 1 0 (2, 1) true (.array (.object "EditGuess$Row")) := ⟨_, rfl, by decide, wd_114, rfl, rfl, rfl⟩
theorem fl_Ft_17 : Zf "EditGuess$Fitting" 17 1 1 (2, 2) true (.array .int) := ⟨_, rfl, by decide, wd_115, rfl, rfl, rfl⟩
theorem fl_Ft_23 : Zf "EditGuess$Fitting" 23 1 2 (2, 3) true (.array .int) := ⟨_, rfl, by decide, wd_116, rfl, rfl, rfl⟩
theorem fl_Ft_26 : Zf "EditGuess$Fitting" 26 1 3 (2, 4) true (.array .int) := ⟨_, rfl, by decide, wd_117, rfl, rfl, rfl⟩
theorem fl_Ft_29 : Zf "EditGuess$Fitting" 29 1 4 (2, 5) true (.array .int) := ⟨_, rfl, by decide, wd_118, rfl, rfl, rfl⟩
theorem fl_Ft_35 : Zf "EditGuess$Fitting" 35 1 5 (2, 6) true (.object "EditGuess$Moves") := ⟨_, rfl, by decide, wd_119, rfl, rfl, rfl⟩
theorem fl_Ft_39 : Zf "EditGuess$Fitting" 39 1 6 (2, 10) true (.array .long) := ⟨_, rfl, by decide, wd_120, rfl, rfl, rfl⟩
theorem fl_Ft_43 : Zf "EditGuess$Fitting" 43 1 7 (2, 11) true (.array .int) := ⟨_, rfl, by decide, wd_121, rfl, rfl, rfl⟩
theorem fl_Ft_47 : Zf "EditGuess$Fitting" 47 1 8 (0, 0) false .int := ⟨_, rfl, by decide, wd_122, rfl, rfl, rfl⟩
theorem ma_Ft_weigh_86 : Zma m_Ft_weigh 86 Lib.Math.min.name Lib.Math.min.code 2 := ⟨wd_409, wd_410, wd_3, wd_411, by decide⟩
theorem fl_Ft_146 : Zf "EditGuess$Fitting" 146 1 9 (0, 0) false .int := ⟨_, rfl, by decide, wd_123, rfl, rfl, rfl⟩
theorem ma_Ft_joinGroup_86 : Zma m_Ft_joinGroup 86 Lib.Math.min.name Lib.Math.min.code 2 := ⟨wd_409, wd_410, wd_3, wd_411, by decide⟩
theorem ma_Mk_price_22 : Zma m_Mk_price 22 Lib.Math.abs.name Lib.Math.abs.code 1 := ⟨wd_369, wd_370, wd_3, wd_371, by decide⟩
theorem ma_Mk_runBegin_22 : Zma m_Mk_runBegin 22 Lib.Math.abs.name Lib.Math.abs.code 1 := ⟨wd_369, wd_370, wd_3, wd_371, by decide⟩
theorem fl_Mv_13 : Zf "EditGuess$Moves" 13 2 0 (2, 1) true (.array .int) := ⟨_, rfl, by decide, wd_80, rfl, rfl, rfl⟩
theorem fl_Mv_17 : Zf "EditGuess$Moves" 17 2 1 (2, 2) true (.array .int) := ⟨_, rfl, by decide, wd_81, rfl, rfl, rfl⟩
theorem fl_Mv_20 : Zf "EditGuess$Moves" 20 2 2 (2, 3) true (.array .int) := ⟨_, rfl, by decide, wd_82, rfl, rfl, rfl⟩
theorem fl_Mv_23 : Zf "EditGuess$Moves" 23 2 3 (0, 0) false .int := ⟨_, rfl, by decide, wd_83, rfl, rfl, rfl⟩
theorem fl_Pc_14 : Zf "EditGuess$Piece" 14 3 0 (2, 1) true (.object "EditGuess$Signs") := ⟨_, rfl, by decide, wd_160, rfl, rfl, rfl⟩
theorem fl_Pc_20 : Zf "EditGuess$Piece" 20 3 1 (0, 0) false .boolean := ⟨_, rfl, by decide, wd_161, rfl, rfl, rfl⟩
theorem fl_Pc_24 : Zf "EditGuess$Piece" 24 3 2 (0, 0) false .int := ⟨_, rfl, by decide, wd_162, rfl, rfl, rfl⟩
theorem fl_Pc_28 : Zf "EditGuess$Piece" 28 3 3 (0, 0) false .int := ⟨_, rfl, by decide, wd_163, rfl, rfl, rfl⟩
theorem fl_Pl_11 : Zf "EditGuess$Plan" 11 4 0 (2, 1) true (.array (.object "EditGuess$Piece")) := ⟨_, rfl, by decide, wd_173, rfl, rfl, rfl⟩
theorem fl_Pl_18 : Zf "EditGuess$Plan" 18 4 1 (0, 0) false .int := ⟨_, rfl, by decide, wd_174, rfl, rfl, rfl⟩
theorem fl_Rw_14 : Zf "EditGuess$Row" 14 5 0 (2, 1) true (.object "EditGuess$Signs") := ⟨_, rfl, by decide, wd_103, rfl, rfl, rfl⟩
theorem fl_Rw_22 : Zf "EditGuess$Row" 22 5 1 (2, 4) true (.array .int) := ⟨_, rfl, by decide, wd_104, rfl, rfl, rfl⟩
theorem fl_Rw_28 : Zf "EditGuess$Row" 28 5 2 (2, 5) true (.array (.array .int)) := ⟨_, rfl, by decide, wd_105, rfl, rfl, rfl⟩
theorem ma_Sg_init_9 : Zma m_Sg_init 9 Lib.Math.max.name Lib.Math.max.code 2 := ⟨wd_26, wd_27, wd_3, wd_28, by decide⟩
theorem fl_Sg_15 : Zf "EditGuess$Signs" 15 6 0 (2, 1) true (.array .int) := ⟨_, rfl, by decide, wd_29, rfl, rfl, rfl⟩
theorem fl_Sg_21 : Zf "EditGuess$Signs" 21 6 1 (2, 2) true (.array .int) := ⟨_, rfl, by decide, wd_30, rfl, rfl, rfl⟩
theorem fl_Sg_24 : Zf "EditGuess$Signs" 24 6 2 (0, 0) false .int := ⟨_, rfl, by decide, wd_31, rfl, rfl, rfl⟩
end
section
/-! the instructions -/
theorem d_E_init_0 : decode (zb m_E_init) 0 = .ok (.aload_n 0, 1) := by decide +kernel
theorem d_E_init_1 : decode (zb m_E_init) 1 = .ok (.invokespecial 1, 3) := by decide +kernel
theorem d_E_init_4 : decode (zb m_E_init) 4 = .ok (.aload_n 0, 1) := by decide +kernel
theorem d_E_init_5 : decode (zb m_E_init) 5 = .ok (.new 7, 3) := by decide +kernel
theorem d_E_init_8 : decode (zb m_E_init) 8 = .ok (.dup, 1) := by decide +kernel
theorem d_E_init_9 : decode (zb m_E_init) 9 = .ok (.bipush 18, 2) := by decide +kernel
theorem d_E_init_11 : decode (zb m_E_init) 11 = .ok (.invokespecial 11, 3) := by decide +kernel
theorem d_E_init_14 : decode (zb m_E_init) 14 = .ok (.putfield 14, 3) := by decide +kernel
theorem d_E_init_17 : decode (zb m_E_init) 17 = .ok (.aload_n 0, 1) := by decide +kernel
theorem d_E_init_18 : decode (zb m_E_init) 18 = .ok (.new 18, 3) := by decide +kernel
theorem d_E_init_21 : decode (zb m_E_init) 21 = .ok (.dup, 1) := by decide +kernel
theorem d_E_init_22 : decode (zb m_E_init) 22 = .ok (.invokespecial 20, 3) := by decide +kernel
theorem d_E_init_25 : decode (zb m_E_init) 25 = .ok (.putfield 21, 3) := by decide +kernel
theorem d_E_init_28 : decode (zb m_E_init) 28 = .ok (.aload_n 0, 1) := by decide +kernel
theorem d_E_init_29 : decode (zb m_E_init) 29 = .ok (.iconst 2, 1) := by decide +kernel
theorem d_E_init_30 : decode (zb m_E_init) 30 = .ok (.anewarray 18, 3) := by decide +kernel
theorem d_E_init_33 : decode (zb m_E_init) 33 = .ok (.putfield 25, 3) := by decide +kernel
theorem d_E_init_36 : decode (zb m_E_init) 36 = .ok (.aload_n 0, 1) := by decide +kernel
theorem d_E_init_37 : decode (zb m_E_init) 37 = .ok (.iconst 2, 1) := by decide +kernel
theorem d_E_init_38 : decode (zb m_E_init) 38 = .ok (.newarray .boolean, 2) := by decide +kernel
theorem d_E_init_40 : decode (zb m_E_init) 40 = .ok (.putfield 29, 3) := by decide +kernel
theorem d_E_init_43 : decode (zb m_E_init) 43 = .ok (.aload_n 0, 1) := by decide +kernel
theorem d_E_init_44 : decode (zb m_E_init) 44 = .ok (.new 33, 3) := by decide +kernel
theorem d_E_init_47 : decode (zb m_E_init) 47 = .ok (.dup, 1) := by decide +kernel
theorem d_E_init_48 : decode (zb m_E_init) 48 = .ok (.invokespecial 35, 3) := by decide +kernel
theorem d_E_init_51 : decode (zb m_E_init) 51 = .ok (.putfield 36, 3) := by decide +kernel
theorem d_E_init_54 : decode (zb m_E_init) 54 = .ok (.aload_n 0, 1) := by decide +kernel
theorem d_E_init_55 : decode (zb m_E_init) 55 = .ok (.new 40, 3) := by decide +kernel
theorem d_E_init_58 : decode (zb m_E_init) 58 = .ok (.dup, 1) := by decide +kernel
theorem d_E_init_59 : decode (zb m_E_init) 59 = .ok (.invokespecial 42, 3) := by decide +kernel
theorem d_E_init_62 : decode (zb m_E_init) 62 = .ok (.putfield 43, 3) := by decide +kernel
theorem d_E_init_65 : decode (zb m_E_init) 65 = .ok (.aload_n 0, 1) := by decide +kernel
theorem d_E_init_66 : decode (zb m_E_init) 66 = .ok (.new 7, 3) := by decide +kernel
theorem d_E_init_69 : decode (zb m_E_init) 69 = .ok (.dup, 1) := by decide +kernel
theorem d_E_init_70 : decode (zb m_E_init) 70 = .ok (.bipush 60, 2) := by decide +kernel
theorem d_E_init_72 : decode (zb m_E_init) 72 = .ok (.invokespecial 11, 3) := by decide +kernel
theorem d_E_init_75 : decode (zb m_E_init) 75 = .ok (.putfield 47, 3) := by decide +kernel
theorem d_E_init_78 : decode (zb m_E_init) 78 = .ok (.aload_n 0, 1) := by decide +kernel
theorem d_E_init_79 : decode (zb m_E_init) 79 = .ok (.bipush 6, 2) := by decide +kernel
theorem d_E_init_81 : decode (zb m_E_init) 81 = .ok (.newarray .long, 2) := by decide +kernel
theorem d_E_init_83 : decode (zb m_E_init) 83 = .ok (.putfield 50, 3) := by decide +kernel
theorem d_E_init_86 : decode (zb m_E_init) 86 = .ok (.iconst 0, 1) := by decide +kernel
theorem d_E_init_87 : decode (zb m_E_init) 87 = .ok (.istore_n 1, 1) := by decide +kernel
theorem d_E_init_88 : decode (zb m_E_init) 88 = .ok (.iload_n 1, 1) := by decide +kernel
theorem d_E_init_89 : decode (zb m_E_init) 89 = .ok (.iconst 2, 1) := by decide +kernel
theorem d_E_init_90 : decode (zb m_E_init) 90 = .ok (.if_icmp .ge 22, 3) := by decide +kernel
theorem d_E_init_93 : decode (zb m_E_init) 93 = .ok (.aload_n 0, 1) := by decide +kernel
theorem d_E_init_94 : decode (zb m_E_init) 94 = .ok (.getfield 25, 3) := by decide +kernel
theorem d_E_init_97 : decode (zb m_E_init) 97 = .ok (.iload_n 1, 1) := by decide +kernel
theorem d_E_init_98 : decode (zb m_E_init) 98 = .ok (.new 18, 3) := by decide +kernel
theorem d_E_init_101 : decode (zb m_E_init) 101 = .ok (.dup, 1) := by decide +kernel
theorem d_E_init_102 : decode (zb m_E_init) 102 = .ok (.invokespecial 20, 3) := by decide +kernel
theorem d_E_init_105 : decode (zb m_E_init) 105 = .ok (.aastore, 1) := by decide +kernel
theorem d_E_init_106 : decode (zb m_E_init) 106 = .ok (.iinc 1 1, 3) := by decide +kernel
theorem d_E_init_109 : decode (zb m_E_init) 109 = .ok (.goto (-21), 3) := by decide +kernel
theorem d_E_init_112 : decode (zb m_E_init) 112 = .ok (.aload_n 0, 1) := by decide +kernel
theorem d_E_init_113 : decode (zb m_E_init) 113 = .ok (.invokevirtual 54, 3) := by decide +kernel
theorem d_E_init_116 : decode (zb m_E_init) 116 = .ok (.return_, 1) := by decide +kernel
theorem d_E_say_0 : decode (zb m_E_say) 0 = .ok (.iload_n 1, 1) := by decide +kernel
theorem d_E_say_1 : decode (zb m_E_say) 1 = .ok (.bipush 33, 2) := by decide +kernel
theorem d_E_say_3 : decode (zb m_E_say) 3 = .ok (.if_icmp .lt 9, 3) := by decide +kernel
theorem d_E_say_6 : decode (zb m_E_say) 6 = .ok (.iload_n 1, 1) := by decide +kernel
theorem d_E_say_7 : decode (zb m_E_say) 7 = .ok (.bipush 126, 2) := by decide +kernel
theorem d_E_say_9 : decode (zb m_E_say) 9 = .ok (.if_icmp .le 6, 3) := by decide +kernel
theorem d_E_say_12 : decode (zb m_E_say) 12 = .ok (.bipush (-2), 2) := by decide +kernel
theorem d_E_say_14 : decode (zb m_E_say) 14 = .ok (.ireturn, 1) := by decide +kernel
theorem d_E_say_15 : decode (zb m_E_say) 15 = .ok (.aload_n 0, 1) := by decide +kernel
theorem d_E_say_16 : decode (zb m_E_say) 16 = .ok (.getfield 14, 3) := by decide +kernel
theorem d_E_say_19 : decode (zb m_E_say) 19 = .ok (.iload_n 1, 1) := by decide +kernel
theorem d_E_say_20 : decode (zb m_E_say) 20 = .ok (.invokevirtual 57, 3) := by decide +kernel
theorem d_E_say_23 : decode (zb m_E_say) 23 = .ok (.ifCond .eq 13, 3) := by decide +kernel
theorem d_E_say_26 : decode (zb m_E_say) 26 = .ok (.aload_n 0, 1) := by decide +kernel
theorem d_E_say_27 : decode (zb m_E_say) 27 = .ok (.getfield 14, 3) := by decide +kernel
theorem d_E_say_30 : decode (zb m_E_say) 30 = .ok (.invokevirtual 61, 3) := by decide +kernel
theorem d_E_say_33 : decode (zb m_E_say) 33 = .ok (.goto 5, 3) := by decide +kernel
theorem d_E_say_36 : decode (zb m_E_say) 36 = .ok (.bipush (-4), 2) := by decide +kernel
theorem d_E_say_38 : decode (zb m_E_say) 38 = .ok (.ireturn, 1) := by decide +kernel
theorem d_E_wipe_0 : decode (zb m_E_wipe) 0 = .ok (.aload_n 0, 1) := by decide +kernel
theorem d_E_wipe_1 : decode (zb m_E_wipe) 1 = .ok (.getfield 14, 3) := by decide +kernel
theorem d_E_wipe_4 : decode (zb m_E_wipe) 4 = .ok (.invokevirtual 61, 3) := by decide +kernel
theorem d_E_wipe_7 : decode (zb m_E_wipe) 7 = .ok (.istore_n 1, 1) := by decide +kernel
theorem d_E_wipe_8 : decode (zb m_E_wipe) 8 = .ok (.aload_n 0, 1) := by decide +kernel
theorem d_E_wipe_9 : decode (zb m_E_wipe) 9 = .ok (.getfield 14, 3) := by decide +kernel
theorem d_E_wipe_12 : decode (zb m_E_wipe) 12 = .ok (.invokevirtual 65, 3) := by decide +kernel
theorem d_E_wipe_15 : decode (zb m_E_wipe) 15 = .ok (.iload_n 1, 1) := by decide +kernel
theorem d_E_wipe_16 : decode (zb m_E_wipe) 16 = .ok (.ireturn, 1) := by decide +kernel
theorem d_E_fault_0 : decode (zb m_E_fault) 0 = .ok (.iload_n 1, 1) := by decide +kernel
theorem d_E_fault_1 : decode (zb m_E_fault) 1 = .ok (.ifCond .ne 8, 3) := by decide +kernel
theorem d_E_fault_4 : decode (zb m_E_fault) 4 = .ok (.aload_n 0, 1) := by decide +kernel
theorem d_E_fault_5 : decode (zb m_E_fault) 5 = .ok (.invokevirtual 68, 3) := by decide +kernel
theorem d_E_fault_8 : decode (zb m_E_fault) 8 = .ok (.ireturn, 1) := by decide +kernel
theorem d_E_fault_9 : decode (zb m_E_fault) 9 = .ok (.iload_n 1, 1) := by decide +kernel
theorem d_E_fault_10 : decode (zb m_E_fault) 10 = .ok (.iconst 1, 1) := by decide +kernel
theorem d_E_fault_11 : decode (zb m_E_fault) 11 = .ok (.if_icmp .ne 10, 3) := by decide +kernel
theorem d_E_fault_14 : decode (zb m_E_fault) 14 = .ok (.aload_n 0, 1) := by decide +kernel
theorem d_E_fault_15 : decode (zb m_E_fault) 15 = .ok (.invokevirtual 71, 3) := by decide +kernel
theorem d_E_fault_18 : decode (zb m_E_fault) 18 = .ok (.goto 5, 3) := by decide +kernel
theorem d_E_fault_21 : decode (zb m_E_fault) 21 = .ok (.bipush (-2), 2) := by decide +kernel
theorem d_E_fault_23 : decode (zb m_E_fault) 23 = .ok (.ireturn, 1) := by decide +kernel
theorem d_E_example_0 : decode (zb m_E_example) 0 = .ok (.aload_n 0, 1) := by decide +kernel
theorem d_E_example_1 : decode (zb m_E_example) 1 = .ok (.invokevirtual 68, 3) := by decide +kernel
theorem d_E_example_4 : decode (zb m_E_example) 4 = .ok (.bipush (-6), 2) := by decide +kernel
theorem d_E_example_6 : decode (zb m_E_example) 6 = .ok (.if_icmp .eq 6, 3) := by decide +kernel
theorem d_E_example_9 : decode (zb m_E_example) 9 = .ok (.bipush (-5), 2) := by decide +kernel
theorem d_E_example_11 : decode (zb m_E_example) 11 = .ok (.ireturn, 1) := by decide +kernel
theorem d_E_example_12 : decode (zb m_E_example) 12 = .ok (.aload_n 0, 1) := by decide +kernel
theorem d_E_example_13 : decode (zb m_E_example) 13 = .ok (.getfield 21, 3) := by decide +kernel
theorem d_E_example_16 : decode (zb m_E_example) 16 = .ok (.invokevirtual 74, 3) := by decide +kernel
theorem d_E_example_19 : decode (zb m_E_example) 19 = .ok (.iconst 3, 1) := by decide +kernel
theorem d_E_example_20 : decode (zb m_E_example) 20 = .ok (.if_icmp .lt 6, 3) := by decide +kernel
theorem d_E_example_23 : decode (zb m_E_example) 23 = .ok (.bipush (-4), 2) := by decide +kernel
theorem d_E_example_25 : decode (zb m_E_example) 25 = .ok (.ireturn, 1) := by decide +kernel
theorem d_E_example_26 : decode (zb m_E_example) 26 = .ok (.aload_n 0, 1) := by decide +kernel
theorem d_E_example_27 : decode (zb m_E_example) 27 = .ok (.getfield 14, 3) := by decide +kernel
theorem d_E_example_30 : decode (zb m_E_example) 30 = .ok (.iconst 0, 1) := by decide +kernel
theorem d_E_example_31 : decode (zb m_E_example) 31 = .ok (.bipush 12, 2) := by decide +kernel
theorem d_E_example_33 : decode (zb m_E_example) 33 = .ok (.invokevirtual 77, 3) := by decide +kernel
theorem d_E_example_36 : decode (zb m_E_example) 36 = .ok (.istore_n 1, 1) := by decide +kernel
theorem d_E_example_37 : decode (zb m_E_example) 37 = .ok (.aload_n 0, 1) := by decide +kernel
theorem d_E_example_38 : decode (zb m_E_example) 38 = .ok (.getfield 21, 3) := by decide +kernel
theorem d_E_example_41 : decode (zb m_E_example) 41 = .ok (.aload_n 0, 1) := by decide +kernel
theorem d_E_example_42 : decode (zb m_E_example) 42 = .ok (.getfield 14, 3) := by decide +kernel
theorem d_E_example_45 : decode (zb m_E_example) 45 = .ok (.iload_n 1, 1) := by decide +kernel
theorem d_E_example_46 : decode (zb m_E_example) 46 = .ok (.aload_n 0, 1) := by decide +kernel
theorem d_E_example_47 : decode (zb m_E_example) 47 = .ok (.getfield 14, 3) := by decide +kernel
theorem d_E_example_50 : decode (zb m_E_example) 50 = .ok (.iload_n 1, 1) := by decide +kernel
theorem d_E_example_51 : decode (zb m_E_example) 51 = .ok (.iconst 1, 1) := by decide +kernel
theorem d_E_example_52 : decode (zb m_E_example) 52 = .ok (.iadd, 1) := by decide +kernel
theorem d_E_example_53 : decode (zb m_E_example) 53 = .ok (.invokevirtual 81, 3) := by decide +kernel
theorem d_E_example_56 : decode (zb m_E_example) 56 = .ok (.aload_n 0, 1) := by decide +kernel
theorem d_E_example_57 : decode (zb m_E_example) 57 = .ok (.getfield 14, 3) := by decide +kernel
theorem d_E_example_60 : decode (zb m_E_example) 60 = .ok (.invokevirtual 65, 3) := by decide +kernel
theorem d_E_example_63 : decode (zb m_E_example) 63 = .ok (.aload_n 0, 1) := by decide +kernel
theorem d_E_example_64 : decode (zb m_E_example) 64 = .ok (.invokevirtual 85, 3) := by decide +kernel
theorem d_E_example_67 : decode (zb m_E_example) 67 = .ok (.aload_n 0, 1) := by decide +kernel
theorem d_E_example_68 : decode (zb m_E_example) 68 = .ok (.getfield 21, 3) := by decide +kernel
theorem d_E_example_71 : decode (zb m_E_example) 71 = .ok (.invokevirtual 74, 3) := by decide +kernel
theorem d_E_example_74 : decode (zb m_E_example) 74 = .ok (.ireturn, 1) := by decide +kernel
theorem d_E_forget_0 : decode (zb m_E_forget) 0 = .ok (.aload_n 0, 1) := by decide +kernel
theorem d_E_forget_1 : decode (zb m_E_forget) 1 = .ok (.getfield 21, 3) := by decide +kernel
theorem d_E_forget_4 : decode (zb m_E_forget) 4 = .ok (.invokevirtual 74, 3) := by decide +kernel
theorem d_E_forget_7 : decode (zb m_E_forget) 7 = .ok (.ifCond .ne 6, 3) := by decide +kernel
theorem d_E_forget_10 : decode (zb m_E_forget) 10 = .ok (.bipush (-5), 2) := by decide +kernel
theorem d_E_forget_12 : decode (zb m_E_forget) 12 = .ok (.ireturn, 1) := by decide +kernel
theorem d_E_forget_13 : decode (zb m_E_forget) 13 = .ok (.aload_n 0, 1) := by decide +kernel
theorem d_E_forget_14 : decode (zb m_E_forget) 14 = .ok (.getfield 21, 3) := by decide +kernel
theorem d_E_forget_17 : decode (zb m_E_forget) 17 = .ok (.invokevirtual 88, 3) := by decide +kernel
theorem d_E_forget_20 : decode (zb m_E_forget) 20 = .ok (.aload_n 0, 1) := by decide +kernel
theorem d_E_forget_21 : decode (zb m_E_forget) 21 = .ok (.invokevirtual 85, 3) := by decide +kernel
theorem d_E_forget_24 : decode (zb m_E_forget) 24 = .ok (.aload_n 0, 1) := by decide +kernel
theorem d_E_forget_25 : decode (zb m_E_forget) 25 = .ok (.getfield 21, 3) := by decide +kernel
theorem d_E_forget_28 : decode (zb m_E_forget) 28 = .ok (.invokevirtual 74, 3) := by decide +kernel
theorem d_E_forget_31 : decode (zb m_E_forget) 31 = .ok (.ireturn, 1) := by decide +kernel
theorem d_E_pool_0 : decode (zb m_E_pool) 0 = .ok (.aload_n 0, 1) := by decide +kernel
theorem d_E_pool_1 : decode (zb m_E_pool) 1 = .ok (.invokevirtual 71, 3) := by decide +kernel
theorem d_E_pool_4 : decode (zb m_E_pool) 4 = .ok (.bipush (-6), 2) := by decide +kernel
theorem d_E_pool_6 : decode (zb m_E_pool) 6 = .ok (.if_icmp .eq 6, 3) := by decide +kernel
theorem d_E_pool_9 : decode (zb m_E_pool) 9 = .ok (.bipush (-5), 2) := by decide +kernel
theorem d_E_pool_11 : decode (zb m_E_pool) 11 = .ok (.ireturn, 1) := by decide +kernel
theorem d_E_pool_12 : decode (zb m_E_pool) 12 = .ok (.aload_n 0, 1) := by decide +kernel
theorem d_E_pool_13 : decode (zb m_E_pool) 13 = .ok (.getfield 21, 3) := by decide +kernel
theorem d_E_pool_16 : decode (zb m_E_pool) 16 = .ok (.invokevirtual 91, 3) := by decide +kernel
theorem d_E_pool_19 : decode (zb m_E_pool) 19 = .ok (.bipush 6, 2) := by decide +kernel
theorem d_E_pool_21 : decode (zb m_E_pool) 21 = .ok (.if_icmp .lt 6, 3) := by decide +kernel
theorem d_E_pool_24 : decode (zb m_E_pool) 24 = .ok (.bipush (-4), 2) := by decide +kernel
theorem d_E_pool_26 : decode (zb m_E_pool) 26 = .ok (.ireturn, 1) := by decide +kernel
theorem d_E_pool_27 : decode (zb m_E_pool) 27 = .ok (.aload_n 0, 1) := by decide +kernel
theorem d_E_pool_28 : decode (zb m_E_pool) 28 = .ok (.getfield 21, 3) := by decide +kernel
theorem d_E_pool_31 : decode (zb m_E_pool) 31 = .ok (.aload_n 0, 1) := by decide +kernel
theorem d_E_pool_32 : decode (zb m_E_pool) 32 = .ok (.getfield 14, 3) := by decide +kernel
theorem d_E_pool_35 : decode (zb m_E_pool) 35 = .ok (.invokevirtual 94, 3) := by decide +kernel
theorem d_E_pool_38 : decode (zb m_E_pool) 38 = .ok (.aload_n 0, 1) := by decide +kernel
theorem d_E_pool_39 : decode (zb m_E_pool) 39 = .ok (.getfield 14, 3) := by decide +kernel
theorem d_E_pool_42 : decode (zb m_E_pool) 42 = .ok (.invokevirtual 65, 3) := by decide +kernel
theorem d_E_pool_45 : decode (zb m_E_pool) 45 = .ok (.aload_n 0, 1) := by decide +kernel
theorem d_E_pool_46 : decode (zb m_E_pool) 46 = .ok (.invokevirtual 54, 3) := by decide +kernel
theorem d_E_pool_49 : decode (zb m_E_pool) 49 = .ok (.aload_n 0, 1) := by decide +kernel
theorem d_E_pool_50 : decode (zb m_E_pool) 50 = .ok (.getfield 21, 3) := by decide +kernel
theorem d_E_pool_53 : decode (zb m_E_pool) 53 = .ok (.invokevirtual 91, 3) := by decide +kernel
theorem d_E_pool_56 : decode (zb m_E_pool) 56 = .ok (.ireturn, 1) := by decide +kernel
theorem d_E_drain_0 : decode (zb m_E_drain) 0 = .ok (.aload_n 0, 1) := by decide +kernel
theorem d_E_drain_1 : decode (zb m_E_drain) 1 = .ok (.getfield 21, 3) := by decide +kernel
theorem d_E_drain_4 : decode (zb m_E_drain) 4 = .ok (.iload_n 1, 1) := by decide +kernel
theorem d_E_drain_5 : decode (zb m_E_drain) 5 = .ok (.invokevirtual 98, 3) := by decide +kernel
theorem d_E_drain_8 : decode (zb m_E_drain) 8 = .ok (.ifCond .ne 5, 3) := by decide +kernel
theorem d_E_drain_11 : decode (zb m_E_drain) 11 = .ok (.iconst (-1), 1) := by decide +kernel
theorem d_E_drain_12 : decode (zb m_E_drain) 12 = .ok (.ireturn, 1) := by decide +kernel
theorem d_E_drain_13 : decode (zb m_E_drain) 13 = .ok (.aload_n 0, 1) := by decide +kernel
theorem d_E_drain_14 : decode (zb m_E_drain) 14 = .ok (.getfield 21, 3) := by decide +kernel
theorem d_E_drain_17 : decode (zb m_E_drain) 17 = .ok (.iload_n 1, 1) := by decide +kernel
theorem d_E_drain_18 : decode (zb m_E_drain) 18 = .ok (.invokevirtual 101, 3) := by decide +kernel
theorem d_E_drain_21 : decode (zb m_E_drain) 21 = .ok (.aload_n 0, 1) := by decide +kernel
theorem d_E_drain_22 : decode (zb m_E_drain) 22 = .ok (.invokevirtual 54, 3) := by decide +kernel
theorem d_E_drain_25 : decode (zb m_E_drain) 25 = .ok (.aload_n 0, 1) := by decide +kernel
theorem d_E_drain_26 : decode (zb m_E_drain) 26 = .ok (.getfield 21, 3) := by decide +kernel
theorem d_E_drain_29 : decode (zb m_E_drain) 29 = .ok (.invokevirtual 91, 3) := by decide +kernel
theorem d_E_drain_32 : decode (zb m_E_drain) 32 = .ok (.ireturn, 1) := by decide +kernel
theorem d_E_plans_0 : decode (zb m_E_plans) 0 = .ok (.aload_n 0, 1) := by decide +kernel
theorem d_E_plans_1 : decode (zb m_E_plans) 1 = .ok (.getfield 21, 3) := by decide +kernel
theorem d_E_plans_4 : decode (zb m_E_plans) 4 = .ok (.invokevirtual 74, 3) := by decide +kernel
theorem d_E_plans_7 : decode (zb m_E_plans) 7 = .ok (.ifCond .ne 7, 3) := by decide +kernel
theorem d_E_plans_10 : decode (zb m_E_plans) 10 = .ok (.ldc2_w 104, 3) := by decide +kernel
theorem d_E_plans_13 : decode (zb m_E_plans) 13 = .ok (.lreturn, 1) := by decide +kernel
theorem d_E_plans_14 : decode (zb m_E_plans) 14 = .ok (.aload_n 0, 1) := by decide +kernel
theorem d_E_plans_15 : decode (zb m_E_plans) 15 = .ok (.invokevirtual 106, 3) := by decide +kernel
theorem d_E_plans_18 : decode (zb m_E_plans) 18 = .ok (.aload_n 0, 1) := by decide +kernel
theorem d_E_plans_19 : decode (zb m_E_plans) 19 = .ok (.getfield 109, 3) := by decide +kernel
theorem d_E_plans_22 : decode (zb m_E_plans) 22 = .ok (.lreturn, 1) := by decide +kernel
theorem d_E_cost_0 : decode (zb m_E_cost) 0 = .ok (.iload_n 1, 1) := by decide +kernel
theorem d_E_cost_1 : decode (zb m_E_cost) 1 = .ok (.bipush (-2), 2) := by decide +kernel
theorem d_E_cost_3 : decode (zb m_E_cost) 3 = .ok (.if_icmp .ge 6, 3) := by decide +kernel
theorem d_E_cost_6 : decode (zb m_E_cost) 6 = .ok (.bipush (-2), 2) := by decide +kernel
theorem d_E_cost_8 : decode (zb m_E_cost) 8 = .ok (.ireturn, 1) := by decide +kernel
theorem d_E_cost_9 : decode (zb m_E_cost) 9 = .ok (.aload_n 0, 1) := by decide +kernel
theorem d_E_cost_10 : decode (zb m_E_cost) 10 = .ok (.getfield 21, 3) := by decide +kernel
theorem d_E_cost_13 : decode (zb m_E_cost) 13 = .ok (.invokevirtual 74, 3) := by decide +kernel
theorem d_E_cost_16 : decode (zb m_E_cost) 16 = .ok (.ifCond .ne 6, 3) := by decide +kernel
theorem d_E_cost_19 : decode (zb m_E_cost) 19 = .ok (.bipush (-3), 2) := by decide +kernel
theorem d_E_cost_21 : decode (zb m_E_cost) 21 = .ok (.ireturn, 1) := by decide +kernel
theorem d_E_cost_22 : decode (zb m_E_cost) 22 = .ok (.aload_n 0, 1) := by decide +kernel
theorem d_E_cost_23 : decode (zb m_E_cost) 23 = .ok (.invokevirtual 106, 3) := by decide +kernel
theorem d_E_cost_26 : decode (zb m_E_cost) 26 = .ok (.aload_n 0, 1) := by decide +kernel
theorem d_E_cost_27 : decode (zb m_E_cost) 27 = .ok (.getfield 43, 3) := by decide +kernel
theorem d_E_cost_30 : decode (zb m_E_cost) 30 = .ok (.invokevirtual 113, 3) := by decide +kernel
theorem d_E_cost_33 : decode (zb m_E_cost) 33 = .ok (.ifCond .ne 6, 3) := by decide +kernel
theorem d_E_cost_36 : decode (zb m_E_cost) 36 = .ok (.bipush (-6), 2) := by decide +kernel
theorem d_E_cost_38 : decode (zb m_E_cost) 38 = .ok (.ireturn, 1) := by decide +kernel
theorem d_E_cost_39 : decode (zb m_E_cost) 39 = .ok (.iload_n 1, 1) := by decide +kernel
theorem d_E_cost_40 : decode (zb m_E_cost) 40 = .ok (.ifCond .ge 26, 3) := by decide +kernel
theorem d_E_cost_43 : decode (zb m_E_cost) 43 = .ok (.iload_n 1, 1) := by decide +kernel
theorem d_E_cost_44 : decode (zb m_E_cost) 44 = .ok (.iconst (-1), 1) := by decide +kernel
theorem d_E_cost_45 : decode (zb m_E_cost) 45 = .ok (.if_icmp .ne 13, 3) := by decide +kernel
theorem d_E_cost_48 : decode (zb m_E_cost) 48 = .ok (.aload_n 0, 1) := by decide +kernel
theorem d_E_cost_49 : decode (zb m_E_cost) 49 = .ok (.getfield 43, 3) := by decide +kernel
theorem d_E_cost_52 : decode (zb m_E_cost) 52 = .ok (.invokevirtual 114, 3) := by decide +kernel
theorem d_E_cost_55 : decode (zb m_E_cost) 55 = .ok (.goto 10, 3) := by decide +kernel
theorem d_E_cost_58 : decode (zb m_E_cost) 58 = .ok (.aload_n 0, 1) := by decide +kernel
theorem d_E_cost_59 : decode (zb m_E_cost) 59 = .ok (.getfield 43, 3) := by decide +kernel
theorem d_E_cost_62 : decode (zb m_E_cost) 62 = .ok (.invokevirtual 113, 3) := by decide +kernel
theorem d_E_cost_65 : decode (zb m_E_cost) 65 = .ok (.ireturn, 1) := by decide +kernel
theorem d_E_cost_66 : decode (zb m_E_cost) 66 = .ok (.iload_n 1, 1) := by decide +kernel
theorem d_E_cost_67 : decode (zb m_E_cost) 67 = .ok (.aload_n 0, 1) := by decide +kernel
theorem d_E_cost_68 : decode (zb m_E_cost) 68 = .ok (.getfield 43, 3) := by decide +kernel
theorem d_E_cost_71 : decode (zb m_E_cost) 71 = .ok (.invokevirtual 113, 3) := by decide +kernel
theorem d_E_cost_74 : decode (zb m_E_cost) 74 = .ok (.if_icmp .ge 17, 3) := by decide +kernel
theorem d_E_cost_77 : decode (zb m_E_cost) 77 = .ok (.aload_n 0, 1) := by decide +kernel
theorem d_E_cost_78 : decode (zb m_E_cost) 78 = .ok (.getfield 43, 3) := by decide +kernel
theorem d_E_cost_81 : decode (zb m_E_cost) 81 = .ok (.iload_n 1, 1) := by decide +kernel
theorem d_E_cost_82 : decode (zb m_E_cost) 82 = .ok (.invokevirtual 117, 3) := by decide +kernel
theorem d_E_cost_85 : decode (zb m_E_cost) 85 = .ok (.invokevirtual 121, 3) := by decide +kernel
theorem d_E_cost_88 : decode (zb m_E_cost) 88 = .ok (.goto 5, 3) := by decide +kernel
theorem d_E_cost_91 : decode (zb m_E_cost) 91 = .ok (.bipush (-6), 2) := by decide +kernel
theorem d_E_cost_93 : decode (zb m_E_cost) 93 = .ok (.ireturn, 1) := by decide +kernel
theorem d_E_piece_0 : decode (zb m_E_piece) 0 = .ok (.aload_n 0, 1) := by decide +kernel
theorem d_E_piece_1 : decode (zb m_E_piece) 1 = .ok (.getfield 21, 3) := by decide +kernel
theorem d_E_piece_4 : decode (zb m_E_piece) 4 = .ok (.invokevirtual 74, 3) := by decide +kernel
theorem d_E_piece_7 : decode (zb m_E_piece) 7 = .ok (.ifCond .ne 6, 3) := by decide +kernel
theorem d_E_piece_10 : decode (zb m_E_piece) 10 = .ok (.bipush (-3), 2) := by decide +kernel
theorem d_E_piece_12 : decode (zb m_E_piece) 12 = .ok (.ireturn, 1) := by decide +kernel
theorem d_E_piece_13 : decode (zb m_E_piece) 13 = .ok (.aload_n 0, 1) := by decide +kernel
theorem d_E_piece_14 : decode (zb m_E_piece) 14 = .ok (.invokevirtual 106, 3) := by decide +kernel
theorem d_E_piece_17 : decode (zb m_E_piece) 17 = .ok (.iload_n 1, 1) := by decide +kernel
theorem d_E_piece_18 : decode (zb m_E_piece) 18 = .ok (.ifCond .lt 14, 3) := by decide +kernel
theorem d_E_piece_21 : decode (zb m_E_piece) 21 = .ok (.iload_n 1, 1) := by decide +kernel
theorem d_E_piece_22 : decode (zb m_E_piece) 22 = .ok (.aload_n 0, 1) := by decide +kernel
theorem d_E_piece_23 : decode (zb m_E_piece) 23 = .ok (.getfield 43, 3) := by decide +kernel
theorem d_E_piece_26 : decode (zb m_E_piece) 26 = .ok (.invokevirtual 113, 3) := by decide +kernel
theorem d_E_piece_29 : decode (zb m_E_piece) 29 = .ok (.if_icmp .lt 5, 3) := by decide +kernel
theorem d_E_piece_32 : decode (zb m_E_piece) 32 = .ok (.iconst (-1), 1) := by decide +kernel
theorem d_E_piece_33 : decode (zb m_E_piece) 33 = .ok (.ireturn, 1) := by decide +kernel
theorem d_E_piece_34 : decode (zb m_E_piece) 34 = .ok (.iload_n 2, 1) := by decide +kernel
theorem d_E_piece_35 : decode (zb m_E_piece) 35 = .ok (.ifCond .lt 8, 3) := by decide +kernel
theorem d_E_piece_38 : decode (zb m_E_piece) 38 = .ok (.iload_n 2, 1) := by decide +kernel
theorem d_E_piece_39 : decode (zb m_E_piece) 39 = .ok (.iconst 2, 1) := by decide +kernel
theorem d_E_piece_40 : decode (zb m_E_piece) 40 = .ok (.if_icmp .le 8, 3) := by decide +kernel
theorem d_E_piece_43 : decode (zb m_E_piece) 43 = .ok (.bipush (-2), 2) := by decide +kernel
theorem d_E_piece_45 : decode (zb m_E_piece) 45 = .ok (.goto 15, 3) := by decide +kernel
theorem d_E_piece_48 : decode (zb m_E_piece) 48 = .ok (.aload_n 0, 1) := by decide +kernel
theorem d_E_piece_49 : decode (zb m_E_piece) 49 = .ok (.getfield 43, 3) := by decide +kernel
theorem d_E_piece_52 : decode (zb m_E_piece) 52 = .ok (.iload_n 1, 1) := by decide +kernel
theorem d_E_piece_53 : decode (zb m_E_piece) 53 = .ok (.invokevirtual 117, 3) := by decide +kernel
theorem d_E_piece_56 : decode (zb m_E_piece) 56 = .ok (.iload_n 2, 1) := by decide +kernel
theorem d_E_piece_57 : decode (zb m_E_piece) 57 = .ok (.invokevirtual 124, 3) := by decide +kernel
theorem d_E_piece_60 : decode (zb m_E_piece) 60 = .ok (.ireturn, 1) := by decide +kernel
theorem d_E_place_0 : decode (zb m_E_place) 0 = .ok (.aload_n 0, 1) := by decide +kernel
theorem d_E_place_1 : decode (zb m_E_place) 1 = .ok (.invokevirtual 71, 3) := by decide +kernel
theorem d_E_place_4 : decode (zb m_E_place) 4 = .ok (.bipush (-6), 2) := by decide +kernel
theorem d_E_place_6 : decode (zb m_E_place) 6 = .ok (.if_icmp .eq 6, 3) := by decide +kernel
theorem d_E_place_9 : decode (zb m_E_place) 9 = .ok (.bipush (-5), 2) := by decide +kernel
theorem d_E_place_11 : decode (zb m_E_place) 11 = .ok (.ireturn, 1) := by decide +kernel
theorem d_E_place_12 : decode (zb m_E_place) 12 = .ok (.iload_n 1, 1) := by decide +kernel
theorem d_E_place_13 : decode (zb m_E_place) 13 = .ok (.invokestatic 128, 3) := by decide +kernel
theorem d_E_place_16 : decode (zb m_E_place) 16 = .ok (.istore_n 2, 1) := by decide +kernel
theorem d_E_place_17 : decode (zb m_E_place) 17 = .ok (.iload_n 2, 1) := by decide +kernel
theorem d_E_place_18 : decode (zb m_E_place) 18 = .ok (.ifCond .ge 8, 3) := by decide +kernel
theorem d_E_place_21 : decode (zb m_E_place) 21 = .ok (.bipush (-2), 2) := by decide +kernel
theorem d_E_place_23 : decode (zb m_E_place) 23 = .ok (.goto 11, 3) := by decide +kernel
theorem d_E_place_26 : decode (zb m_E_place) 26 = .ok (.aload_n 0, 1) := by decide +kernel
theorem d_E_place_27 : decode (zb m_E_place) 27 = .ok (.getfield 14, 3) := by decide +kernel
theorem d_E_place_30 : decode (zb m_E_place) 30 = .ok (.iload_n 2, 1) := by decide +kernel
theorem d_E_place_31 : decode (zb m_E_place) 31 = .ok (.invokestatic 133, 3) := by decide +kernel
theorem d_E_place_34 : decode (zb m_E_place) 34 = .ok (.ireturn, 1) := by decide +kernel
theorem d_E_makes_0 : decode (zb m_E_makes) 0 = .ok (.aload_n 0, 1) := by decide +kernel
theorem d_E_makes_1 : decode (zb m_E_makes) 1 = .ok (.invokevirtual 71, 3) := by decide +kernel
theorem d_E_makes_4 : decode (zb m_E_makes) 4 = .ok (.bipush (-6), 2) := by decide +kernel
theorem d_E_makes_6 : decode (zb m_E_makes) 6 = .ok (.if_icmp .eq 6, 3) := by decide +kernel
theorem d_E_makes_9 : decode (zb m_E_makes) 9 = .ok (.bipush (-5), 2) := by decide +kernel
theorem d_E_makes_11 : decode (zb m_E_makes) 11 = .ok (.ireturn, 1) := by decide +kernel
theorem d_E_makes_12 : decode (zb m_E_makes) 12 = .ok (.aload_n 0, 1) := by decide +kernel
theorem d_E_makes_13 : decode (zb m_E_makes) 13 = .ok (.getfield 21, 3) := by decide +kernel
theorem d_E_makes_16 : decode (zb m_E_makes) 16 = .ok (.invokevirtual 74, 3) := by decide +kernel
theorem d_E_makes_19 : decode (zb m_E_makes) 19 = .ok (.ifCond .ne 6, 3) := by decide +kernel
theorem d_E_makes_22 : decode (zb m_E_makes) 22 = .ok (.bipush (-3), 2) := by decide +kernel
theorem d_E_makes_24 : decode (zb m_E_makes) 24 = .ok (.ireturn, 1) := by decide +kernel
theorem d_E_makes_25 : decode (zb m_E_makes) 25 = .ok (.aload_n 0, 1) := by decide +kernel
theorem d_E_makes_26 : decode (zb m_E_makes) 26 = .ok (.invokevirtual 106, 3) := by decide +kernel
theorem d_E_makes_29 : decode (zb m_E_makes) 29 = .ok (.aload_n 0, 1) := by decide +kernel
theorem d_E_makes_30 : decode (zb m_E_makes) 30 = .ok (.getfield 43, 3) := by decide +kernel
theorem d_E_makes_33 : decode (zb m_E_makes) 33 = .ok (.invokevirtual 113, 3) := by decide +kernel
theorem d_E_makes_36 : decode (zb m_E_makes) 36 = .ok (.ifCond .ne 6, 3) := by decide +kernel
theorem d_E_makes_39 : decode (zb m_E_makes) 39 = .ok (.bipush (-6), 2) := by decide +kernel
theorem d_E_makes_41 : decode (zb m_E_makes) 41 = .ok (.ireturn, 1) := by decide +kernel
theorem d_E_makes_42 : decode (zb m_E_makes) 42 = .ok (.aload_n 0, 1) := by decide +kernel
theorem d_E_makes_43 : decode (zb m_E_makes) 43 = .ok (.getfield 43, 3) := by decide +kernel
theorem d_E_makes_46 : decode (zb m_E_makes) 46 = .ok (.aload_n 0, 1) := by decide +kernel
theorem d_E_makes_47 : decode (zb m_E_makes) 47 = .ok (.getfield 14, 3) := by decide +kernel
theorem d_E_makes_50 : decode (zb m_E_makes) 50 = .ok (.aload_n 0, 1) := by decide +kernel
theorem d_E_makes_51 : decode (zb m_E_makes) 51 = .ok (.getfield 47, 3) := by decide +kernel
theorem d_E_makes_54 : decode (zb m_E_makes) 54 = .ok (.invokevirtual 137, 3) := by decide +kernel
theorem d_E_makes_57 : decode (zb m_E_makes) 57 = .ok (.iload_n 1, 1) := by decide +kernel
theorem d_E_makes_58 : decode (zb m_E_makes) 58 = .ok (.iconst (-1), 1) := by decide +kernel
theorem d_E_makes_59 : decode (zb m_E_makes) 59 = .ok (.if_icmp .ne 11, 3) := by decide +kernel
theorem d_E_makes_62 : decode (zb m_E_makes) 62 = .ok (.aload_n 0, 1) := by decide +kernel
theorem d_E_makes_63 : decode (zb m_E_makes) 63 = .ok (.getfield 47, 3) := by decide +kernel
theorem d_E_makes_66 : decode (zb m_E_makes) 66 = .ok (.invokevirtual 61, 3) := by decide +kernel
theorem d_E_makes_69 : decode (zb m_E_makes) 69 = .ok (.ireturn, 1) := by decide +kernel
theorem d_E_makes_70 : decode (zb m_E_makes) 70 = .ok (.iload_n 1, 1) := by decide +kernel
theorem d_E_makes_71 : decode (zb m_E_makes) 71 = .ok (.ifCond .lt 25, 3) := by decide +kernel
theorem d_E_makes_74 : decode (zb m_E_makes) 74 = .ok (.iload_n 1, 1) := by decide +kernel
theorem d_E_makes_75 : decode (zb m_E_makes) 75 = .ok (.aload_n 0, 1) := by decide +kernel
theorem d_E_makes_76 : decode (zb m_E_makes) 76 = .ok (.getfield 47, 3) := by decide +kernel
theorem d_E_makes_79 : decode (zb m_E_makes) 79 = .ok (.invokevirtual 61, 3) := by decide +kernel
theorem d_E_makes_82 : decode (zb m_E_makes) 82 = .ok (.if_icmp .ge 14, 3) := by decide +kernel
theorem d_E_makes_85 : decode (zb m_E_makes) 85 = .ok (.aload_n 0, 1) := by decide +kernel
theorem d_E_makes_86 : decode (zb m_E_makes) 86 = .ok (.getfield 47, 3) := by decide +kernel
theorem d_E_makes_89 : decode (zb m_E_makes) 89 = .ok (.iload_n 1, 1) := by decide +kernel
theorem d_E_makes_90 : decode (zb m_E_makes) 90 = .ok (.invokevirtual 141, 3) := by decide +kernel
theorem d_E_makes_93 : decode (zb m_E_makes) 93 = .ok (.goto 5, 3) := by decide +kernel
theorem d_E_makes_96 : decode (zb m_E_makes) 96 = .ok (.bipush (-6), 2) := by decide +kernel
theorem d_E_makes_98 : decode (zb m_E_makes) 98 = .ok (.ireturn, 1) := by decide +kernel
theorem d_E_accept_0 : decode (zb m_E_accept) 0 = .ok (.aload_n 0, 1) := by decide +kernel
theorem d_E_accept_1 : decode (zb m_E_accept) 1 = .ok (.getfield 21, 3) := by decide +kernel
theorem d_E_accept_4 : decode (zb m_E_accept) 4 = .ok (.iload_n 1, 1) := by decide +kernel
theorem d_E_accept_5 : decode (zb m_E_accept) 5 = .ok (.invokevirtual 98, 3) := by decide +kernel
theorem d_E_accept_8 : decode (zb m_E_accept) 8 = .ok (.ifCond .ne 5, 3) := by decide +kernel
theorem d_E_accept_11 : decode (zb m_E_accept) 11 = .ok (.iconst (-1), 1) := by decide +kernel
theorem d_E_accept_12 : decode (zb m_E_accept) 12 = .ok (.ireturn, 1) := by decide +kernel
theorem d_E_accept_13 : decode (zb m_E_accept) 13 = .ok (.aload_n 0, 1) := by decide +kernel
theorem d_E_accept_14 : decode (zb m_E_accept) 14 = .ok (.getfield 21, 3) := by decide +kernel
theorem d_E_accept_17 : decode (zb m_E_accept) 17 = .ok (.invokevirtual 74, 3) := by decide +kernel
theorem d_E_accept_20 : decode (zb m_E_accept) 20 = .ok (.ifCond .ne 6, 3) := by decide +kernel
theorem d_E_accept_23 : decode (zb m_E_accept) 23 = .ok (.bipush (-3), 2) := by decide +kernel
theorem d_E_accept_25 : decode (zb m_E_accept) 25 = .ok (.ireturn, 1) := by decide +kernel
theorem d_E_accept_26 : decode (zb m_E_accept) 26 = .ok (.aload_n 0, 1) := by decide +kernel
theorem d_E_accept_27 : decode (zb m_E_accept) 27 = .ok (.invokevirtual 106, 3) := by decide +kernel
theorem d_E_accept_30 : decode (zb m_E_accept) 30 = .ok (.aload_n 0, 1) := by decide +kernel
theorem d_E_accept_31 : decode (zb m_E_accept) 31 = .ok (.iload_n 1, 1) := by decide +kernel
theorem d_E_accept_32 : decode (zb m_E_accept) 32 = .ok (.invokevirtual 143, 3) := by decide +kernel
theorem d_E_accept_35 : decode (zb m_E_accept) 35 = .ok (.ifCond .ne 6, 3) := by decide +kernel
theorem d_E_accept_38 : decode (zb m_E_accept) 38 = .ok (.bipush (-5), 2) := by decide +kernel
theorem d_E_accept_40 : decode (zb m_E_accept) 40 = .ok (.ireturn, 1) := by decide +kernel
theorem d_E_accept_41 : decode (zb m_E_accept) 41 = .ok (.aload_n 0, 1) := by decide +kernel
theorem d_E_accept_42 : decode (zb m_E_accept) 42 = .ok (.getfield 21, 3) := by decide +kernel
theorem d_E_accept_45 : decode (zb m_E_accept) 45 = .ok (.invokevirtual 74, 3) := by decide +kernel
theorem d_E_accept_48 : decode (zb m_E_accept) 48 = .ok (.iconst 3, 1) := by decide +kernel
theorem d_E_accept_49 : decode (zb m_E_accept) 49 = .ok (.if_icmp .lt 6, 3) := by decide +kernel
theorem d_E_accept_52 : decode (zb m_E_accept) 52 = .ok (.bipush (-4), 2) := by decide +kernel
theorem d_E_accept_54 : decode (zb m_E_accept) 54 = .ok (.ireturn, 1) := by decide +kernel
theorem d_E_accept_55 : decode (zb m_E_accept) 55 = .ok (.aload_n 0, 1) := by decide +kernel
theorem d_E_accept_56 : decode (zb m_E_accept) 56 = .ok (.getfield 21, 3) := by decide +kernel
theorem d_E_accept_59 : decode (zb m_E_accept) 59 = .ok (.iload_n 1, 1) := by decide +kernel
theorem d_E_accept_60 : decode (zb m_E_accept) 60 = .ok (.invokevirtual 146, 3) := by decide +kernel
theorem d_E_accept_63 : decode (zb m_E_accept) 63 = .ok (.astore_n 2, 1) := by decide +kernel
theorem d_E_accept_64 : decode (zb m_E_accept) 64 = .ok (.aload_n 0, 1) := by decide +kernel
theorem d_E_accept_65 : decode (zb m_E_accept) 65 = .ok (.getfield 21, 3) := by decide +kernel
theorem d_E_accept_68 : decode (zb m_E_accept) 68 = .ok (.aload_n 2, 1) := by decide +kernel
theorem d_E_accept_69 : decode (zb m_E_accept) 69 = .ok (.aload_n 2, 1) := by decide +kernel
theorem d_E_accept_70 : decode (zb m_E_accept) 70 = .ok (.invokevirtual 61, 3) := by decide +kernel
theorem d_E_accept_73 : decode (zb m_E_accept) 73 = .ok (.aload_n 0, 1) := by decide +kernel
theorem d_E_accept_74 : decode (zb m_E_accept) 74 = .ok (.getfield 47, 3) := by decide +kernel
theorem d_E_accept_77 : decode (zb m_E_accept) 77 = .ok (.iconst 0, 1) := by decide +kernel
theorem d_E_accept_78 : decode (zb m_E_accept) 78 = .ok (.invokevirtual 81, 3) := by decide +kernel
theorem d_E_accept_81 : decode (zb m_E_accept) 81 = .ok (.aload_n 0, 1) := by decide +kernel
theorem d_E_accept_82 : decode (zb m_E_accept) 82 = .ok (.getfield 21, 3) := by decide +kernel
theorem d_E_accept_85 : decode (zb m_E_accept) 85 = .ok (.iload_n 1, 1) := by decide +kernel
theorem d_E_accept_86 : decode (zb m_E_accept) 86 = .ok (.invokevirtual 101, 3) := by decide +kernel
theorem d_E_accept_89 : decode (zb m_E_accept) 89 = .ok (.aload_n 0, 1) := by decide +kernel
theorem d_E_accept_90 : decode (zb m_E_accept) 90 = .ok (.invokevirtual 85, 3) := by decide +kernel
theorem d_E_accept_93 : decode (zb m_E_accept) 93 = .ok (.aload_n 0, 1) := by decide +kernel
theorem d_E_accept_94 : decode (zb m_E_accept) 94 = .ok (.getfield 21, 3) := by decide +kernel
theorem d_E_accept_97 : decode (zb m_E_accept) 97 = .ok (.invokevirtual 74, 3) := by decide +kernel
theorem d_E_accept_100 : decode (zb m_E_accept) 100 = .ok (.ireturn, 1) := by decide +kernel
theorem d_E_agreeing_0 : decode (zb m_E_agreeing) 0 = .ok (.aload_n 0, 1) := by decide +kernel
theorem d_E_agreeing_1 : decode (zb m_E_agreeing) 1 = .ok (.getfield 21, 3) := by decide +kernel
theorem d_E_agreeing_4 : decode (zb m_E_agreeing) 4 = .ok (.iload_n 1, 1) := by decide +kernel
theorem d_E_agreeing_5 : decode (zb m_E_agreeing) 5 = .ok (.invokevirtual 98, 3) := by decide +kernel
theorem d_E_agreeing_8 : decode (zb m_E_agreeing) 8 = .ok (.ifCond .ne 7, 3) := by decide +kernel
theorem d_E_agreeing_11 : decode (zb m_E_agreeing) 11 = .ok (.ldc2_w 150, 3) := by decide +kernel
theorem d_E_agreeing_14 : decode (zb m_E_agreeing) 14 = .ok (.lreturn, 1) := by decide +kernel
theorem d_E_agreeing_15 : decode (zb m_E_agreeing) 15 = .ok (.aload_n 0, 1) := by decide +kernel
theorem d_E_agreeing_16 : decode (zb m_E_agreeing) 16 = .ok (.getfield 21, 3) := by decide +kernel
theorem d_E_agreeing_19 : decode (zb m_E_agreeing) 19 = .ok (.invokevirtual 74, 3) := by decide +kernel
theorem d_E_agreeing_22 : decode (zb m_E_agreeing) 22 = .ok (.ifCond .ne 7, 3) := by decide +kernel
theorem d_E_agreeing_25 : decode (zb m_E_agreeing) 25 = .ok (.ldc2_w 104, 3) := by decide +kernel
theorem d_E_agreeing_28 : decode (zb m_E_agreeing) 28 = .ok (.lreturn, 1) := by decide +kernel
theorem d_E_agreeing_29 : decode (zb m_E_agreeing) 29 = .ok (.aload_n 0, 1) := by decide +kernel
theorem d_E_agreeing_30 : decode (zb m_E_agreeing) 30 = .ok (.invokevirtual 106, 3) := by decide +kernel
theorem d_E_agreeing_33 : decode (zb m_E_agreeing) 33 = .ok (.aload_n 0, 1) := by decide +kernel
theorem d_E_agreeing_34 : decode (zb m_E_agreeing) 34 = .ok (.iload_n 1, 1) := by decide +kernel
theorem d_E_agreeing_35 : decode (zb m_E_agreeing) 35 = .ok (.invokevirtual 143, 3) := by decide +kernel
theorem d_E_agreeing_38 : decode (zb m_E_agreeing) 38 = .ok (.ifCond .eq 11, 3) := by decide +kernel
theorem d_E_agreeing_41 : decode (zb m_E_agreeing) 41 = .ok (.aload_n 0, 1) := by decide +kernel
theorem d_E_agreeing_42 : decode (zb m_E_agreeing) 42 = .ok (.iload_n 1, 1) := by decide +kernel
theorem d_E_agreeing_43 : decode (zb m_E_agreeing) 43 = .ok (.invokevirtual 152, 3) := by decide +kernel
theorem d_E_agreeing_46 : decode (zb m_E_agreeing) 46 = .ok (.goto 6, 3) := by decide +kernel
theorem d_E_agreeing_49 : decode (zb m_E_agreeing) 49 = .ok (.ldc2_w 156, 3) := by decide +kernel
theorem d_E_agreeing_52 : decode (zb m_E_agreeing) 52 = .ok (.lreturn, 1) := by decide +kernel
theorem d_E_asked_0 : decode (zb m_E_asked) 0 = .ok (.aload_n 0, 1) := by decide +kernel
theorem d_E_asked_1 : decode (zb m_E_asked) 1 = .ok (.getfield 21, 3) := by decide +kernel
theorem d_E_asked_4 : decode (zb m_E_asked) 4 = .ok (.invokevirtual 74, 3) := by decide +kernel
theorem d_E_asked_7 : decode (zb m_E_asked) 7 = .ok (.ifCond .ne 6, 3) := by decide +kernel
theorem d_E_asked_10 : decode (zb m_E_asked) 10 = .ok (.bipush (-3), 2) := by decide +kernel
theorem d_E_asked_12 : decode (zb m_E_asked) 12 = .ok (.ireturn, 1) := by decide +kernel
theorem d_E_asked_13 : decode (zb m_E_asked) 13 = .ok (.aload_n 0, 1) := by decide +kernel
theorem d_E_asked_14 : decode (zb m_E_asked) 14 = .ok (.invokevirtual 106, 3) := by decide +kernel
theorem d_E_asked_17 : decode (zb m_E_asked) 17 = .ok (.bipush (-6), 2) := by decide +kernel
theorem d_E_asked_19 : decode (zb m_E_asked) 19 = .ok (.istore_n 1, 1) := by decide +kernel
theorem d_E_asked_20 : decode (zb m_E_asked) 20 = .ok (.lconst 0, 1) := by decide +kernel
theorem d_E_asked_21 : decode (zb m_E_asked) 21 = .ok (.lstore_n 2, 1) := by decide +kernel
theorem d_E_asked_22 : decode (zb m_E_asked) 22 = .ok (.iconst 0, 1) := by decide +kernel
theorem d_E_asked_23 : decode (zb m_E_asked) 23 = .ok (.istore 4, 2) := by decide +kernel
theorem d_E_asked_25 : decode (zb m_E_asked) 25 = .ok (.iload 4, 2) := by decide +kernel
theorem d_E_asked_27 : decode (zb m_E_asked) 27 = .ok (.aload_n 0, 1) := by decide +kernel
theorem d_E_asked_28 : decode (zb m_E_asked) 28 = .ok (.getfield 21, 3) := by decide +kernel
theorem d_E_asked_31 : decode (zb m_E_asked) 31 = .ok (.invokevirtual 91, 3) := by decide +kernel
theorem d_E_asked_34 : decode (zb m_E_asked) 34 = .ok (.if_icmp .ge 45, 3) := by decide +kernel
theorem d_E_asked_37 : decode (zb m_E_asked) 37 = .ok (.aload_n 0, 1) := by decide +kernel
theorem d_E_asked_38 : decode (zb m_E_asked) 38 = .ok (.iload 4, 2) := by decide +kernel
theorem d_E_asked_40 : decode (zb m_E_asked) 40 = .ok (.invokevirtual 143, 3) := by decide +kernel
theorem d_E_asked_43 : decode (zb m_E_asked) 43 = .ok (.ifCond .eq 30, 3) := by decide +kernel
theorem d_E_asked_46 : decode (zb m_E_asked) 46 = .ok (.aload_n 0, 1) := by decide +kernel
theorem d_E_asked_47 : decode (zb m_E_asked) 47 = .ok (.iload 4, 2) := by decide +kernel
theorem d_E_asked_49 : decode (zb m_E_asked) 49 = .ok (.invokevirtual 152, 3) := by decide +kernel
theorem d_E_asked_52 : decode (zb m_E_asked) 52 = .ok (.lstore 5, 2) := by decide +kernel
theorem d_E_asked_54 : decode (zb m_E_asked) 54 = .ok (.iload_n 1, 1) := by decide +kernel
theorem d_E_asked_55 : decode (zb m_E_asked) 55 = .ok (.bipush (-6), 2) := by decide +kernel
theorem d_E_asked_57 : decode (zb m_E_asked) 57 = .ok (.if_icmp .eq 10, 3) := by decide +kernel
theorem d_E_asked_60 : decode (zb m_E_asked) 60 = .ok (.lload 5, 2) := by decide +kernel
theorem d_E_asked_62 : decode (zb m_E_asked) 62 = .ok (.lload_n 2, 1) := by decide +kernel
theorem d_E_asked_63 : decode (zb m_E_asked) 63 = .ok (.lcmp, 1) := by decide +kernel
theorem d_E_asked_64 : decode (zb m_E_asked) 64 = .ok (.ifCond .ge 9, 3) := by decide +kernel
theorem d_E_asked_67 : decode (zb m_E_asked) 67 = .ok (.iload 4, 2) := by decide +kernel
theorem d_E_asked_69 : decode (zb m_E_asked) 69 = .ok (.istore_n 1, 1) := by decide +kernel
theorem d_E_asked_70 : decode (zb m_E_asked) 70 = .ok (.lload 5, 2) := by decide +kernel
theorem d_E_asked_72 : decode (zb m_E_asked) 72 = .ok (.lstore_n 2, 1) := by decide +kernel
theorem d_E_asked_73 : decode (zb m_E_asked) 73 = .ok (.iinc 4 1, 3) := by decide +kernel
theorem d_E_asked_76 : decode (zb m_E_asked) 76 = .ok (.goto (-51), 3) := by decide +kernel
theorem d_E_asked_79 : decode (zb m_E_asked) 79 = .ok (.iload_n 1, 1) := by decide +kernel
theorem d_E_asked_80 : decode (zb m_E_asked) 80 = .ok (.ireturn, 1) := by decide +kernel
theorem d_E_image_0 : decode (zb m_E_image) 0 = .ok (.iload_n 1, 1) := by decide +kernel
theorem d_E_image_1 : decode (zb m_E_image) 1 = .ok (.ifCond .lt 8, 3) := by decide +kernel
theorem d_E_image_4 : decode (zb m_E_image) 4 = .ok (.iload_n 1, 1) := by decide +kernel
theorem d_E_image_5 : decode (zb m_E_image) 5 = .ok (.iconst 2, 1) := by decide +kernel
theorem d_E_image_6 : decode (zb m_E_image) 6 = .ok (.if_icmp .lt 6, 3) := by decide +kernel
theorem d_E_image_9 : decode (zb m_E_image) 9 = .ok (.bipush (-2), 2) := by decide +kernel
theorem d_E_image_11 : decode (zb m_E_image) 11 = .ok (.ireturn, 1) := by decide +kernel
theorem d_E_image_12 : decode (zb m_E_image) 12 = .ok (.aload_n 0, 1) := by decide +kernel
theorem d_E_image_13 : decode (zb m_E_image) 13 = .ok (.getfield 25, 3) := by decide +kernel
theorem d_E_image_16 : decode (zb m_E_image) 16 = .ok (.iload_n 1, 1) := by decide +kernel
theorem d_E_image_17 : decode (zb m_E_image) 17 = .ok (.aaload, 1) := by decide +kernel
theorem d_E_image_18 : decode (zb m_E_image) 18 = .ok (.aload_n 0, 1) := by decide +kernel
theorem d_E_image_19 : decode (zb m_E_image) 19 = .ok (.getfield 21, 3) := by decide +kernel
theorem d_E_image_22 : decode (zb m_E_image) 22 = .ok (.invokevirtual 158, 3) := by decide +kernel
theorem d_E_image_25 : decode (zb m_E_image) 25 = .ok (.aload_n 0, 1) := by decide +kernel
theorem d_E_image_26 : decode (zb m_E_image) 26 = .ok (.getfield 29, 3) := by decide +kernel
theorem d_E_image_29 : decode (zb m_E_image) 29 = .ok (.iload_n 1, 1) := by decide +kernel
theorem d_E_image_30 : decode (zb m_E_image) 30 = .ok (.iconst 1, 1) := by decide +kernel
theorem d_E_image_31 : decode (zb m_E_image) 31 = .ok (.bastore, 1) := by decide +kernel
theorem d_E_image_32 : decode (zb m_E_image) 32 = .ok (.iconst 1, 1) := by decide +kernel
theorem d_E_image_33 : decode (zb m_E_image) 33 = .ok (.ireturn, 1) := by decide +kernel
theorem d_E_restore_0 : decode (zb m_E_restore) 0 = .ok (.iload_n 1, 1) := by decide +kernel
theorem d_E_restore_1 : decode (zb m_E_restore) 1 = .ok (.ifCond .lt 8, 3) := by decide +kernel
theorem d_E_restore_4 : decode (zb m_E_restore) 4 = .ok (.iload_n 1, 1) := by decide +kernel
theorem d_E_restore_5 : decode (zb m_E_restore) 5 = .ok (.iconst 2, 1) := by decide +kernel
theorem d_E_restore_6 : decode (zb m_E_restore) 6 = .ok (.if_icmp .lt 6, 3) := by decide +kernel
theorem d_E_restore_9 : decode (zb m_E_restore) 9 = .ok (.bipush (-2), 2) := by decide +kernel
theorem d_E_restore_11 : decode (zb m_E_restore) 11 = .ok (.ireturn, 1) := by decide +kernel
theorem d_E_restore_12 : decode (zb m_E_restore) 12 = .ok (.aload_n 0, 1) := by decide +kernel
theorem d_E_restore_13 : decode (zb m_E_restore) 13 = .ok (.getfield 29, 3) := by decide +kernel
theorem d_E_restore_16 : decode (zb m_E_restore) 16 = .ok (.iload_n 1, 1) := by decide +kernel
theorem d_E_restore_17 : decode (zb m_E_restore) 17 = .ok (.baload, 1) := by decide +kernel
theorem d_E_restore_18 : decode (zb m_E_restore) 18 = .ok (.ifCond .ne 6, 3) := by decide +kernel
theorem d_E_restore_21 : decode (zb m_E_restore) 21 = .ok (.bipush (-3), 2) := by decide +kernel
theorem d_E_restore_23 : decode (zb m_E_restore) 23 = .ok (.ireturn, 1) := by decide +kernel
theorem d_E_restore_24 : decode (zb m_E_restore) 24 = .ok (.aload_n 0, 1) := by decide +kernel
theorem d_E_restore_25 : decode (zb m_E_restore) 25 = .ok (.getfield 21, 3) := by decide +kernel
theorem d_E_restore_28 : decode (zb m_E_restore) 28 = .ok (.aload_n 0, 1) := by decide +kernel
theorem d_E_restore_29 : decode (zb m_E_restore) 29 = .ok (.getfield 25, 3) := by decide +kernel
theorem d_E_restore_32 : decode (zb m_E_restore) 32 = .ok (.iload_n 1, 1) := by decide +kernel
theorem d_E_restore_33 : decode (zb m_E_restore) 33 = .ok (.aaload, 1) := by decide +kernel
theorem d_E_restore_34 : decode (zb m_E_restore) 34 = .ok (.invokevirtual 158, 3) := by decide +kernel
theorem d_E_restore_37 : decode (zb m_E_restore) 37 = .ok (.aload_n 0, 1) := by decide +kernel
theorem d_E_restore_38 : decode (zb m_E_restore) 38 = .ok (.invokevirtual 85, 3) := by decide +kernel
theorem d_E_restore_41 : decode (zb m_E_restore) 41 = .ok (.iconst 1, 1) := by decide +kernel
theorem d_E_restore_42 : decode (zb m_E_restore) 42 = .ok (.ireturn, 1) := by decide +kernel
theorem d_E_told_0 : decode (zb m_E_told) 0 = .ok (.iload_n 1, 1) := by decide +kernel
theorem d_E_told_1 : decode (zb m_E_told) 1 = .ok (.ifCond .ne 11, 3) := by decide +kernel
theorem d_E_told_4 : decode (zb m_E_told) 4 = .ok (.aload_n 0, 1) := by decide +kernel
theorem d_E_told_5 : decode (zb m_E_told) 5 = .ok (.getfield 14, 3) := by decide +kernel
theorem d_E_told_8 : decode (zb m_E_told) 8 = .ok (.invokevirtual 61, 3) := by decide +kernel
theorem d_E_told_11 : decode (zb m_E_told) 11 = .ok (.ireturn, 1) := by decide +kernel
theorem d_E_told_12 : decode (zb m_E_told) 12 = .ok (.iload_n 1, 1) := by decide +kernel
theorem d_E_told_13 : decode (zb m_E_told) 13 = .ok (.iconst 1, 1) := by decide +kernel
theorem d_E_told_14 : decode (zb m_E_told) 14 = .ok (.if_icmp .ne 11, 3) := by decide +kernel
theorem d_E_told_17 : decode (zb m_E_told) 17 = .ok (.aload_n 0, 1) := by decide +kernel
theorem d_E_told_18 : decode (zb m_E_told) 18 = .ok (.getfield 21, 3) := by decide +kernel
theorem d_E_told_21 : decode (zb m_E_told) 21 = .ok (.invokevirtual 74, 3) := by decide +kernel
theorem d_E_told_24 : decode (zb m_E_told) 24 = .ok (.ireturn, 1) := by decide +kernel
theorem d_E_told_25 : decode (zb m_E_told) 25 = .ok (.iload_n 1, 1) := by decide +kernel
theorem d_E_told_26 : decode (zb m_E_told) 26 = .ok (.iconst 2, 1) := by decide +kernel
theorem d_E_told_27 : decode (zb m_E_told) 27 = .ok (.if_icmp .ne 11, 3) := by decide +kernel
theorem d_E_told_30 : decode (zb m_E_told) 30 = .ok (.aload_n 0, 1) := by decide +kernel
theorem d_E_told_31 : decode (zb m_E_told) 31 = .ok (.getfield 21, 3) := by decide +kernel
theorem d_E_told_34 : decode (zb m_E_told) 34 = .ok (.invokevirtual 91, 3) := by decide +kernel
theorem d_E_told_37 : decode (zb m_E_told) 37 = .ok (.ireturn, 1) := by decide +kernel
theorem d_E_told_38 : decode (zb m_E_told) 38 = .ok (.iload_n 1, 1) := by decide +kernel
theorem d_E_told_39 : decode (zb m_E_told) 39 = .ok (.bipush 10, 2) := by decide +kernel
theorem d_E_told_41 : decode (zb m_E_told) 41 = .ok (.if_icmp .lt 32, 3) := by decide +kernel
theorem d_E_told_44 : decode (zb m_E_told) 44 = .ok (.iload_n 1, 1) := by decide +kernel
theorem d_E_told_45 : decode (zb m_E_told) 45 = .ok (.bipush 10, 2) := by decide +kernel
theorem d_E_told_47 : decode (zb m_E_told) 47 = .ok (.aload_n 0, 1) := by decide +kernel
theorem d_E_told_48 : decode (zb m_E_told) 48 = .ok (.getfield 21, 3) := by decide +kernel
theorem d_E_told_51 : decode (zb m_E_told) 51 = .ok (.invokevirtual 74, 3) := by decide +kernel
theorem d_E_told_54 : decode (zb m_E_told) 54 = .ok (.iadd, 1) := by decide +kernel
theorem d_E_told_55 : decode (zb m_E_told) 55 = .ok (.if_icmp .ge 18, 3) := by decide +kernel
theorem d_E_told_58 : decode (zb m_E_told) 58 = .ok (.aload_n 0, 1) := by decide +kernel
theorem d_E_told_59 : decode (zb m_E_told) 59 = .ok (.getfield 21, 3) := by decide +kernel
theorem d_E_told_62 : decode (zb m_E_told) 62 = .ok (.iload_n 1, 1) := by decide +kernel
theorem d_E_told_63 : decode (zb m_E_told) 63 = .ok (.bipush 10, 2) := by decide +kernel
theorem d_E_told_65 : decode (zb m_E_told) 65 = .ok (.isub, 1) := by decide +kernel
theorem d_E_told_66 : decode (zb m_E_told) 66 = .ok (.invokevirtual 162, 3) := by decide +kernel
theorem d_E_told_69 : decode (zb m_E_told) 69 = .ok (.invokevirtual 61, 3) := by decide +kernel
theorem d_E_told_72 : decode (zb m_E_told) 72 = .ok (.ireturn, 1) := by decide +kernel
theorem d_E_told_73 : decode (zb m_E_told) 73 = .ok (.iload_n 1, 1) := by decide +kernel
theorem d_E_told_74 : decode (zb m_E_told) 74 = .ok (.bipush 20, 2) := by decide +kernel
theorem d_E_told_76 : decode (zb m_E_told) 76 = .ok (.if_icmp .lt 32, 3) := by decide +kernel
theorem d_E_told_79 : decode (zb m_E_told) 79 = .ok (.iload_n 1, 1) := by decide +kernel
theorem d_E_told_80 : decode (zb m_E_told) 80 = .ok (.bipush 20, 2) := by decide +kernel
theorem d_E_told_82 : decode (zb m_E_told) 82 = .ok (.aload_n 0, 1) := by decide +kernel
theorem d_E_told_83 : decode (zb m_E_told) 83 = .ok (.getfield 21, 3) := by decide +kernel
theorem d_E_told_86 : decode (zb m_E_told) 86 = .ok (.invokevirtual 74, 3) := by decide +kernel
theorem d_E_told_89 : decode (zb m_E_told) 89 = .ok (.iadd, 1) := by decide +kernel
theorem d_E_told_90 : decode (zb m_E_told) 90 = .ok (.if_icmp .ge 18, 3) := by decide +kernel
theorem d_E_told_93 : decode (zb m_E_told) 93 = .ok (.aload_n 0, 1) := by decide +kernel
theorem d_E_told_94 : decode (zb m_E_told) 94 = .ok (.getfield 21, 3) := by decide +kernel
theorem d_E_told_97 : decode (zb m_E_told) 97 = .ok (.iload_n 1, 1) := by decide +kernel
theorem d_E_told_98 : decode (zb m_E_told) 98 = .ok (.bipush 20, 2) := by decide +kernel
theorem d_E_told_100 : decode (zb m_E_told) 100 = .ok (.isub, 1) := by decide +kernel
theorem d_E_told_101 : decode (zb m_E_told) 101 = .ok (.invokevirtual 165, 3) := by decide +kernel
theorem d_E_told_104 : decode (zb m_E_told) 104 = .ok (.invokevirtual 61, 3) := by decide +kernel
theorem d_E_told_107 : decode (zb m_E_told) 107 = .ok (.ireturn, 1) := by decide +kernel
theorem d_E_told_108 : decode (zb m_E_told) 108 = .ok (.iload_n 1, 1) := by decide +kernel
theorem d_E_told_109 : decode (zb m_E_told) 109 = .ok (.bipush 30, 2) := by decide +kernel
theorem d_E_told_111 : decode (zb m_E_told) 111 = .ok (.if_icmp .lt 32, 3) := by decide +kernel
theorem d_E_told_114 : decode (zb m_E_told) 114 = .ok (.aload_n 0, 1) := by decide +kernel
theorem d_E_told_115 : decode (zb m_E_told) 115 = .ok (.getfield 21, 3) := by decide +kernel
theorem d_E_told_118 : decode (zb m_E_told) 118 = .ok (.iload_n 1, 1) := by decide +kernel
theorem d_E_told_119 : decode (zb m_E_told) 119 = .ok (.bipush 30, 2) := by decide +kernel
theorem d_E_told_121 : decode (zb m_E_told) 121 = .ok (.isub, 1) := by decide +kernel
theorem d_E_told_122 : decode (zb m_E_told) 122 = .ok (.invokevirtual 98, 3) := by decide +kernel
theorem d_E_told_125 : decode (zb m_E_told) 125 = .ok (.ifCond .eq 18, 3) := by decide +kernel
theorem d_E_told_128 : decode (zb m_E_told) 128 = .ok (.aload_n 0, 1) := by decide +kernel
theorem d_E_told_129 : decode (zb m_E_told) 129 = .ok (.getfield 21, 3) := by decide +kernel
theorem d_E_told_132 : decode (zb m_E_told) 132 = .ok (.iload_n 1, 1) := by decide +kernel
theorem d_E_told_133 : decode (zb m_E_told) 133 = .ok (.bipush 30, 2) := by decide +kernel
theorem d_E_told_135 : decode (zb m_E_told) 135 = .ok (.isub, 1) := by decide +kernel
theorem d_E_told_136 : decode (zb m_E_told) 136 = .ok (.invokevirtual 146, 3) := by decide +kernel
theorem d_E_told_139 : decode (zb m_E_told) 139 = .ok (.invokevirtual 61, 3) := by decide +kernel
theorem d_E_told_142 : decode (zb m_E_told) 142 = .ok (.ireturn, 1) := by decide +kernel
theorem d_E_told_143 : decode (zb m_E_told) 143 = .ok (.bipush (-2), 2) := by decide +kernel
theorem d_E_told_145 : decode (zb m_E_told) 145 = .ok (.ireturn, 1) := by decide +kernel
theorem d_E_lineFault_0 : decode (zb m_E_lineFault) 0 = .ok (.aload_n 0, 1) := by decide +kernel
theorem d_E_lineFault_1 : decode (zb m_E_lineFault) 1 = .ok (.getfield 14, 3) := by decide +kernel
theorem d_E_lineFault_4 : decode (zb m_E_lineFault) 4 = .ok (.iconst 0, 1) := by decide +kernel
theorem d_E_lineFault_5 : decode (zb m_E_lineFault) 5 = .ok (.bipush 12, 2) := by decide +kernel
theorem d_E_lineFault_7 : decode (zb m_E_lineFault) 7 = .ok (.invokevirtual 77, 3) := by decide +kernel
theorem d_E_lineFault_10 : decode (zb m_E_lineFault) 10 = .ok (.istore_n 1, 1) := by decide +kernel
theorem d_E_lineFault_11 : decode (zb m_E_lineFault) 11 = .ok (.iload_n 1, 1) := by decide +kernel
theorem d_E_lineFault_12 : decode (zb m_E_lineFault) 12 = .ok (.aload_n 0, 1) := by decide +kernel
theorem d_E_lineFault_13 : decode (zb m_E_lineFault) 13 = .ok (.getfield 14, 3) := by decide +kernel
theorem d_E_lineFault_16 : decode (zb m_E_lineFault) 16 = .ok (.invokevirtual 61, 3) := by decide +kernel
theorem d_E_lineFault_19 : decode (zb m_E_lineFault) 19 = .ok (.if_icmp .ne 8, 3) := by decide +kernel
theorem d_E_lineFault_22 : decode (zb m_E_lineFault) 22 = .ok (.bipush (-6), 2) := by decide +kernel
theorem d_E_lineFault_24 : decode (zb m_E_lineFault) 24 = .ok (.goto 4, 3) := by decide +kernel
theorem d_E_lineFault_27 : decode (zb m_E_lineFault) 27 = .ok (.iload_n 1, 1) := by decide +kernel
theorem d_E_lineFault_28 : decode (zb m_E_lineFault) 28 = .ok (.ireturn, 1) := by decide +kernel
theorem d_E_exampleFault_0 : decode (zb m_E_exampleFault) 0 = .ok (.aload_n 0, 1) := by decide +kernel
theorem d_E_exampleFault_1 : decode (zb m_E_exampleFault) 1 = .ok (.getfield 14, 3) := by decide +kernel
theorem d_E_exampleFault_4 : decode (zb m_E_exampleFault) 4 = .ok (.iconst 0, 1) := by decide +kernel
theorem d_E_exampleFault_5 : decode (zb m_E_exampleFault) 5 = .ok (.bipush 12, 2) := by decide +kernel
theorem d_E_exampleFault_7 : decode (zb m_E_exampleFault) 7 = .ok (.invokevirtual 77, 3) := by decide +kernel
theorem d_E_exampleFault_10 : decode (zb m_E_exampleFault) 10 = .ok (.istore_n 1, 1) := by decide +kernel
theorem d_E_exampleFault_11 : decode (zb m_E_exampleFault) 11 = .ok (.aload_n 0, 1) := by decide +kernel
theorem d_E_exampleFault_12 : decode (zb m_E_exampleFault) 12 = .ok (.getfield 14, 3) := by decide +kernel
theorem d_E_exampleFault_15 : decode (zb m_E_exampleFault) 15 = .ok (.iload_n 1, 1) := by decide +kernel
theorem d_E_exampleFault_16 : decode (zb m_E_exampleFault) 16 = .ok (.invokevirtual 141, 3) := by decide +kernel
theorem d_E_exampleFault_19 : decode (zb m_E_exampleFault) 19 = .ok (.bipush 62, 2) := by decide +kernel
theorem d_E_exampleFault_21 : decode (zb m_E_exampleFault) 21 = .ok (.if_icmp .eq 5, 3) := by decide +kernel
theorem d_E_exampleFault_24 : decode (zb m_E_exampleFault) 24 = .ok (.iload_n 1, 1) := by decide +kernel
theorem d_E_exampleFault_25 : decode (zb m_E_exampleFault) 25 = .ok (.ireturn, 1) := by decide +kernel
theorem d_E_exampleFault_26 : decode (zb m_E_exampleFault) 26 = .ok (.aload_n 0, 1) := by decide +kernel
theorem d_E_exampleFault_27 : decode (zb m_E_exampleFault) 27 = .ok (.getfield 14, 3) := by decide +kernel
theorem d_E_exampleFault_30 : decode (zb m_E_exampleFault) 30 = .ok (.iload_n 1, 1) := by decide +kernel
theorem d_E_exampleFault_31 : decode (zb m_E_exampleFault) 31 = .ok (.iconst 1, 1) := by decide +kernel
theorem d_E_exampleFault_32 : decode (zb m_E_exampleFault) 32 = .ok (.iadd, 1) := by decide +kernel
theorem d_E_exampleFault_33 : decode (zb m_E_exampleFault) 33 = .ok (.iconst 5, 1) := by decide +kernel
theorem d_E_exampleFault_34 : decode (zb m_E_exampleFault) 34 = .ok (.invokevirtual 77, 3) := by decide +kernel
theorem d_E_exampleFault_37 : decode (zb m_E_exampleFault) 37 = .ok (.istore_n 2, 1) := by decide +kernel
theorem d_E_exampleFault_38 : decode (zb m_E_exampleFault) 38 = .ok (.iload_n 2, 1) := by decide +kernel
theorem d_E_exampleFault_39 : decode (zb m_E_exampleFault) 39 = .ok (.aload_n 0, 1) := by decide +kernel
theorem d_E_exampleFault_40 : decode (zb m_E_exampleFault) 40 = .ok (.getfield 14, 3) := by decide +kernel
theorem d_E_exampleFault_43 : decode (zb m_E_exampleFault) 43 = .ok (.invokevirtual 61, 3) := by decide +kernel
theorem d_E_exampleFault_46 : decode (zb m_E_exampleFault) 46 = .ok (.if_icmp .ne 15, 3) := by decide +kernel
theorem d_E_exampleFault_49 : decode (zb m_E_exampleFault) 49 = .ok (.iload_n 2, 1) := by decide +kernel
theorem d_E_exampleFault_50 : decode (zb m_E_exampleFault) 50 = .ok (.iload_n 1, 1) := by decide +kernel
theorem d_E_exampleFault_51 : decode (zb m_E_exampleFault) 51 = .ok (.iconst 1, 1) := by decide +kernel
theorem d_E_exampleFault_52 : decode (zb m_E_exampleFault) 52 = .ok (.iadd, 1) := by decide +kernel
theorem d_E_exampleFault_53 : decode (zb m_E_exampleFault) 53 = .ok (.if_icmp .le 8, 3) := by decide +kernel
theorem d_E_exampleFault_56 : decode (zb m_E_exampleFault) 56 = .ok (.bipush (-6), 2) := by decide +kernel
theorem d_E_exampleFault_58 : decode (zb m_E_exampleFault) 58 = .ok (.goto 4, 3) := by decide +kernel
theorem d_E_exampleFault_61 : decode (zb m_E_exampleFault) 61 = .ok (.iload_n 2, 1) := by decide +kernel
theorem d_E_exampleFault_62 : decode (zb m_E_exampleFault) 62 = .ok (.ireturn, 1) := by decide +kernel
theorem d_E_examplesChanged_0 : decode (zb m_E_examplesChanged) 0 = .ok (.aload_n 0, 1) := by decide +kernel
theorem d_E_examplesChanged_1 : decode (zb m_E_examplesChanged) 1 = .ok (.iconst 0, 1) := by decide +kernel
theorem d_E_examplesChanged_2 : decode (zb m_E_examplesChanged) 2 = .ok (.putfield 168, 3) := by decide +kernel
theorem d_E_examplesChanged_5 : decode (zb m_E_examplesChanged) 5 = .ok (.aload_n 0, 1) := by decide +kernel
theorem d_E_examplesChanged_6 : decode (zb m_E_examplesChanged) 6 = .ok (.invokevirtual 54, 3) := by decide +kernel
theorem d_E_examplesChanged_9 : decode (zb m_E_examplesChanged) 9 = .ok (.return_, 1) := by decide +kernel
theorem d_E_poolChanged_0 : decode (zb m_E_poolChanged) 0 = .ok (.iconst 0, 1) := by decide +kernel
theorem d_E_poolChanged_1 : decode (zb m_E_poolChanged) 1 = .ok (.istore_n 1, 1) := by decide +kernel
theorem d_E_poolChanged_2 : decode (zb m_E_poolChanged) 2 = .ok (.iload_n 1, 1) := by decide +kernel
theorem d_E_poolChanged_3 : decode (zb m_E_poolChanged) 3 = .ok (.bipush 6, 2) := by decide +kernel
theorem d_E_poolChanged_5 : decode (zb m_E_poolChanged) 5 = .ok (.if_icmp .ge 18, 3) := by decide +kernel
theorem d_E_poolChanged_8 : decode (zb m_E_poolChanged) 8 = .ok (.aload_n 0, 1) := by decide +kernel
theorem d_E_poolChanged_9 : decode (zb m_E_poolChanged) 9 = .ok (.getfield 50, 3) := by decide +kernel
theorem d_E_poolChanged_12 : decode (zb m_E_poolChanged) 12 = .ok (.iload_n 1, 1) := by decide +kernel
theorem d_E_poolChanged_13 : decode (zb m_E_poolChanged) 13 = .ok (.ldc2_w 150, 3) := by decide +kernel
theorem d_E_poolChanged_16 : decode (zb m_E_poolChanged) 16 = .ok (.lastore, 1) := by decide +kernel
theorem d_E_poolChanged_17 : decode (zb m_E_poolChanged) 17 = .ok (.iinc 1 1, 3) := by decide +kernel
theorem d_E_poolChanged_20 : decode (zb m_E_poolChanged) 20 = .ok (.goto (-18), 3) := by decide +kernel
theorem d_E_poolChanged_23 : decode (zb m_E_poolChanged) 23 = .ok (.return_, 1) := by decide +kernel
theorem d_E_guess_0 : decode (zb m_E_guess) 0 = .ok (.aload_n 0, 1) := by decide +kernel
theorem d_E_guess_1 : decode (zb m_E_guess) 1 = .ok (.getfield 168, 3) := by decide +kernel
theorem d_E_guess_4 : decode (zb m_E_guess) 4 = .ok (.ifCond .eq 4, 3) := by decide +kernel
theorem d_E_guess_7 : decode (zb m_E_guess) 7 = .ok (.return_, 1) := by decide +kernel
theorem d_E_guess_8 : decode (zb m_E_guess) 8 = .ok (.aload_n 0, 1) := by decide +kernel
theorem d_E_guess_9 : decode (zb m_E_guess) 9 = .ok (.getfield 36, 3) := by decide +kernel
theorem d_E_guess_12 : decode (zb m_E_guess) 12 = .ok (.invokevirtual 172, 3) := by decide +kernel
theorem d_E_guess_15 : decode (zb m_E_guess) 15 = .ok (.iconst 0, 1) := by decide +kernel
theorem d_E_guess_16 : decode (zb m_E_guess) 16 = .ok (.istore_n 1, 1) := by decide +kernel
theorem d_E_guess_17 : decode (zb m_E_guess) 17 = .ok (.iload_n 1, 1) := by decide +kernel
theorem d_E_guess_18 : decode (zb m_E_guess) 18 = .ok (.aload_n 0, 1) := by decide +kernel
theorem d_E_guess_19 : decode (zb m_E_guess) 19 = .ok (.getfield 21, 3) := by decide +kernel
theorem d_E_guess_22 : decode (zb m_E_guess) 22 = .ok (.invokevirtual 74, 3) := by decide +kernel
theorem d_E_guess_25 : decode (zb m_E_guess) 25 = .ok (.if_icmp .ge 32, 3) := by decide +kernel
theorem d_E_guess_28 : decode (zb m_E_guess) 28 = .ok (.aload_n 0, 1) := by decide +kernel
theorem d_E_guess_29 : decode (zb m_E_guess) 29 = .ok (.getfield 36, 3) := by decide +kernel
theorem d_E_guess_32 : decode (zb m_E_guess) 32 = .ok (.aload_n 0, 1) := by decide +kernel
theorem d_E_guess_33 : decode (zb m_E_guess) 33 = .ok (.getfield 21, 3) := by decide +kernel
theorem d_E_guess_36 : decode (zb m_E_guess) 36 = .ok (.iload_n 1, 1) := by decide +kernel
theorem d_E_guess_37 : decode (zb m_E_guess) 37 = .ok (.invokevirtual 162, 3) := by decide +kernel
theorem d_E_guess_40 : decode (zb m_E_guess) 40 = .ok (.aload_n 0, 1) := by decide +kernel
theorem d_E_guess_41 : decode (zb m_E_guess) 41 = .ok (.getfield 21, 3) := by decide +kernel
theorem d_E_guess_44 : decode (zb m_E_guess) 44 = .ok (.iload_n 1, 1) := by decide +kernel
theorem d_E_guess_45 : decode (zb m_E_guess) 45 = .ok (.invokevirtual 165, 3) := by decide +kernel
theorem d_E_guess_48 : decode (zb m_E_guess) 48 = .ok (.invokevirtual 173, 3) := by decide +kernel
theorem d_E_guess_51 : decode (zb m_E_guess) 51 = .ok (.iinc 1 1, 3) := by decide +kernel
theorem d_E_guess_54 : decode (zb m_E_guess) 54 = .ok (.goto (-37), 3) := by decide +kernel
theorem d_E_guess_57 : decode (zb m_E_guess) 57 = .ok (.aload_n 0, 1) := by decide +kernel
theorem d_E_guess_58 : decode (zb m_E_guess) 58 = .ok (.aload_n 0, 1) := by decide +kernel
theorem d_E_guess_59 : decode (zb m_E_guess) 59 = .ok (.getfield 36, 3) := by decide +kernel
theorem d_E_guess_62 : decode (zb m_E_guess) 62 = .ok (.invokevirtual 176, 3) := by decide +kernel
theorem d_E_guess_65 : decode (zb m_E_guess) 65 = .ok (.putfield 109, 3) := by decide +kernel
theorem d_E_guess_68 : decode (zb m_E_guess) 68 = .ok (.aload_n 0, 1) := by decide +kernel
theorem d_E_guess_69 : decode (zb m_E_guess) 69 = .ok (.getfield 43, 3) := by decide +kernel
theorem d_E_guess_72 : decode (zb m_E_guess) 72 = .ok (.invokevirtual 180, 3) := by decide +kernel
theorem d_E_guess_75 : decode (zb m_E_guess) 75 = .ok (.aload_n 0, 1) := by decide +kernel
theorem d_E_guess_76 : decode (zb m_E_guess) 76 = .ok (.getfield 109, 3) := by decide +kernel
theorem d_E_guess_79 : decode (zb m_E_guess) 79 = .ok (.lconst 0, 1) := by decide +kernel
theorem d_E_guess_80 : decode (zb m_E_guess) 80 = .ok (.lcmp, 1) := by decide +kernel
theorem d_E_guess_81 : decode (zb m_E_guess) 81 = .ok (.ifCond .eq 21, 3) := by decide +kernel
theorem d_E_guess_84 : decode (zb m_E_guess) 84 = .ok (.aload_n 0, 1) := by decide +kernel
theorem d_E_guess_85 : decode (zb m_E_guess) 85 = .ok (.getfield 36, 3) := by decide +kernel
theorem d_E_guess_88 : decode (zb m_E_guess) 88 = .ok (.invokevirtual 181, 3) := by decide +kernel
theorem d_E_guess_91 : decode (zb m_E_guess) 91 = .ok (.aload_n 0, 1) := by decide +kernel
theorem d_E_guess_92 : decode (zb m_E_guess) 92 = .ok (.getfield 36, 3) := by decide +kernel
theorem d_E_guess_95 : decode (zb m_E_guess) 95 = .ok (.aload_n 0, 1) := by decide +kernel
theorem d_E_guess_96 : decode (zb m_E_guess) 96 = .ok (.getfield 43, 3) := by decide +kernel
theorem d_E_guess_99 : decode (zb m_E_guess) 99 = .ok (.invokevirtual 184, 3) := by decide +kernel
theorem d_E_guess_102 : decode (zb m_E_guess) 102 = .ok (.aload_n 0, 1) := by decide +kernel
theorem d_E_guess_103 : decode (zb m_E_guess) 103 = .ok (.iconst 1, 1) := by decide +kernel
theorem d_E_guess_104 : decode (zb m_E_guess) 104 = .ok (.putfield 168, 3) := by decide +kernel
theorem d_E_guess_107 : decode (zb m_E_guess) 107 = .ok (.return_, 1) := by decide +kernel
theorem d_E_makesResult_0 : decode (zb m_E_makesResult) 0 = .ok (.aload_n 0, 1) := by decide +kernel
theorem d_E_makesResult_1 : decode (zb m_E_makesResult) 1 = .ok (.getfield 43, 3) := by decide +kernel
theorem d_E_makesResult_4 : decode (zb m_E_makesResult) 4 = .ok (.aload_n 0, 1) := by decide +kernel
theorem d_E_makesResult_5 : decode (zb m_E_makesResult) 5 = .ok (.getfield 21, 3) := by decide +kernel
theorem d_E_makesResult_8 : decode (zb m_E_makesResult) 8 = .ok (.iload_n 1, 1) := by decide +kernel
theorem d_E_makesResult_9 : decode (zb m_E_makesResult) 9 = .ok (.invokevirtual 146, 3) := by decide +kernel
theorem d_E_makesResult_12 : decode (zb m_E_makesResult) 12 = .ok (.aload_n 0, 1) := by decide +kernel
theorem d_E_makesResult_13 : decode (zb m_E_makesResult) 13 = .ok (.getfield 47, 3) := by decide +kernel
theorem d_E_makesResult_16 : decode (zb m_E_makesResult) 16 = .ok (.invokevirtual 137, 3) := by decide +kernel
theorem d_E_makesResult_19 : decode (zb m_E_makesResult) 19 = .ok (.aload_n 0, 1) := by decide +kernel
theorem d_E_makesResult_20 : decode (zb m_E_makesResult) 20 = .ok (.getfield 47, 3) := by decide +kernel
theorem d_E_makesResult_23 : decode (zb m_E_makesResult) 23 = .ok (.invokevirtual 61, 3) := by decide +kernel
theorem d_E_makesResult_26 : decode (zb m_E_makesResult) 26 = .ok (.iconst 1, 1) := by decide +kernel
theorem d_E_makesResult_27 : decode (zb m_E_makesResult) 27 = .ok (.if_icmp .lt 18, 3) := by decide +kernel
theorem d_E_makesResult_30 : decode (zb m_E_makesResult) 30 = .ok (.aload_n 0, 1) := by decide +kernel
theorem d_E_makesResult_31 : decode (zb m_E_makesResult) 31 = .ok (.getfield 47, 3) := by decide +kernel
theorem d_E_makesResult_34 : decode (zb m_E_makesResult) 34 = .ok (.invokevirtual 61, 3) := by decide +kernel
theorem d_E_makesResult_37 : decode (zb m_E_makesResult) 37 = .ok (.iconst 5, 1) := by decide +kernel
theorem d_E_makesResult_38 : decode (zb m_E_makesResult) 38 = .ok (.if_icmp .gt 7, 3) := by decide +kernel
theorem d_E_makesResult_41 : decode (zb m_E_makesResult) 41 = .ok (.iconst 1, 1) := by decide +kernel
theorem d_E_makesResult_42 : decode (zb m_E_makesResult) 42 = .ok (.goto 4, 3) := by decide +kernel
theorem d_E_makesResult_45 : decode (zb m_E_makesResult) 45 = .ok (.iconst 0, 1) := by decide +kernel
theorem d_E_makesResult_46 : decode (zb m_E_makesResult) 46 = .ok (.ireturn, 1) := by decide +kernel
theorem d_E_countAgreeing_0 : decode (zb m_E_countAgreeing) 0 = .ok (.iload_n 1, 1) := by decide +kernel
theorem d_E_countAgreeing_1 : decode (zb m_E_countAgreeing) 1 = .ok (.ifCond .lt 9, 3) := by decide +kernel
theorem d_E_countAgreeing_4 : decode (zb m_E_countAgreeing) 4 = .ok (.iload_n 1, 1) := by decide +kernel
theorem d_E_countAgreeing_5 : decode (zb m_E_countAgreeing) 5 = .ok (.bipush 6, 2) := by decide +kernel
theorem d_E_countAgreeing_7 : decode (zb m_E_countAgreeing) 7 = .ok (.if_icmp .lt 5, 3) := by decide +kernel
theorem d_E_countAgreeing_10 : decode (zb m_E_countAgreeing) 10 = .ok (.lconst 0, 1) := by decide +kernel
theorem d_E_countAgreeing_11 : decode (zb m_E_countAgreeing) 11 = .ok (.lreturn, 1) := by decide +kernel
theorem d_E_countAgreeing_12 : decode (zb m_E_countAgreeing) 12 = .ok (.aload_n 0, 1) := by decide +kernel
theorem d_E_countAgreeing_13 : decode (zb m_E_countAgreeing) 13 = .ok (.getfield 50, 3) := by decide +kernel
theorem d_E_countAgreeing_16 : decode (zb m_E_countAgreeing) 16 = .ok (.iload_n 1, 1) := by decide +kernel
theorem d_E_countAgreeing_17 : decode (zb m_E_countAgreeing) 17 = .ok (.laload, 1) := by decide +kernel
theorem d_E_countAgreeing_18 : decode (zb m_E_countAgreeing) 18 = .ok (.ldc2_w 150, 3) := by decide +kernel
theorem d_E_countAgreeing_21 : decode (zb m_E_countAgreeing) 21 = .ok (.lcmp, 1) := by decide +kernel
theorem d_E_countAgreeing_22 : decode (zb m_E_countAgreeing) 22 = .ok (.ifCond .ne 42, 3) := by decide +kernel
theorem d_E_countAgreeing_25 : decode (zb m_E_countAgreeing) 25 = .ok (.aload_n 0, 1) := by decide +kernel
theorem d_E_countAgreeing_26 : decode (zb m_E_countAgreeing) 26 = .ok (.getfield 36, 3) := by decide +kernel
theorem d_E_countAgreeing_29 : decode (zb m_E_countAgreeing) 29 = .ok (.aload_n 0, 1) := by decide +kernel
theorem d_E_countAgreeing_30 : decode (zb m_E_countAgreeing) 30 = .ok (.getfield 21, 3) := by decide +kernel
theorem d_E_countAgreeing_33 : decode (zb m_E_countAgreeing) 33 = .ok (.iload_n 1, 1) := by decide +kernel
theorem d_E_countAgreeing_34 : decode (zb m_E_countAgreeing) 34 = .ok (.invokevirtual 146, 3) := by decide +kernel
theorem d_E_countAgreeing_37 : decode (zb m_E_countAgreeing) 37 = .ok (.aload_n 0, 1) := by decide +kernel
theorem d_E_countAgreeing_38 : decode (zb m_E_countAgreeing) 38 = .ok (.getfield 47, 3) := by decide +kernel
theorem d_E_countAgreeing_41 : decode (zb m_E_countAgreeing) 41 = .ok (.invokevirtual 173, 3) := by decide +kernel
theorem d_E_countAgreeing_44 : decode (zb m_E_countAgreeing) 44 = .ok (.aload_n 0, 1) := by decide +kernel
theorem d_E_countAgreeing_45 : decode (zb m_E_countAgreeing) 45 = .ok (.getfield 50, 3) := by decide +kernel
theorem d_E_countAgreeing_48 : decode (zb m_E_countAgreeing) 48 = .ok (.iload_n 1, 1) := by decide +kernel
theorem d_E_countAgreeing_49 : decode (zb m_E_countAgreeing) 49 = .ok (.aload_n 0, 1) := by decide +kernel
theorem d_E_countAgreeing_50 : decode (zb m_E_countAgreeing) 50 = .ok (.getfield 36, 3) := by decide +kernel
theorem d_E_countAgreeing_53 : decode (zb m_E_countAgreeing) 53 = .ok (.invokevirtual 176, 3) := by decide +kernel
theorem d_E_countAgreeing_56 : decode (zb m_E_countAgreeing) 56 = .ok (.lastore, 1) := by decide +kernel
theorem d_E_countAgreeing_57 : decode (zb m_E_countAgreeing) 57 = .ok (.aload_n 0, 1) := by decide +kernel
theorem d_E_countAgreeing_58 : decode (zb m_E_countAgreeing) 58 = .ok (.getfield 36, 3) := by decide +kernel
theorem d_E_countAgreeing_61 : decode (zb m_E_countAgreeing) 61 = .ok (.invokevirtual 188, 3) := by decide +kernel
theorem d_E_countAgreeing_64 : decode (zb m_E_countAgreeing) 64 = .ok (.aload_n 0, 1) := by decide +kernel
theorem d_E_countAgreeing_65 : decode (zb m_E_countAgreeing) 65 = .ok (.getfield 50, 3) := by decide +kernel
theorem d_E_countAgreeing_68 : decode (zb m_E_countAgreeing) 68 = .ok (.iload_n 1, 1) := by decide +kernel
theorem d_E_countAgreeing_69 : decode (zb m_E_countAgreeing) 69 = .ok (.laload, 1) := by decide +kernel
theorem d_E_countAgreeing_70 : decode (zb m_E_countAgreeing) 70 = .ok (.lreturn, 1) := by decide +kernel
theorem d_Bk_init_0 : decode (zb m_Bk_init) 0 = .ok (.aload_n 0, 1) := by decide +kernel
theorem d_Bk_init_1 : decode (zb m_Bk_init) 1 = .ok (.invokespecial 3, 3) := by decide +kernel
theorem d_Bk_init_4 : decode (zb m_Bk_init) 4 = .ok (.aload_n 0, 1) := by decide +kernel
theorem d_Bk_init_5 : decode (zb m_Bk_init) 5 = .ok (.iconst 3, 1) := by decide +kernel
theorem d_Bk_init_6 : decode (zb m_Bk_init) 6 = .ok (.anewarray 9, 3) := by decide +kernel
theorem d_Bk_init_9 : decode (zb m_Bk_init) 9 = .ok (.putfield 11, 3) := by decide +kernel
theorem d_Bk_init_12 : decode (zb m_Bk_init) 12 = .ok (.aload_n 0, 1) := by decide +kernel
theorem d_Bk_init_13 : decode (zb m_Bk_init) 13 = .ok (.iconst 3, 1) := by decide +kernel
theorem d_Bk_init_14 : decode (zb m_Bk_init) 14 = .ok (.anewarray 9, 3) := by decide +kernel
theorem d_Bk_init_17 : decode (zb m_Bk_init) 17 = .ok (.putfield 17, 3) := by decide +kernel
theorem d_Bk_init_20 : decode (zb m_Bk_init) 20 = .ok (.aload_n 0, 1) := by decide +kernel
theorem d_Bk_init_21 : decode (zb m_Bk_init) 21 = .ok (.bipush 6, 2) := by decide +kernel
theorem d_Bk_init_23 : decode (zb m_Bk_init) 23 = .ok (.anewarray 9, 3) := by decide +kernel
theorem d_Bk_init_26 : decode (zb m_Bk_init) 26 = .ok (.putfield 20, 3) := by decide +kernel
theorem d_Bk_init_29 : decode (zb m_Bk_init) 29 = .ok (.iconst 0, 1) := by decide +kernel
theorem d_Bk_init_30 : decode (zb m_Bk_init) 30 = .ok (.istore_n 1, 1) := by decide +kernel
theorem d_Bk_init_31 : decode (zb m_Bk_init) 31 = .ok (.iload_n 1, 1) := by decide +kernel
theorem d_Bk_init_32 : decode (zb m_Bk_init) 32 = .ok (.iconst 3, 1) := by decide +kernel
theorem d_Bk_init_33 : decode (zb m_Bk_init) 33 = .ok (.if_icmp .ge 38, 3) := by decide +kernel
theorem d_Bk_init_36 : decode (zb m_Bk_init) 36 = .ok (.aload_n 0, 1) := by decide +kernel
theorem d_Bk_init_37 : decode (zb m_Bk_init) 37 = .ok (.getfield 11, 3) := by decide +kernel
theorem d_Bk_init_40 : decode (zb m_Bk_init) 40 = .ok (.iload_n 1, 1) := by decide +kernel
theorem d_Bk_init_41 : decode (zb m_Bk_init) 41 = .ok (.new 9, 3) := by decide +kernel
theorem d_Bk_init_44 : decode (zb m_Bk_init) 44 = .ok (.dup, 1) := by decide +kernel
theorem d_Bk_init_45 : decode (zb m_Bk_init) 45 = .ok (.bipush 12, 2) := by decide +kernel
theorem d_Bk_init_47 : decode (zb m_Bk_init) 47 = .ok (.invokespecial 23, 3) := by decide +kernel
theorem d_Bk_init_50 : decode (zb m_Bk_init) 50 = .ok (.aastore, 1) := by decide +kernel
theorem d_Bk_init_51 : decode (zb m_Bk_init) 51 = .ok (.aload_n 0, 1) := by decide +kernel
theorem d_Bk_init_52 : decode (zb m_Bk_init) 52 = .ok (.getfield 17, 3) := by decide +kernel
theorem d_Bk_init_55 : decode (zb m_Bk_init) 55 = .ok (.iload_n 1, 1) := by decide +kernel
theorem d_Bk_init_56 : decode (zb m_Bk_init) 56 = .ok (.new 9, 3) := by decide +kernel
theorem d_Bk_init_59 : decode (zb m_Bk_init) 59 = .ok (.dup, 1) := by decide +kernel
theorem d_Bk_init_60 : decode (zb m_Bk_init) 60 = .ok (.iconst 5, 1) := by decide +kernel
theorem d_Bk_init_61 : decode (zb m_Bk_init) 61 = .ok (.invokespecial 23, 3) := by decide +kernel
theorem d_Bk_init_64 : decode (zb m_Bk_init) 64 = .ok (.aastore, 1) := by decide +kernel
theorem d_Bk_init_65 : decode (zb m_Bk_init) 65 = .ok (.iinc 1 1, 3) := by decide +kernel
theorem d_Bk_init_68 : decode (zb m_Bk_init) 68 = .ok (.goto (-37), 3) := by decide +kernel
theorem d_Bk_init_71 : decode (zb m_Bk_init) 71 = .ok (.iconst 0, 1) := by decide +kernel
theorem d_Bk_init_72 : decode (zb m_Bk_init) 72 = .ok (.istore_n 1, 1) := by decide +kernel
theorem d_Bk_init_73 : decode (zb m_Bk_init) 73 = .ok (.iload_n 1, 1) := by decide +kernel
theorem d_Bk_init_74 : decode (zb m_Bk_init) 74 = .ok (.bipush 6, 2) := by decide +kernel
theorem d_Bk_init_76 : decode (zb m_Bk_init) 76 = .ok (.if_icmp .ge 24, 3) := by decide +kernel
theorem d_Bk_init_79 : decode (zb m_Bk_init) 79 = .ok (.aload_n 0, 1) := by decide +kernel
theorem d_Bk_init_80 : decode (zb m_Bk_init) 80 = .ok (.getfield 20, 3) := by decide +kernel
theorem d_Bk_init_83 : decode (zb m_Bk_init) 83 = .ok (.iload_n 1, 1) := by decide +kernel
theorem d_Bk_init_84 : decode (zb m_Bk_init) 84 = .ok (.new 9, 3) := by decide +kernel
theorem d_Bk_init_87 : decode (zb m_Bk_init) 87 = .ok (.dup, 1) := by decide +kernel
theorem d_Bk_init_88 : decode (zb m_Bk_init) 88 = .ok (.bipush 12, 2) := by decide +kernel
theorem d_Bk_init_90 : decode (zb m_Bk_init) 90 = .ok (.invokespecial 23, 3) := by decide +kernel
theorem d_Bk_init_93 : decode (zb m_Bk_init) 93 = .ok (.aastore, 1) := by decide +kernel
theorem d_Bk_init_94 : decode (zb m_Bk_init) 94 = .ok (.iinc 1 1, 3) := by decide +kernel
theorem d_Bk_init_97 : decode (zb m_Bk_init) 97 = .ok (.goto (-24), 3) := by decide +kernel
theorem d_Bk_init_100 : decode (zb m_Bk_init) 100 = .ok (.return_, 1) := by decide +kernel
theorem d_Bk_examples_0 : decode (zb m_Bk_examples) 0 = .ok (.aload_n 0, 1) := by decide +kernel
theorem d_Bk_examples_1 : decode (zb m_Bk_examples) 1 = .ok (.getfield 26, 3) := by decide +kernel
theorem d_Bk_examples_4 : decode (zb m_Bk_examples) 4 = .ok (.ireturn, 1) := by decide +kernel
theorem d_Bk_pooled_0 : decode (zb m_Bk_pooled) 0 = .ok (.aload_n 0, 1) := by decide +kernel
theorem d_Bk_pooled_1 : decode (zb m_Bk_pooled) 1 = .ok (.getfield 30, 3) := by decide +kernel
theorem d_Bk_pooled_4 : decode (zb m_Bk_pooled) 4 = .ok (.ireturn, 1) := by decide +kernel
theorem d_Bk_knows_0 : decode (zb m_Bk_knows) 0 = .ok (.iload_n 1, 1) := by decide +kernel
theorem d_Bk_knows_1 : decode (zb m_Bk_knows) 1 = .ok (.ifCond .lt 15, 3) := by decide +kernel
theorem d_Bk_knows_4 : decode (zb m_Bk_knows) 4 = .ok (.iload_n 1, 1) := by decide +kernel
theorem d_Bk_knows_5 : decode (zb m_Bk_knows) 5 = .ok (.aload_n 0, 1) := by decide +kernel
theorem d_Bk_knows_6 : decode (zb m_Bk_knows) 6 = .ok (.getfield 30, 3) := by decide +kernel
theorem d_Bk_knows_9 : decode (zb m_Bk_knows) 9 = .ok (.if_icmp .ge 7, 3) := by decide +kernel
theorem d_Bk_knows_12 : decode (zb m_Bk_knows) 12 = .ok (.iconst 1, 1) := by decide +kernel
theorem d_Bk_knows_13 : decode (zb m_Bk_knows) 13 = .ok (.goto 4, 3) := by decide +kernel
theorem d_Bk_knows_16 : decode (zb m_Bk_knows) 16 = .ok (.iconst 0, 1) := by decide +kernel
theorem d_Bk_knows_17 : decode (zb m_Bk_knows) 17 = .ok (.ireturn, 1) := by decide +kernel
theorem d_Bk_exampleLine_0 : decode (zb m_Bk_exampleLine) 0 = .ok (.aload_n 0, 1) := by decide +kernel
theorem d_Bk_exampleLine_1 : decode (zb m_Bk_exampleLine) 1 = .ok (.getfield 11, 3) := by decide +kernel
theorem d_Bk_exampleLine_4 : decode (zb m_Bk_exampleLine) 4 = .ok (.iload_n 1, 1) := by decide +kernel
theorem d_Bk_exampleLine_5 : decode (zb m_Bk_exampleLine) 5 = .ok (.ifCond .lt 12, 3) := by decide +kernel
theorem d_Bk_exampleLine_8 : decode (zb m_Bk_exampleLine) 8 = .ok (.iload_n 1, 1) := by decide +kernel
theorem d_Bk_exampleLine_9 : decode (zb m_Bk_exampleLine) 9 = .ok (.iconst 3, 1) := by decide +kernel
theorem d_Bk_exampleLine_10 : decode (zb m_Bk_exampleLine) 10 = .ok (.if_icmp .ge 7, 3) := by decide +kernel
theorem d_Bk_exampleLine_13 : decode (zb m_Bk_exampleLine) 13 = .ok (.iload_n 1, 1) := by decide +kernel
theorem d_Bk_exampleLine_14 : decode (zb m_Bk_exampleLine) 14 = .ok (.goto 4, 3) := by decide +kernel
theorem d_Bk_exampleLine_17 : decode (zb m_Bk_exampleLine) 17 = .ok (.iconst 0, 1) := by decide +kernel
theorem d_Bk_exampleLine_18 : decode (zb m_Bk_exampleLine) 18 = .ok (.aaload, 1) := by decide +kernel
theorem d_Bk_exampleLine_19 : decode (zb m_Bk_exampleLine) 19 = .ok (.areturn, 1) := by decide +kernel
theorem d_Bk_result_0 : decode (zb m_Bk_result) 0 = .ok (.aload_n 0, 1) := by decide +kernel
theorem d_Bk_result_1 : decode (zb m_Bk_result) 1 = .ok (.getfield 17, 3) := by decide +kernel
theorem d_Bk_result_4 : decode (zb m_Bk_result) 4 = .ok (.iload_n 1, 1) := by decide +kernel
theorem d_Bk_result_5 : decode (zb m_Bk_result) 5 = .ok (.ifCond .lt 12, 3) := by decide +kernel
theorem d_Bk_result_8 : decode (zb m_Bk_result) 8 = .ok (.iload_n 1, 1) := by decide +kernel
theorem d_Bk_result_9 : decode (zb m_Bk_result) 9 = .ok (.iconst 3, 1) := by decide +kernel
theorem d_Bk_result_10 : decode (zb m_Bk_result) 10 = .ok (.if_icmp .ge 7, 3) := by decide +kernel
theorem d_Bk_result_13 : decode (zb m_Bk_result) 13 = .ok (.iload_n 1, 1) := by decide +kernel
theorem d_Bk_result_14 : decode (zb m_Bk_result) 14 = .ok (.goto 4, 3) := by decide +kernel
theorem d_Bk_result_17 : decode (zb m_Bk_result) 17 = .ok (.iconst 0, 1) := by decide +kernel
theorem d_Bk_result_18 : decode (zb m_Bk_result) 18 = .ok (.aaload, 1) := by decide +kernel
theorem d_Bk_result_19 : decode (zb m_Bk_result) 19 = .ok (.areturn, 1) := by decide +kernel
theorem d_Bk_line_0 : decode (zb m_Bk_line) 0 = .ok (.aload_n 0, 1) := by decide +kernel
theorem d_Bk_line_1 : decode (zb m_Bk_line) 1 = .ok (.getfield 20, 3) := by decide +kernel
theorem d_Bk_line_4 : decode (zb m_Bk_line) 4 = .ok (.iload_n 1, 1) := by decide +kernel
theorem d_Bk_line_5 : decode (zb m_Bk_line) 5 = .ok (.ifCond .lt 13, 3) := by decide +kernel
theorem d_Bk_line_8 : decode (zb m_Bk_line) 8 = .ok (.iload_n 1, 1) := by decide +kernel
theorem d_Bk_line_9 : decode (zb m_Bk_line) 9 = .ok (.bipush 6, 2) := by decide +kernel
theorem d_Bk_line_11 : decode (zb m_Bk_line) 11 = .ok (.if_icmp .ge 7, 3) := by decide +kernel
theorem d_Bk_line_14 : decode (zb m_Bk_line) 14 = .ok (.iload_n 1, 1) := by decide +kernel
theorem d_Bk_line_15 : decode (zb m_Bk_line) 15 = .ok (.goto 4, 3) := by decide +kernel
theorem d_Bk_line_18 : decode (zb m_Bk_line) 18 = .ok (.iconst 0, 1) := by decide +kernel
theorem d_Bk_line_19 : decode (zb m_Bk_line) 19 = .ok (.aaload, 1) := by decide +kernel
theorem d_Bk_line_20 : decode (zb m_Bk_line) 20 = .ok (.areturn, 1) := by decide +kernel
theorem d_Bk_addExample_0 : decode (zb m_Bk_addExample) 0 = .ok (.aload_n 0, 1) := by decide +kernel
theorem d_Bk_addExample_1 : decode (zb m_Bk_addExample) 1 = .ok (.getfield 26, 3) := by decide +kernel
theorem d_Bk_addExample_4 : decode (zb m_Bk_addExample) 4 = .ok (.iconst 3, 1) := by decide +kernel
theorem d_Bk_addExample_5 : decode (zb m_Bk_addExample) 5 = .ok (.if_icmp .ge 71, 3) := by decide +kernel
theorem d_Bk_addExample_8 : decode (zb m_Bk_addExample) 8 = .ok (.aload_n 0, 1) := by decide +kernel
theorem d_Bk_addExample_9 : decode (zb m_Bk_addExample) 9 = .ok (.getfield 11, 3) := by decide +kernel
theorem d_Bk_addExample_12 : decode (zb m_Bk_addExample) 12 = .ok (.aload_n 0, 1) := by decide +kernel
theorem d_Bk_addExample_13 : decode (zb m_Bk_addExample) 13 = .ok (.getfield 26, 3) := by decide +kernel
theorem d_Bk_addExample_16 : decode (zb m_Bk_addExample) 16 = .ok (.aaload, 1) := by decide +kernel
theorem d_Bk_addExample_17 : decode (zb m_Bk_addExample) 17 = .ok (.invokevirtual 33, 3) := by decide +kernel
theorem d_Bk_addExample_20 : decode (zb m_Bk_addExample) 20 = .ok (.aload_n 0, 1) := by decide +kernel
theorem d_Bk_addExample_21 : decode (zb m_Bk_addExample) 21 = .ok (.getfield 11, 3) := by decide +kernel
theorem d_Bk_addExample_24 : decode (zb m_Bk_addExample) 24 = .ok (.aload_n 0, 1) := by decide +kernel
theorem d_Bk_addExample_25 : decode (zb m_Bk_addExample) 25 = .ok (.getfield 26, 3) := by decide +kernel
theorem d_Bk_addExample_28 : decode (zb m_Bk_addExample) 28 = .ok (.aaload, 1) := by decide +kernel
theorem d_Bk_addExample_29 : decode (zb m_Bk_addExample) 29 = .ok (.aload_n 1, 1) := by decide +kernel
theorem d_Bk_addExample_30 : decode (zb m_Bk_addExample) 30 = .ok (.iconst 0, 1) := by decide +kernel
theorem d_Bk_addExample_31 : decode (zb m_Bk_addExample) 31 = .ok (.iload_n 2, 1) := by decide +kernel
theorem d_Bk_addExample_32 : decode (zb m_Bk_addExample) 32 = .ok (.invokevirtual 36, 3) := by decide +kernel
theorem d_Bk_addExample_35 : decode (zb m_Bk_addExample) 35 = .ok (.aload_n 0, 1) := by decide +kernel
theorem d_Bk_addExample_36 : decode (zb m_Bk_addExample) 36 = .ok (.getfield 17, 3) := by decide +kernel
theorem d_Bk_addExample_39 : decode (zb m_Bk_addExample) 39 = .ok (.aload_n 0, 1) := by decide +kernel
theorem d_Bk_addExample_40 : decode (zb m_Bk_addExample) 40 = .ok (.getfield 26, 3) := by decide +kernel
theorem d_Bk_addExample_43 : decode (zb m_Bk_addExample) 43 = .ok (.aaload, 1) := by decide +kernel
theorem d_Bk_addExample_44 : decode (zb m_Bk_addExample) 44 = .ok (.invokevirtual 33, 3) := by decide +kernel
theorem d_Bk_addExample_47 : decode (zb m_Bk_addExample) 47 = .ok (.aload_n 0, 1) := by decide +kernel
theorem d_Bk_addExample_48 : decode (zb m_Bk_addExample) 48 = .ok (.getfield 17, 3) := by decide +kernel
theorem d_Bk_addExample_51 : decode (zb m_Bk_addExample) 51 = .ok (.aload_n 0, 1) := by decide +kernel
theorem d_Bk_addExample_52 : decode (zb m_Bk_addExample) 52 = .ok (.getfield 26, 3) := by decide +kernel
theorem d_Bk_addExample_55 : decode (zb m_Bk_addExample) 55 = .ok (.aaload, 1) := by decide +kernel
theorem d_Bk_addExample_56 : decode (zb m_Bk_addExample) 56 = .ok (.aload_n 3, 1) := by decide +kernel
theorem d_Bk_addExample_57 : decode (zb m_Bk_addExample) 57 = .ok (.iload 4, 2) := by decide +kernel
theorem d_Bk_addExample_59 : decode (zb m_Bk_addExample) 59 = .ok (.aload_n 3, 1) := by decide +kernel
theorem d_Bk_addExample_60 : decode (zb m_Bk_addExample) 60 = .ok (.invokevirtual 40, 3) := by decide +kernel
theorem d_Bk_addExample_63 : decode (zb m_Bk_addExample) 63 = .ok (.invokevirtual 36, 3) := by decide +kernel
theorem d_Bk_addExample_66 : decode (zb m_Bk_addExample) 66 = .ok (.aload_n 0, 1) := by decide +kernel
theorem d_Bk_addExample_67 : decode (zb m_Bk_addExample) 67 = .ok (.dup, 1) := by decide +kernel
theorem d_Bk_addExample_68 : decode (zb m_Bk_addExample) 68 = .ok (.getfield 26, 3) := by decide +kernel
theorem d_Bk_addExample_71 : decode (zb m_Bk_addExample) 71 = .ok (.iconst 1, 1) := by decide +kernel
theorem d_Bk_addExample_72 : decode (zb m_Bk_addExample) 72 = .ok (.iadd, 1) := by decide +kernel
theorem d_Bk_addExample_73 : decode (zb m_Bk_addExample) 73 = .ok (.putfield 26, 3) := by decide +kernel
theorem d_Bk_addExample_76 : decode (zb m_Bk_addExample) 76 = .ok (.return_, 1) := by decide +kernel
theorem d_Bk_dropExample_0 : decode (zb m_Bk_dropExample) 0 = .ok (.aload_n 0, 1) := by decide +kernel
theorem d_Bk_dropExample_1 : decode (zb m_Bk_dropExample) 1 = .ok (.getfield 26, 3) := by decide +kernel
theorem d_Bk_dropExample_4 : decode (zb m_Bk_dropExample) 4 = .ok (.ifCond .le 13, 3) := by decide +kernel
theorem d_Bk_dropExample_7 : decode (zb m_Bk_dropExample) 7 = .ok (.aload_n 0, 1) := by decide +kernel
theorem d_Bk_dropExample_8 : decode (zb m_Bk_dropExample) 8 = .ok (.dup, 1) := by decide +kernel
theorem d_Bk_dropExample_9 : decode (zb m_Bk_dropExample) 9 = .ok (.getfield 26, 3) := by decide +kernel
theorem d_Bk_dropExample_12 : decode (zb m_Bk_dropExample) 12 = .ok (.iconst 1, 1) := by decide +kernel
theorem d_Bk_dropExample_13 : decode (zb m_Bk_dropExample) 13 = .ok (.isub, 1) := by decide +kernel
theorem d_Bk_dropExample_14 : decode (zb m_Bk_dropExample) 14 = .ok (.putfield 26, 3) := by decide +kernel
theorem d_Bk_dropExample_17 : decode (zb m_Bk_dropExample) 17 = .ok (.return_, 1) := by decide +kernel
theorem d_Bk_addLine_0 : decode (zb m_Bk_addLine) 0 = .ok (.aload_n 0, 1) := by decide +kernel
theorem d_Bk_addLine_1 : decode (zb m_Bk_addLine) 1 = .ok (.getfield 30, 3) := by decide +kernel
theorem d_Bk_addLine_4 : decode (zb m_Bk_addLine) 4 = .ok (.bipush 6, 2) := by decide +kernel
theorem d_Bk_addLine_6 : decode (zb m_Bk_addLine) 6 = .ok (.if_icmp .ge 26, 3) := by decide +kernel
theorem d_Bk_addLine_9 : decode (zb m_Bk_addLine) 9 = .ok (.aload_n 0, 1) := by decide +kernel
theorem d_Bk_addLine_10 : decode (zb m_Bk_addLine) 10 = .ok (.getfield 20, 3) := by decide +kernel
theorem d_Bk_addLine_13 : decode (zb m_Bk_addLine) 13 = .ok (.aload_n 0, 1) := by decide +kernel
theorem d_Bk_addLine_14 : decode (zb m_Bk_addLine) 14 = .ok (.getfield 30, 3) := by decide +kernel
theorem d_Bk_addLine_17 : decode (zb m_Bk_addLine) 17 = .ok (.aaload, 1) := by decide +kernel
theorem d_Bk_addLine_18 : decode (zb m_Bk_addLine) 18 = .ok (.aload_n 1, 1) := by decide +kernel
theorem d_Bk_addLine_19 : decode (zb m_Bk_addLine) 19 = .ok (.invokevirtual 44, 3) := by decide +kernel
theorem d_Bk_addLine_22 : decode (zb m_Bk_addLine) 22 = .ok (.aload_n 0, 1) := by decide +kernel
theorem d_Bk_addLine_23 : decode (zb m_Bk_addLine) 23 = .ok (.dup, 1) := by decide +kernel
theorem d_Bk_addLine_24 : decode (zb m_Bk_addLine) 24 = .ok (.getfield 30, 3) := by decide +kernel
theorem d_Bk_addLine_27 : decode (zb m_Bk_addLine) 27 = .ok (.iconst 1, 1) := by decide +kernel
theorem d_Bk_addLine_28 : decode (zb m_Bk_addLine) 28 = .ok (.iadd, 1) := by decide +kernel
theorem d_Bk_addLine_29 : decode (zb m_Bk_addLine) 29 = .ok (.putfield 30, 3) := by decide +kernel
theorem d_Bk_addLine_32 : decode (zb m_Bk_addLine) 32 = .ok (.return_, 1) := by decide +kernel
theorem d_Bk_dropLine_0 : decode (zb m_Bk_dropLine) 0 = .ok (.aload_n 0, 1) := by decide +kernel
theorem d_Bk_dropLine_1 : decode (zb m_Bk_dropLine) 1 = .ok (.iload_n 1, 1) := by decide +kernel
theorem d_Bk_dropLine_2 : decode (zb m_Bk_dropLine) 2 = .ok (.invokevirtual 48, 3) := by decide +kernel
theorem d_Bk_dropLine_5 : decode (zb m_Bk_dropLine) 5 = .ok (.ifCond .eq 48, 3) := by decide +kernel
theorem d_Bk_dropLine_8 : decode (zb m_Bk_dropLine) 8 = .ok (.iload_n 1, 1) := by decide +kernel
theorem d_Bk_dropLine_9 : decode (zb m_Bk_dropLine) 9 = .ok (.istore_n 2, 1) := by decide +kernel
theorem d_Bk_dropLine_10 : decode (zb m_Bk_dropLine) 10 = .ok (.iload_n 2, 1) := by decide +kernel
theorem d_Bk_dropLine_11 : decode (zb m_Bk_dropLine) 11 = .ok (.iconst 1, 1) := by decide +kernel
theorem d_Bk_dropLine_12 : decode (zb m_Bk_dropLine) 12 = .ok (.iadd, 1) := by decide +kernel
theorem d_Bk_dropLine_13 : decode (zb m_Bk_dropLine) 13 = .ok (.aload_n 0, 1) := by decide +kernel
theorem d_Bk_dropLine_14 : decode (zb m_Bk_dropLine) 14 = .ok (.getfield 30, 3) := by decide +kernel
theorem d_Bk_dropLine_17 : decode (zb m_Bk_dropLine) 17 = .ok (.if_icmp .ge 26, 3) := by decide +kernel
theorem d_Bk_dropLine_20 : decode (zb m_Bk_dropLine) 20 = .ok (.aload_n 0, 1) := by decide +kernel
theorem d_Bk_dropLine_21 : decode (zb m_Bk_dropLine) 21 = .ok (.getfield 20, 3) := by decide +kernel
theorem d_Bk_dropLine_24 : decode (zb m_Bk_dropLine) 24 = .ok (.iload_n 2, 1) := by decide +kernel
theorem d_Bk_dropLine_25 : decode (zb m_Bk_dropLine) 25 = .ok (.aaload, 1) := by decide +kernel
theorem d_Bk_dropLine_26 : decode (zb m_Bk_dropLine) 26 = .ok (.aload_n 0, 1) := by decide +kernel
theorem d_Bk_dropLine_27 : decode (zb m_Bk_dropLine) 27 = .ok (.getfield 20, 3) := by decide +kernel
theorem d_Bk_dropLine_30 : decode (zb m_Bk_dropLine) 30 = .ok (.iload_n 2, 1) := by decide +kernel
theorem d_Bk_dropLine_31 : decode (zb m_Bk_dropLine) 31 = .ok (.iconst 1, 1) := by decide +kernel
theorem d_Bk_dropLine_32 : decode (zb m_Bk_dropLine) 32 = .ok (.iadd, 1) := by decide +kernel
theorem d_Bk_dropLine_33 : decode (zb m_Bk_dropLine) 33 = .ok (.aaload, 1) := by decide +kernel
theorem d_Bk_dropLine_34 : decode (zb m_Bk_dropLine) 34 = .ok (.invokevirtual 44, 3) := by decide +kernel
theorem d_Bk_dropLine_37 : decode (zb m_Bk_dropLine) 37 = .ok (.iinc 2 1, 3) := by decide +kernel
theorem d_Bk_dropLine_40 : decode (zb m_Bk_dropLine) 40 = .ok (.goto (-30), 3) := by decide +kernel
theorem d_Bk_dropLine_43 : decode (zb m_Bk_dropLine) 43 = .ok (.aload_n 0, 1) := by decide +kernel
theorem d_Bk_dropLine_44 : decode (zb m_Bk_dropLine) 44 = .ok (.dup, 1) := by decide +kernel
theorem d_Bk_dropLine_45 : decode (zb m_Bk_dropLine) 45 = .ok (.getfield 30, 3) := by decide +kernel
theorem d_Bk_dropLine_48 : decode (zb m_Bk_dropLine) 48 = .ok (.iconst 1, 1) := by decide +kernel
theorem d_Bk_dropLine_49 : decode (zb m_Bk_dropLine) 49 = .ok (.isub, 1) := by decide +kernel
theorem d_Bk_dropLine_50 : decode (zb m_Bk_dropLine) 50 = .ok (.putfield 30, 3) := by decide +kernel
theorem d_Bk_dropLine_53 : decode (zb m_Bk_dropLine) 53 = .ok (.return_, 1) := by decide +kernel
theorem d_Bk_copy_0 : decode (zb m_Bk_copy) 0 = .ok (.aload_n 0, 1) := by decide +kernel
theorem d_Bk_copy_1 : decode (zb m_Bk_copy) 1 = .ok (.aload_n 1, 1) := by decide +kernel
theorem d_Bk_copy_2 : decode (zb m_Bk_copy) 2 = .ok (.getfield 26, 3) := by decide +kernel
theorem d_Bk_copy_5 : decode (zb m_Bk_copy) 5 = .ok (.putfield 26, 3) := by decide +kernel
theorem d_Bk_copy_8 : decode (zb m_Bk_copy) 8 = .ok (.aload_n 0, 1) := by decide +kernel
theorem d_Bk_copy_9 : decode (zb m_Bk_copy) 9 = .ok (.aload_n 1, 1) := by decide +kernel
theorem d_Bk_copy_10 : decode (zb m_Bk_copy) 10 = .ok (.getfield 30, 3) := by decide +kernel
theorem d_Bk_copy_13 : decode (zb m_Bk_copy) 13 = .ok (.putfield 30, 3) := by decide +kernel
theorem d_Bk_copy_16 : decode (zb m_Bk_copy) 16 = .ok (.iconst 0, 1) := by decide +kernel
theorem d_Bk_copy_17 : decode (zb m_Bk_copy) 17 = .ok (.istore_n 2, 1) := by decide +kernel
theorem d_Bk_copy_18 : decode (zb m_Bk_copy) 18 = .ok (.iload_n 2, 1) := by decide +kernel
theorem d_Bk_copy_19 : decode (zb m_Bk_copy) 19 = .ok (.iconst 3, 1) := by decide +kernel
theorem d_Bk_copy_20 : decode (zb m_Bk_copy) 20 = .ok (.if_icmp .ge 39, 3) := by decide +kernel
theorem d_Bk_copy_23 : decode (zb m_Bk_copy) 23 = .ok (.aload_n 0, 1) := by decide +kernel
theorem d_Bk_copy_24 : decode (zb m_Bk_copy) 24 = .ok (.getfield 11, 3) := by decide +kernel
theorem d_Bk_copy_27 : decode (zb m_Bk_copy) 27 = .ok (.iload_n 2, 1) := by decide +kernel
theorem d_Bk_copy_28 : decode (zb m_Bk_copy) 28 = .ok (.aaload, 1) := by decide +kernel
theorem d_Bk_copy_29 : decode (zb m_Bk_copy) 29 = .ok (.aload_n 1, 1) := by decide +kernel
theorem d_Bk_copy_30 : decode (zb m_Bk_copy) 30 = .ok (.getfield 11, 3) := by decide +kernel
theorem d_Bk_copy_33 : decode (zb m_Bk_copy) 33 = .ok (.iload_n 2, 1) := by decide +kernel
theorem d_Bk_copy_34 : decode (zb m_Bk_copy) 34 = .ok (.aaload, 1) := by decide +kernel
theorem d_Bk_copy_35 : decode (zb m_Bk_copy) 35 = .ok (.invokevirtual 44, 3) := by decide +kernel
theorem d_Bk_copy_38 : decode (zb m_Bk_copy) 38 = .ok (.aload_n 0, 1) := by decide +kernel
theorem d_Bk_copy_39 : decode (zb m_Bk_copy) 39 = .ok (.getfield 17, 3) := by decide +kernel
theorem d_Bk_copy_42 : decode (zb m_Bk_copy) 42 = .ok (.iload_n 2, 1) := by decide +kernel
theorem d_Bk_copy_43 : decode (zb m_Bk_copy) 43 = .ok (.aaload, 1) := by decide +kernel
theorem d_Bk_copy_44 : decode (zb m_Bk_copy) 44 = .ok (.aload_n 1, 1) := by decide +kernel
theorem d_Bk_copy_45 : decode (zb m_Bk_copy) 45 = .ok (.getfield 17, 3) := by decide +kernel
theorem d_Bk_copy_48 : decode (zb m_Bk_copy) 48 = .ok (.iload_n 2, 1) := by decide +kernel
theorem d_Bk_copy_49 : decode (zb m_Bk_copy) 49 = .ok (.aaload, 1) := by decide +kernel
theorem d_Bk_copy_50 : decode (zb m_Bk_copy) 50 = .ok (.invokevirtual 44, 3) := by decide +kernel
theorem d_Bk_copy_53 : decode (zb m_Bk_copy) 53 = .ok (.iinc 2 1, 3) := by decide +kernel
theorem d_Bk_copy_56 : decode (zb m_Bk_copy) 56 = .ok (.goto (-38), 3) := by decide +kernel
theorem d_Bk_copy_59 : decode (zb m_Bk_copy) 59 = .ok (.iconst 0, 1) := by decide +kernel
theorem d_Bk_copy_60 : decode (zb m_Bk_copy) 60 = .ok (.istore_n 2, 1) := by decide +kernel
theorem d_Bk_copy_61 : decode (zb m_Bk_copy) 61 = .ok (.iload_n 2, 1) := by decide +kernel
theorem d_Bk_copy_62 : decode (zb m_Bk_copy) 62 = .ok (.bipush 6, 2) := by decide +kernel
theorem d_Bk_copy_64 : decode (zb m_Bk_copy) 64 = .ok (.if_icmp .ge 24, 3) := by decide +kernel
theorem d_Bk_copy_67 : decode (zb m_Bk_copy) 67 = .ok (.aload_n 0, 1) := by decide +kernel
theorem d_Bk_copy_68 : decode (zb m_Bk_copy) 68 = .ok (.getfield 20, 3) := by decide +kernel
theorem d_Bk_copy_71 : decode (zb m_Bk_copy) 71 = .ok (.iload_n 2, 1) := by decide +kernel
theorem d_Bk_copy_72 : decode (zb m_Bk_copy) 72 = .ok (.aaload, 1) := by decide +kernel
theorem d_Bk_copy_73 : decode (zb m_Bk_copy) 73 = .ok (.aload_n 1, 1) := by decide +kernel
theorem d_Bk_copy_74 : decode (zb m_Bk_copy) 74 = .ok (.getfield 20, 3) := by decide +kernel
theorem d_Bk_copy_77 : decode (zb m_Bk_copy) 77 = .ok (.iload_n 2, 1) := by decide +kernel
theorem d_Bk_copy_78 : decode (zb m_Bk_copy) 78 = .ok (.aaload, 1) := by decide +kernel
theorem d_Bk_copy_79 : decode (zb m_Bk_copy) 79 = .ok (.invokevirtual 44, 3) := by decide +kernel
theorem d_Bk_copy_82 : decode (zb m_Bk_copy) 82 = .ok (.iinc 2 1, 3) := by decide +kernel
theorem d_Bk_copy_85 : decode (zb m_Bk_copy) 85 = .ok (.goto (-24), 3) := by decide +kernel
theorem d_Bk_copy_88 : decode (zb m_Bk_copy) 88 = .ok (.return_, 1) := by decide +kernel
theorem d_Ft_init_0 : decode (zb m_Ft_init) 0 = .ok (.aload_n 0, 1) := by decide +kernel
theorem d_Ft_init_1 : decode (zb m_Ft_init) 1 = .ok (.invokespecial 5, 3) := by decide +kernel
theorem d_Ft_init_4 : decode (zb m_Ft_init) 4 = .ok (.aload_n 0, 1) := by decide +kernel
theorem d_Ft_init_5 : decode (zb m_Ft_init) 5 = .ok (.iconst 4, 1) := by decide +kernel
theorem d_Ft_init_6 : decode (zb m_Ft_init) 6 = .ok (.anewarray 11, 3) := by decide +kernel
theorem d_Ft_init_9 : decode (zb m_Ft_init) 9 = .ok (.putfield 13, 3) := by decide +kernel
theorem d_Ft_init_12 : decode (zb m_Ft_init) 12 = .ok (.aload_n 0, 1) := by decide +kernel
theorem d_Ft_init_13 : decode (zb m_Ft_init) 13 = .ok (.iconst 4, 1) := by decide +kernel
theorem d_Ft_init_14 : decode (zb m_Ft_init) 14 = .ok (.newarray .int, 2) := by decide +kernel
theorem d_Ft_init_16 : decode (zb m_Ft_init) 16 = .ok (.putfield 17, 3) := by decide +kernel
theorem d_Ft_init_19 : decode (zb m_Ft_init) 19 = .ok (.aload_n 0, 1) := by decide +kernel
theorem d_Ft_init_20 : decode (zb m_Ft_init) 20 = .ok (.bipush 62, 2) := by decide +kernel
theorem d_Ft_init_22 : decode (zb m_Ft_init) 22 = .ok (.newarray .int, 2) := by decide +kernel
theorem d_Ft_init_24 : decode (zb m_Ft_init) 24 = .ok (.putfield 23, 3) := by decide +kernel
theorem d_Ft_init_27 : decode (zb m_Ft_init) 27 = .ok (.aload_n 0, 1) := by decide +kernel
theorem d_Ft_init_28 : decode (zb m_Ft_init) 28 = .ok (.bipush 62, 2) := by decide +kernel
theorem d_Ft_init_30 : decode (zb m_Ft_init) 30 = .ok (.newarray .int, 2) := by decide +kernel
theorem d_Ft_init_32 : decode (zb m_Ft_init) 32 = .ok (.putfield 26, 3) := by decide +kernel
theorem d_Ft_init_35 : decode (zb m_Ft_init) 35 = .ok (.aload_n 0, 1) := by decide +kernel
theorem d_Ft_init_36 : decode (zb m_Ft_init) 36 = .ok (.bipush 62, 2) := by decide +kernel
theorem d_Ft_init_38 : decode (zb m_Ft_init) 38 = .ok (.newarray .int, 2) := by decide +kernel
theorem d_Ft_init_40 : decode (zb m_Ft_init) 40 = .ok (.putfield 29, 3) := by decide +kernel
theorem d_Ft_init_43 : decode (zb m_Ft_init) 43 = .ok (.aload_n 0, 1) := by decide +kernel
theorem d_Ft_init_44 : decode (zb m_Ft_init) 44 = .ok (.new 32, 3) := by decide +kernel
theorem d_Ft_init_47 : decode (zb m_Ft_init) 47 = .ok (.dup, 1) := by decide +kernel
theorem d_Ft_init_48 : decode (zb m_Ft_init) 48 = .ok (.invokespecial 34, 3) := by decide +kernel
theorem d_Ft_init_51 : decode (zb m_Ft_init) 51 = .ok (.putfield 35, 3) := by decide +kernel
theorem d_Ft_init_54 : decode (zb m_Ft_init) 54 = .ok (.aload_n 0, 1) := by decide +kernel
theorem d_Ft_init_55 : decode (zb m_Ft_init) 55 = .ok (.sipush 1296, 3) := by decide +kernel
theorem d_Ft_init_58 : decode (zb m_Ft_init) 58 = .ok (.newarray .long, 2) := by decide +kernel
theorem d_Ft_init_60 : decode (zb m_Ft_init) 60 = .ok (.putfield 39, 3) := by decide +kernel
theorem d_Ft_init_63 : decode (zb m_Ft_init) 63 = .ok (.aload_n 0, 1) := by decide +kernel
theorem d_Ft_init_64 : decode (zb m_Ft_init) 64 = .ok (.sipush 1296, 3) := by decide +kernel
theorem d_Ft_init_67 : decode (zb m_Ft_init) 67 = .ok (.newarray .int, 2) := by decide +kernel
theorem d_Ft_init_69 : decode (zb m_Ft_init) 69 = .ok (.putfield 43, 3) := by decide +kernel
theorem d_Ft_init_72 : decode (zb m_Ft_init) 72 = .ok (.iconst 0, 1) := by decide +kernel
theorem d_Ft_init_73 : decode (zb m_Ft_init) 73 = .ok (.istore_n 1, 1) := by decide +kernel
theorem d_Ft_init_74 : decode (zb m_Ft_init) 74 = .ok (.iload_n 1, 1) := by decide +kernel
theorem d_Ft_init_75 : decode (zb m_Ft_init) 75 = .ok (.iconst 4, 1) := by decide +kernel
theorem d_Ft_init_76 : decode (zb m_Ft_init) 76 = .ok (.if_icmp .ge 22, 3) := by decide +kernel
theorem d_Ft_init_79 : decode (zb m_Ft_init) 79 = .ok (.aload_n 0, 1) := by decide +kernel
theorem d_Ft_init_80 : decode (zb m_Ft_init) 80 = .ok (.getfield 13, 3) := by decide +kernel
theorem d_Ft_init_83 : decode (zb m_Ft_init) 83 = .ok (.iload_n 1, 1) := by decide +kernel
theorem d_Ft_init_84 : decode (zb m_Ft_init) 84 = .ok (.new 11, 3) := by decide +kernel
theorem d_Ft_init_87 : decode (zb m_Ft_init) 87 = .ok (.dup, 1) := by decide +kernel
theorem d_Ft_init_88 : decode (zb m_Ft_init) 88 = .ok (.invokespecial 46, 3) := by decide +kernel
theorem d_Ft_init_91 : decode (zb m_Ft_init) 91 = .ok (.aastore, 1) := by decide +kernel
theorem d_Ft_init_92 : decode (zb m_Ft_init) 92 = .ok (.iinc 1 1, 3) := by decide +kernel
theorem d_Ft_init_95 : decode (zb m_Ft_init) 95 = .ok (.goto (-21), 3) := by decide +kernel
theorem d_Ft_init_98 : decode (zb m_Ft_init) 98 = .ok (.return_, 1) := by decide +kernel
theorem d_Ft_clear_0 : decode (zb m_Ft_clear) 0 = .ok (.aload_n 0, 1) := by decide +kernel
theorem d_Ft_clear_1 : decode (zb m_Ft_clear) 1 = .ok (.iconst 0, 1) := by decide +kernel
theorem d_Ft_clear_2 : decode (zb m_Ft_clear) 2 = .ok (.putfield 47, 3) := by decide +kernel
theorem d_Ft_clear_5 : decode (zb m_Ft_clear) 5 = .ok (.return_, 1) := by decide +kernel
theorem d_Ft_addRow_0 : decode (zb m_Ft_addRow) 0 = .ok (.aload_n 0, 1) := by decide +kernel
theorem d_Ft_addRow_1 : decode (zb m_Ft_addRow) 1 = .ok (.getfield 47, 3) := by decide +kernel
theorem d_Ft_addRow_4 : decode (zb m_Ft_addRow) 4 = .ok (.iconst 4, 1) := by decide +kernel
theorem d_Ft_addRow_5 : decode (zb m_Ft_addRow) 5 = .ok (.if_icmp .ge 27, 3) := by decide +kernel
theorem d_Ft_addRow_8 : decode (zb m_Ft_addRow) 8 = .ok (.aload_n 0, 1) := by decide +kernel
theorem d_Ft_addRow_9 : decode (zb m_Ft_addRow) 9 = .ok (.getfield 13, 3) := by decide +kernel
theorem d_Ft_addRow_12 : decode (zb m_Ft_addRow) 12 = .ok (.aload_n 0, 1) := by decide +kernel
theorem d_Ft_addRow_13 : decode (zb m_Ft_addRow) 13 = .ok (.getfield 47, 3) := by decide +kernel
theorem d_Ft_addRow_16 : decode (zb m_Ft_addRow) 16 = .ok (.aaload, 1) := by decide +kernel
theorem d_Ft_addRow_17 : decode (zb m_Ft_addRow) 17 = .ok (.aload_n 1, 1) := by decide +kernel
theorem d_Ft_addRow_18 : decode (zb m_Ft_addRow) 18 = .ok (.aload_n 2, 1) := by decide +kernel
theorem d_Ft_addRow_19 : decode (zb m_Ft_addRow) 19 = .ok (.invokevirtual 51, 3) := by decide +kernel
theorem d_Ft_addRow_22 : decode (zb m_Ft_addRow) 22 = .ok (.aload_n 0, 1) := by decide +kernel
theorem d_Ft_addRow_23 : decode (zb m_Ft_addRow) 23 = .ok (.dup, 1) := by decide +kernel
theorem d_Ft_addRow_24 : decode (zb m_Ft_addRow) 24 = .ok (.getfield 47, 3) := by decide +kernel
theorem d_Ft_addRow_27 : decode (zb m_Ft_addRow) 27 = .ok (.iconst 1, 1) := by decide +kernel
theorem d_Ft_addRow_28 : decode (zb m_Ft_addRow) 28 = .ok (.iadd, 1) := by decide +kernel
theorem d_Ft_addRow_29 : decode (zb m_Ft_addRow) 29 = .ok (.putfield 47, 3) := by decide +kernel
theorem d_Ft_addRow_32 : decode (zb m_Ft_addRow) 32 = .ok (.return_, 1) := by decide +kernel
theorem d_Ft_dropRow_0 : decode (zb m_Ft_dropRow) 0 = .ok (.aload_n 0, 1) := by decide +kernel
theorem d_Ft_dropRow_1 : decode (zb m_Ft_dropRow) 1 = .ok (.getfield 47, 3) := by decide +kernel
theorem d_Ft_dropRow_4 : decode (zb m_Ft_dropRow) 4 = .ok (.ifCond .le 13, 3) := by decide +kernel
theorem d_Ft_dropRow_7 : decode (zb m_Ft_dropRow) 7 = .ok (.aload_n 0, 1) := by decide +kernel
theorem d_Ft_dropRow_8 : decode (zb m_Ft_dropRow) 8 = .ok (.dup, 1) := by decide +kernel
theorem d_Ft_dropRow_9 : decode (zb m_Ft_dropRow) 9 = .ok (.getfield 47, 3) := by decide +kernel
theorem d_Ft_dropRow_12 : decode (zb m_Ft_dropRow) 12 = .ok (.iconst 1, 1) := by decide +kernel
theorem d_Ft_dropRow_13 : decode (zb m_Ft_dropRow) 13 = .ok (.isub, 1) := by decide +kernel
theorem d_Ft_dropRow_14 : decode (zb m_Ft_dropRow) 14 = .ok (.putfield 47, 3) := by decide +kernel
theorem d_Ft_dropRow_17 : decode (zb m_Ft_dropRow) 17 = .ok (.return_, 1) := by decide +kernel
theorem d_Ft_count_0 : decode (zb m_Ft_count) 0 = .ok (.aload_n 0, 1) := by decide +kernel
theorem d_Ft_count_1 : decode (zb m_Ft_count) 1 = .ok (.invokevirtual 55, 3) := by decide +kernel
theorem d_Ft_count_4 : decode (zb m_Ft_count) 4 = .ok (.iconst 0, 1) := by decide +kernel
theorem d_Ft_count_5 : decode (zb m_Ft_count) 5 = .ok (.istore_n 1, 1) := by decide +kernel
theorem d_Ft_count_6 : decode (zb m_Ft_count) 6 = .ok (.iload_n 1, 1) := by decide +kernel
theorem d_Ft_count_7 : decode (zb m_Ft_count) 7 = .ok (.sipush 1296, 3) := by decide +kernel
theorem d_Ft_count_10 : decode (zb m_Ft_count) 10 = .ok (.if_icmp .ge 16, 3) := by decide +kernel
theorem d_Ft_count_13 : decode (zb m_Ft_count) 13 = .ok (.aload_n 0, 1) := by decide +kernel
theorem d_Ft_count_14 : decode (zb m_Ft_count) 14 = .ok (.getfield 39, 3) := by decide +kernel
theorem d_Ft_count_17 : decode (zb m_Ft_count) 17 = .ok (.iload_n 1, 1) := by decide +kernel
theorem d_Ft_count_18 : decode (zb m_Ft_count) 18 = .ok (.lconst 0, 1) := by decide +kernel
theorem d_Ft_count_19 : decode (zb m_Ft_count) 19 = .ok (.lastore, 1) := by decide +kernel
theorem d_Ft_count_20 : decode (zb m_Ft_count) 20 = .ok (.iinc 1 1, 3) := by decide +kernel
theorem d_Ft_count_23 : decode (zb m_Ft_count) 23 = .ok (.goto (-17), 3) := by decide +kernel
theorem d_Ft_count_26 : decode (zb m_Ft_count) 26 = .ok (.aload_n 0, 1) := by decide +kernel
theorem d_Ft_count_27 : decode (zb m_Ft_count) 27 = .ok (.getfield 39, 3) := by decide +kernel
theorem d_Ft_count_30 : decode (zb m_Ft_count) 30 = .ok (.iconst 0, 1) := by decide +kernel
theorem d_Ft_count_31 : decode (zb m_Ft_count) 31 = .ok (.lconst 1, 1) := by decide +kernel
theorem d_Ft_count_32 : decode (zb m_Ft_count) 32 = .ok (.lastore, 1) := by decide +kernel
theorem d_Ft_count_33 : decode (zb m_Ft_count) 33 = .ok (.aload_n 0, 1) := by decide +kernel
theorem d_Ft_count_34 : decode (zb m_Ft_count) 34 = .ok (.invokevirtual 58, 3) := by decide +kernel
theorem d_Ft_count_37 : decode (zb m_Ft_count) 37 = .ok (.istore_n 1, 1) := by decide +kernel
theorem d_Ft_count_38 : decode (zb m_Ft_count) 38 = .ok (.iconst 0, 1) := by decide +kernel
theorem d_Ft_count_39 : decode (zb m_Ft_count) 39 = .ok (.istore_n 2, 1) := by decide +kernel
theorem d_Ft_count_40 : decode (zb m_Ft_count) 40 = .ok (.iload_n 2, 1) := by decide +kernel
theorem d_Ft_count_41 : decode (zb m_Ft_count) 41 = .ok (.iload_n 1, 1) := by decide +kernel
theorem d_Ft_count_42 : decode (zb m_Ft_count) 42 = .ok (.if_icmp .ge 72, 3) := by decide +kernel
theorem d_Ft_count_45 : decode (zb m_Ft_count) 45 = .ok (.aload_n 0, 1) := by decide +kernel
theorem d_Ft_count_46 : decode (zb m_Ft_count) 46 = .ok (.getfield 39, 3) := by decide +kernel
theorem d_Ft_count_49 : decode (zb m_Ft_count) 49 = .ok (.iload_n 2, 1) := by decide +kernel
theorem d_Ft_count_50 : decode (zb m_Ft_count) 50 = .ok (.laload, 1) := by decide +kernel
theorem d_Ft_count_51 : decode (zb m_Ft_count) 51 = .ok (.lconst 0, 1) := by decide +kernel
theorem d_Ft_count_52 : decode (zb m_Ft_count) 52 = .ok (.lcmp, 1) := by decide +kernel
theorem d_Ft_count_53 : decode (zb m_Ft_count) 53 = .ok (.ifCond .eq 55, 3) := by decide +kernel
theorem d_Ft_count_56 : decode (zb m_Ft_count) 56 = .ok (.aload_n 0, 1) := by decide +kernel
theorem d_Ft_count_57 : decode (zb m_Ft_count) 57 = .ok (.iload_n 2, 1) := by decide +kernel
theorem d_Ft_count_58 : decode (zb m_Ft_count) 58 = .ok (.invokevirtual 62, 3) := by decide +kernel
theorem d_Ft_count_61 : decode (zb m_Ft_count) 61 = .ok (.iconst 0, 1) := by decide +kernel
theorem d_Ft_count_62 : decode (zb m_Ft_count) 62 = .ok (.istore_n 3, 1) := by decide +kernel
theorem d_Ft_count_63 : decode (zb m_Ft_count) 63 = .ok (.iload_n 3, 1) := by decide +kernel
theorem d_Ft_count_64 : decode (zb m_Ft_count) 64 = .ok (.aload_n 0, 1) := by decide +kernel
theorem d_Ft_count_65 : decode (zb m_Ft_count) 65 = .ok (.getfield 35, 3) := by decide +kernel
theorem d_Ft_count_68 : decode (zb m_Ft_count) 68 = .ok (.invokevirtual 66, 3) := by decide +kernel
theorem d_Ft_count_71 : decode (zb m_Ft_count) 71 = .ok (.if_icmp .ge 37, 3) := by decide +kernel
theorem d_Ft_count_74 : decode (zb m_Ft_count) 74 = .ok (.aload_n 0, 1) := by decide +kernel
theorem d_Ft_count_75 : decode (zb m_Ft_count) 75 = .ok (.aload_n 0, 1) := by decide +kernel
theorem d_Ft_count_76 : decode (zb m_Ft_count) 76 = .ok (.getfield 35, 3) := by decide +kernel
theorem d_Ft_count_79 : decode (zb m_Ft_count) 79 = .ok (.iload_n 3, 1) := by decide +kernel
theorem d_Ft_count_80 : decode (zb m_Ft_count) 80 = .ok (.invokevirtual 68, 3) := by decide +kernel
theorem d_Ft_count_83 : decode (zb m_Ft_count) 83 = .ok (.aload_n 0, 1) := by decide +kernel
theorem d_Ft_count_84 : decode (zb m_Ft_count) 84 = .ok (.getfield 39, 3) := by decide +kernel
theorem d_Ft_count_87 : decode (zb m_Ft_count) 87 = .ok (.iload_n 2, 1) := by decide +kernel
theorem d_Ft_count_88 : decode (zb m_Ft_count) 88 = .ok (.laload, 1) := by decide +kernel
theorem d_Ft_count_89 : decode (zb m_Ft_count) 89 = .ok (.aload_n 0, 1) := by decide +kernel
theorem d_Ft_count_90 : decode (zb m_Ft_count) 90 = .ok (.getfield 35, 3) := by decide +kernel
theorem d_Ft_count_93 : decode (zb m_Ft_count) 93 = .ok (.iload_n 3, 1) := by decide +kernel
theorem d_Ft_count_94 : decode (zb m_Ft_count) 94 = .ok (.invokevirtual 72, 3) := by decide +kernel
theorem d_Ft_count_97 : decode (zb m_Ft_count) 97 = .ok (.i2l, 1) := by decide +kernel
theorem d_Ft_count_98 : decode (zb m_Ft_count) 98 = .ok (.lmul, 1) := by decide +kernel
theorem d_Ft_count_99 : decode (zb m_Ft_count) 99 = .ok (.invokevirtual 75, 3) := by decide +kernel
theorem d_Ft_count_102 : decode (zb m_Ft_count) 102 = .ok (.iinc 3 1, 3) := by decide +kernel
theorem d_Ft_count_105 : decode (zb m_Ft_count) 105 = .ok (.goto (-42), 3) := by decide +kernel
theorem d_Ft_count_108 : decode (zb m_Ft_count) 108 = .ok (.iinc 2 1, 3) := by decide +kernel
theorem d_Ft_count_111 : decode (zb m_Ft_count) 111 = .ok (.goto (-71), 3) := by decide +kernel
theorem d_Ft_count_114 : decode (zb m_Ft_count) 114 = .ok (.aload_n 0, 1) := by decide +kernel
theorem d_Ft_count_115 : decode (zb m_Ft_count) 115 = .ok (.getfield 39, 3) := by decide +kernel
theorem d_Ft_count_118 : decode (zb m_Ft_count) 118 = .ok (.iload_n 1, 1) := by decide +kernel
theorem d_Ft_count_119 : decode (zb m_Ft_count) 119 = .ok (.laload, 1) := by decide +kernel
theorem d_Ft_count_120 : decode (zb m_Ft_count) 120 = .ok (.lreturn, 1) := by decide +kernel
theorem d_Ft_addWays_0 : decode (zb m_Ft_addWays) 0 = .ok (.iload_n 1, 1) := by decide +kernel
theorem d_Ft_addWays_1 : decode (zb m_Ft_addWays) 1 = .ok (.ifCond .lt 20, 3) := by decide +kernel
theorem d_Ft_addWays_4 : decode (zb m_Ft_addWays) 4 = .ok (.iload_n 1, 1) := by decide +kernel
theorem d_Ft_addWays_5 : decode (zb m_Ft_addWays) 5 = .ok (.sipush 1296, 3) := by decide +kernel
theorem d_Ft_addWays_8 : decode (zb m_Ft_addWays) 8 = .ok (.if_icmp .ge 13, 3) := by decide +kernel
theorem d_Ft_addWays_11 : decode (zb m_Ft_addWays) 11 = .ok (.aload_n 0, 1) := by decide +kernel
theorem d_Ft_addWays_12 : decode (zb m_Ft_addWays) 12 = .ok (.getfield 39, 3) := by decide +kernel
theorem d_Ft_addWays_15 : decode (zb m_Ft_addWays) 15 = .ok (.iload_n 1, 1) := by decide +kernel
theorem d_Ft_addWays_16 : decode (zb m_Ft_addWays) 16 = .ok (.dup2, 1) := by decide +kernel
theorem d_Ft_addWays_17 : decode (zb m_Ft_addWays) 17 = .ok (.laload, 1) := by decide +kernel
theorem d_Ft_addWays_18 : decode (zb m_Ft_addWays) 18 = .ok (.lload_n 2, 1) := by decide +kernel
theorem d_Ft_addWays_19 : decode (zb m_Ft_addWays) 19 = .ok (.ladd, 1) := by decide +kernel
theorem d_Ft_addWays_20 : decode (zb m_Ft_addWays) 20 = .ok (.lastore, 1) := by decide +kernel
theorem d_Ft_addWays_21 : decode (zb m_Ft_addWays) 21 = .ok (.return_, 1) := by decide +kernel
theorem d_Ft_weigh_0 : decode (zb m_Ft_weigh) 0 = .ok (.aload_n 0, 1) := by decide +kernel
theorem d_Ft_weigh_1 : decode (zb m_Ft_weigh) 1 = .ok (.invokevirtual 58, 3) := by decide +kernel
theorem d_Ft_weigh_4 : decode (zb m_Ft_weigh) 4 = .ok (.istore_n 1, 1) := by decide +kernel
theorem d_Ft_weigh_5 : decode (zb m_Ft_weigh) 5 = .ok (.aload_n 0, 1) := by decide +kernel
theorem d_Ft_weigh_6 : decode (zb m_Ft_weigh) 6 = .ok (.getfield 43, 3) := by decide +kernel
theorem d_Ft_weigh_9 : decode (zb m_Ft_weigh) 9 = .ok (.iload_n 1, 1) := by decide +kernel
theorem d_Ft_weigh_10 : decode (zb m_Ft_weigh) 10 = .ok (.iconst 0, 1) := by decide +kernel
theorem d_Ft_weigh_11 : decode (zb m_Ft_weigh) 11 = .ok (.iastore, 1) := by decide +kernel
theorem d_Ft_weigh_12 : decode (zb m_Ft_weigh) 12 = .ok (.iload_n 1, 1) := by decide +kernel
theorem d_Ft_weigh_13 : decode (zb m_Ft_weigh) 13 = .ok (.iconst 1, 1) := by decide +kernel
theorem d_Ft_weigh_14 : decode (zb m_Ft_weigh) 14 = .ok (.isub, 1) := by decide +kernel
theorem d_Ft_weigh_15 : decode (zb m_Ft_weigh) 15 = .ok (.istore_n 2, 1) := by decide +kernel
theorem d_Ft_weigh_16 : decode (zb m_Ft_weigh) 16 = .ok (.iload_n 2, 1) := by decide +kernel
theorem d_Ft_weigh_17 : decode (zb m_Ft_weigh) 17 = .ok (.ifCond .lt 84, 3) := by decide +kernel
theorem d_Ft_weigh_20 : decode (zb m_Ft_weigh) 20 = .ok (.aload_n 0, 1) := by decide +kernel
theorem d_Ft_weigh_21 : decode (zb m_Ft_weigh) 21 = .ok (.getfield 39, 3) := by decide +kernel
theorem d_Ft_weigh_24 : decode (zb m_Ft_weigh) 24 = .ok (.iload_n 2, 1) := by decide +kernel
theorem d_Ft_weigh_25 : decode (zb m_Ft_weigh) 25 = .ok (.laload, 1) := by decide +kernel
theorem d_Ft_weigh_26 : decode (zb m_Ft_weigh) 26 = .ok (.lconst 0, 1) := by decide +kernel
theorem d_Ft_weigh_27 : decode (zb m_Ft_weigh) 27 = .ok (.lcmp, 1) := by decide +kernel
theorem d_Ft_weigh_28 : decode (zb m_Ft_weigh) 28 = .ok (.ifCond .eq 67, 3) := by decide +kernel
theorem d_Ft_weigh_31 : decode (zb m_Ft_weigh) 31 = .ok (.aload_n 0, 1) := by decide +kernel
theorem d_Ft_weigh_32 : decode (zb m_Ft_weigh) 32 = .ok (.iload_n 2, 1) := by decide +kernel
theorem d_Ft_weigh_33 : decode (zb m_Ft_weigh) 33 = .ok (.invokevirtual 62, 3) := by decide +kernel
theorem d_Ft_weigh_36 : decode (zb m_Ft_weigh) 36 = .ok (.ldc 79, 2) := by decide +kernel
theorem d_Ft_weigh_38 : decode (zb m_Ft_weigh) 38 = .ok (.istore_n 3, 1) := by decide +kernel
theorem d_Ft_weigh_39 : decode (zb m_Ft_weigh) 39 = .ok (.iconst 0, 1) := by decide +kernel
theorem d_Ft_weigh_40 : decode (zb m_Ft_weigh) 40 = .ok (.istore 4, 2) := by decide +kernel
theorem d_Ft_weigh_42 : decode (zb m_Ft_weigh) 42 = .ok (.iload 4, 2) := by decide +kernel
theorem d_Ft_weigh_44 : decode (zb m_Ft_weigh) 44 = .ok (.aload_n 0, 1) := by decide +kernel
theorem d_Ft_weigh_45 : decode (zb m_Ft_weigh) 45 = .ok (.getfield 35, 3) := by decide +kernel
theorem d_Ft_weigh_48 : decode (zb m_Ft_weigh) 48 = .ok (.invokevirtual 66, 3) := by decide +kernel
theorem d_Ft_weigh_51 : decode (zb m_Ft_weigh) 51 = .ok (.if_icmp .ge 37, 3) := by decide +kernel
theorem d_Ft_weigh_54 : decode (zb m_Ft_weigh) 54 = .ok (.iload_n 3, 1) := by decide +kernel
theorem d_Ft_weigh_55 : decode (zb m_Ft_weigh) 55 = .ok (.aload_n 0, 1) := by decide +kernel
theorem d_Ft_weigh_56 : decode (zb m_Ft_weigh) 56 = .ok (.getfield 35, 3) := by decide +kernel
theorem d_Ft_weigh_59 : decode (zb m_Ft_weigh) 59 = .ok (.iload 4, 2) := by decide +kernel
theorem d_Ft_weigh_61 : decode (zb m_Ft_weigh) 61 = .ok (.invokevirtual 80, 3) := by decide +kernel
theorem d_Ft_weigh_64 : decode (zb m_Ft_weigh) 64 = .ok (.aload_n 0, 1) := by decide +kernel
theorem d_Ft_weigh_65 : decode (zb m_Ft_weigh) 65 = .ok (.aload_n 0, 1) := by decide +kernel
theorem d_Ft_weigh_66 : decode (zb m_Ft_weigh) 66 = .ok (.getfield 35, 3) := by decide +kernel
theorem d_Ft_weigh_69 : decode (zb m_Ft_weigh) 69 = .ok (.iload 4, 2) := by decide +kernel
theorem d_Ft_weigh_71 : decode (zb m_Ft_weigh) 71 = .ok (.invokevirtual 68, 3) := by decide +kernel
theorem d_Ft_weigh_74 : decode (zb m_Ft_weigh) 74 = .ok (.invokevirtual 83, 3) := by decide +kernel
theorem d_Ft_weigh_77 : decode (zb m_Ft_weigh) 77 = .ok (.iadd, 1) := by decide +kernel
theorem d_Ft_weigh_78 : decode (zb m_Ft_weigh) 78 = .ok (.invokestatic 86, 3) := by decide +kernel
theorem d_Ft_weigh_81 : decode (zb m_Ft_weigh) 81 = .ok (.istore_n 3, 1) := by decide +kernel
theorem d_Ft_weigh_82 : decode (zb m_Ft_weigh) 82 = .ok (.iinc 4 1, 3) := by decide +kernel
theorem d_Ft_weigh_85 : decode (zb m_Ft_weigh) 85 = .ok (.goto (-43), 3) := by decide +kernel
theorem d_Ft_weigh_88 : decode (zb m_Ft_weigh) 88 = .ok (.aload_n 0, 1) := by decide +kernel
theorem d_Ft_weigh_89 : decode (zb m_Ft_weigh) 89 = .ok (.getfield 43, 3) := by decide +kernel
theorem d_Ft_weigh_92 : decode (zb m_Ft_weigh) 92 = .ok (.iload_n 2, 1) := by decide +kernel
theorem d_Ft_weigh_93 : decode (zb m_Ft_weigh) 93 = .ok (.iload_n 3, 1) := by decide +kernel
theorem d_Ft_weigh_94 : decode (zb m_Ft_weigh) 94 = .ok (.iastore, 1) := by decide +kernel
theorem d_Ft_weigh_95 : decode (zb m_Ft_weigh) 95 = .ok (.iinc 2 (-1), 3) := by decide +kernel
theorem d_Ft_weigh_98 : decode (zb m_Ft_weigh) 98 = .ok (.goto (-82), 3) := by decide +kernel
theorem d_Ft_weigh_101 : decode (zb m_Ft_weigh) 101 = .ok (.return_, 1) := by decide +kernel
theorem d_Ft_leastFrom_0 : decode (zb m_Ft_leastFrom) 0 = .ok (.iload_n 1, 1) := by decide +kernel
theorem d_Ft_leastFrom_1 : decode (zb m_Ft_leastFrom) 1 = .ok (.ifCond .lt 19, 3) := by decide +kernel
theorem d_Ft_leastFrom_4 : decode (zb m_Ft_leastFrom) 4 = .ok (.iload_n 1, 1) := by decide +kernel
theorem d_Ft_leastFrom_5 : decode (zb m_Ft_leastFrom) 5 = .ok (.sipush 1296, 3) := by decide +kernel
theorem d_Ft_leastFrom_8 : decode (zb m_Ft_leastFrom) 8 = .ok (.if_icmp .ge 12, 3) := by decide +kernel
theorem d_Ft_leastFrom_11 : decode (zb m_Ft_leastFrom) 11 = .ok (.aload_n 0, 1) := by decide +kernel
theorem d_Ft_leastFrom_12 : decode (zb m_Ft_leastFrom) 12 = .ok (.getfield 43, 3) := by decide +kernel
theorem d_Ft_leastFrom_15 : decode (zb m_Ft_leastFrom) 15 = .ok (.iload_n 1, 1) := by decide +kernel
theorem d_Ft_leastFrom_16 : decode (zb m_Ft_leastFrom) 16 = .ok (.iaload, 1) := by decide +kernel
theorem d_Ft_leastFrom_17 : decode (zb m_Ft_leastFrom) 17 = .ok (.goto 5, 3) := by decide +kernel
theorem d_Ft_leastFrom_20 : decode (zb m_Ft_leastFrom) 20 = .ok (.ldc 79, 2) := by decide +kernel
theorem d_Ft_leastFrom_22 : decode (zb m_Ft_leastFrom) 22 = .ok (.ireturn, 1) := by decide +kernel
theorem d_Ft_tell_0 : decode (zb m_Ft_tell) 0 = .ok (.aload_n 0, 1) := by decide +kernel
theorem d_Ft_tell_1 : decode (zb m_Ft_tell) 1 = .ok (.invokevirtual 58, 3) := by decide +kernel
theorem d_Ft_tell_4 : decode (zb m_Ft_tell) 4 = .ok (.istore_n 2, 1) := by decide +kernel
theorem d_Ft_tell_5 : decode (zb m_Ft_tell) 5 = .ok (.iconst 0, 1) := by decide +kernel
theorem d_Ft_tell_6 : decode (zb m_Ft_tell) 6 = .ok (.istore_n 3, 1) := by decide +kernel
theorem d_Ft_tell_7 : decode (zb m_Ft_tell) 7 = .ok (.iconst 0, 1) := by decide +kernel
theorem d_Ft_tell_8 : decode (zb m_Ft_tell) 8 = .ok (.istore 4, 2) := by decide +kernel
theorem d_Ft_tell_10 : decode (zb m_Ft_tell) 10 = .ok (.iload 4, 2) := by decide +kernel
theorem d_Ft_tell_12 : decode (zb m_Ft_tell) 12 = .ok (.iconst 5, 1) := by decide +kernel
theorem d_Ft_tell_13 : decode (zb m_Ft_tell) 13 = .ok (.if_icmp .ge 46, 3) := by decide +kernel
theorem d_Ft_tell_16 : decode (zb m_Ft_tell) 16 = .ok (.iload_n 3, 1) := by decide +kernel
theorem d_Ft_tell_17 : decode (zb m_Ft_tell) 17 = .ok (.iload_n 2, 1) := by decide +kernel
theorem d_Ft_tell_18 : decode (zb m_Ft_tell) 18 = .ok (.if_icmp .ge 41, 3) := by decide +kernel
theorem d_Ft_tell_21 : decode (zb m_Ft_tell) 21 = .ok (.aload_n 0, 1) := by decide +kernel
theorem d_Ft_tell_22 : decode (zb m_Ft_tell) 22 = .ok (.iload_n 3, 1) := by decide +kernel
theorem d_Ft_tell_23 : decode (zb m_Ft_tell) 23 = .ok (.invokevirtual 92, 3) := by decide +kernel
theorem d_Ft_tell_26 : decode (zb m_Ft_tell) 26 = .ok (.aload_n 0, 1) := by decide +kernel
theorem d_Ft_tell_27 : decode (zb m_Ft_tell) 27 = .ok (.iload_n 3, 1) := by decide +kernel
theorem d_Ft_tell_28 : decode (zb m_Ft_tell) 28 = .ok (.aload_n 1, 1) := by decide +kernel
theorem d_Ft_tell_29 : decode (zb m_Ft_tell) 29 = .ok (.invokevirtual 95, 3) := by decide +kernel
theorem d_Ft_tell_32 : decode (zb m_Ft_tell) 32 = .ok (.istore 5, 2) := by decide +kernel
theorem d_Ft_tell_34 : decode (zb m_Ft_tell) 34 = .ok (.iload 5, 2) := by decide +kernel
theorem d_Ft_tell_36 : decode (zb m_Ft_tell) 36 = .ok (.bipush (-6), 2) := by decide +kernel
theorem d_Ft_tell_38 : decode (zb m_Ft_tell) 38 = .ok (.if_icmp .eq 8, 3) := by decide +kernel
theorem d_Ft_tell_41 : decode (zb m_Ft_tell) 41 = .ok (.iload 5, 2) := by decide +kernel
theorem d_Ft_tell_43 : decode (zb m_Ft_tell) 43 = .ok (.goto 9, 3) := by decide +kernel
theorem d_Ft_tell_46 : decode (zb m_Ft_tell) 46 = .ok (.aload_n 0, 1) := by decide +kernel
theorem d_Ft_tell_47 : decode (zb m_Ft_tell) 47 = .ok (.iload_n 3, 1) := by decide +kernel
theorem d_Ft_tell_48 : decode (zb m_Ft_tell) 48 = .ok (.aload_n 1, 1) := by decide +kernel
theorem d_Ft_tell_49 : decode (zb m_Ft_tell) 49 = .ok (.invokevirtual 99, 3) := by decide +kernel
theorem d_Ft_tell_52 : decode (zb m_Ft_tell) 52 = .ok (.istore_n 3, 1) := by decide +kernel
theorem d_Ft_tell_53 : decode (zb m_Ft_tell) 53 = .ok (.iinc 4 1, 3) := by decide +kernel
theorem d_Ft_tell_56 : decode (zb m_Ft_tell) 56 = .ok (.goto (-46), 3) := by decide +kernel
theorem d_Ft_tell_59 : decode (zb m_Ft_tell) 59 = .ok (.return_, 1) := by decide +kernel
theorem d_Ft_tellCut_0 : decode (zb m_Ft_tellCut) 0 = .ok (.iconst 0, 1) := by decide +kernel
theorem d_Ft_tellCut_1 : decode (zb m_Ft_tellCut) 1 = .ok (.istore_n 3, 1) := by decide +kernel
theorem d_Ft_tellCut_2 : decode (zb m_Ft_tellCut) 2 = .ok (.iload_n 3, 1) := by decide +kernel
theorem d_Ft_tellCut_3 : decode (zb m_Ft_tellCut) 3 = .ok (.bipush 62, 2) := by decide +kernel
theorem d_Ft_tellCut_5 : decode (zb m_Ft_tellCut) 5 = .ok (.if_icmp .ge 102, 3) := by decide +kernel
theorem d_Ft_tellCut_8 : decode (zb m_Ft_tellCut) 8 = .ok (.aload_n 0, 1) := by decide +kernel
theorem d_Ft_tellCut_9 : decode (zb m_Ft_tellCut) 9 = .ok (.iload_n 3, 1) := by decide +kernel
theorem d_Ft_tellCut_10 : decode (zb m_Ft_tellCut) 10 = .ok (.invokevirtual 102, 3) := by decide +kernel
theorem d_Ft_tellCut_13 : decode (zb m_Ft_tellCut) 13 = .ok (.ifCond .eq 8, 3) := by decide +kernel
theorem d_Ft_tellCut_16 : decode (zb m_Ft_tellCut) 16 = .ok (.bipush 62, 2) := by decide +kernel
theorem d_Ft_tellCut_18 : decode (zb m_Ft_tellCut) 18 = .ok (.goto 4, 3) := by decide +kernel
theorem d_Ft_tellCut_21 : decode (zb m_Ft_tellCut) 21 = .ok (.iconst 0, 1) := by decide +kernel
theorem d_Ft_tellCut_22 : decode (zb m_Ft_tellCut) 22 = .ok (.istore 4, 2) := by decide +kernel
theorem d_Ft_tellCut_24 : decode (zb m_Ft_tellCut) 24 = .ok (.iconst 0, 1) := by decide +kernel
theorem d_Ft_tellCut_25 : decode (zb m_Ft_tellCut) 25 = .ok (.istore 5, 2) := by decide +kernel
theorem d_Ft_tellCut_27 : decode (zb m_Ft_tellCut) 27 = .ok (.iload 5, 2) := by decide +kernel
theorem d_Ft_tellCut_29 : decode (zb m_Ft_tellCut) 29 = .ok (.iload 4, 2) := by decide +kernel
theorem d_Ft_tellCut_31 : decode (zb m_Ft_tellCut) 31 = .ok (.if_icmp .ge 70, 3) := by decide +kernel
theorem d_Ft_tellCut_34 : decode (zb m_Ft_tellCut) 34 = .ok (.aload_n 0, 1) := by decide +kernel
theorem d_Ft_tellCut_35 : decode (zb m_Ft_tellCut) 35 = .ok (.iload_n 1, 1) := by decide +kernel
theorem d_Ft_tellCut_36 : decode (zb m_Ft_tellCut) 36 = .ok (.iload_n 3, 1) := by decide +kernel
theorem d_Ft_tellCut_37 : decode (zb m_Ft_tellCut) 37 = .ok (.iload 5, 2) := by decide +kernel
theorem d_Ft_tellCut_39 : decode (zb m_Ft_tellCut) 39 = .ok (.invokevirtual 106, 3) := by decide +kernel
theorem d_Ft_tellCut_42 : decode (zb m_Ft_tellCut) 42 = .ok (.istore 6, 2) := by decide +kernel
theorem d_Ft_tellCut_44 : decode (zb m_Ft_tellCut) 44 = .ok (.iload_n 3, 1) := by decide +kernel
theorem d_Ft_tellCut_45 : decode (zb m_Ft_tellCut) 45 = .ok (.invokestatic 110, 3) := by decide +kernel
theorem d_Ft_tellCut_48 : decode (zb m_Ft_tellCut) 48 = .ok (.iload 5, 2) := by decide +kernel
theorem d_Ft_tellCut_50 : decode (zb m_Ft_tellCut) 50 = .ok (.invokestatic 110, 3) := by decide +kernel
theorem d_Ft_tellCut_53 : decode (zb m_Ft_tellCut) 53 = .ok (.invokestatic 111, 3) := by decide +kernel
theorem d_Ft_tellCut_56 : decode (zb m_Ft_tellCut) 56 = .ok (.istore 7, 2) := by decide +kernel
theorem d_Ft_tellCut_58 : decode (zb m_Ft_tellCut) 58 = .ok (.iload 6, 2) := by decide +kernel
theorem d_Ft_tellCut_60 : decode (zb m_Ft_tellCut) 60 = .ok (.bipush (-6), 2) := by decide +kernel
theorem d_Ft_tellCut_62 : decode (zb m_Ft_tellCut) 62 = .ok (.if_icmp .eq 33, 3) := by decide +kernel
theorem d_Ft_tellCut_65 : decode (zb m_Ft_tellCut) 65 = .ok (.iload 7, 2) := by decide +kernel
theorem d_Ft_tellCut_67 : decode (zb m_Ft_tellCut) 67 = .ok (.aload_n 0, 1) := by decide +kernel
theorem d_Ft_tellCut_68 : decode (zb m_Ft_tellCut) 68 = .ok (.iload 6, 2) := by decide +kernel
theorem d_Ft_tellCut_70 : decode (zb m_Ft_tellCut) 70 = .ok (.invokevirtual 83, 3) := by decide +kernel
theorem d_Ft_tellCut_73 : decode (zb m_Ft_tellCut) 73 = .ok (.iadd, 1) := by decide +kernel
theorem d_Ft_tellCut_74 : decode (zb m_Ft_tellCut) 74 = .ok (.aload_n 0, 1) := by decide +kernel
theorem d_Ft_tellCut_75 : decode (zb m_Ft_tellCut) 75 = .ok (.iload_n 1, 1) := by decide +kernel
theorem d_Ft_tellCut_76 : decode (zb m_Ft_tellCut) 76 = .ok (.invokevirtual 83, 3) := by decide +kernel
theorem d_Ft_tellCut_79 : decode (zb m_Ft_tellCut) 79 = .ok (.if_icmp .ne 16, 3) := by decide +kernel
theorem d_Ft_tellCut_82 : decode (zb m_Ft_tellCut) 82 = .ok (.aload_n 2, 1) := by decide +kernel
theorem d_Ft_tellCut_83 : decode (zb m_Ft_tellCut) 83 = .ok (.invokevirtual 116, 3) := by decide +kernel
theorem d_Ft_tellCut_86 : decode (zb m_Ft_tellCut) 86 = .ok (.iload_n 3, 1) := by decide +kernel
theorem d_Ft_tellCut_87 : decode (zb m_Ft_tellCut) 87 = .ok (.iload 5, 2) := by decide +kernel
theorem d_Ft_tellCut_89 : decode (zb m_Ft_tellCut) 89 = .ok (.invokevirtual 122, 3) := by decide +kernel
theorem d_Ft_tellCut_92 : decode (zb m_Ft_tellCut) 92 = .ok (.iload 6, 2) := by decide +kernel
theorem d_Ft_tellCut_94 : decode (zb m_Ft_tellCut) 94 = .ok (.ireturn, 1) := by decide +kernel
theorem d_Ft_tellCut_95 : decode (zb m_Ft_tellCut) 95 = .ok (.iinc 5 1, 3) := by decide +kernel
theorem d_Ft_tellCut_98 : decode (zb m_Ft_tellCut) 98 = .ok (.goto (-71), 3) := by decide +kernel
theorem d_Ft_tellCut_101 : decode (zb m_Ft_tellCut) 101 = .ok (.iinc 3 1, 3) := by decide +kernel
theorem d_Ft_tellCut_104 : decode (zb m_Ft_tellCut) 104 = .ok (.goto (-102), 3) := by decide +kernel
theorem d_Ft_tellCut_107 : decode (zb m_Ft_tellCut) 107 = .ok (.bipush (-6), 2) := by decide +kernel
theorem d_Ft_tellCut_109 : decode (zb m_Ft_tellCut) 109 = .ok (.ireturn, 1) := by decide +kernel
theorem d_Ft_tellText_0 : decode (zb m_Ft_tellText) 0 = .ok (.aload_n 0, 1) := by decide +kernel
theorem d_Ft_tellText_1 : decode (zb m_Ft_tellText) 1 = .ok (.invokevirtual 126, 3) := by decide +kernel
theorem d_Ft_tellText_4 : decode (zb m_Ft_tellText) 4 = .ok (.istore_n 3, 1) := by decide +kernel
theorem d_Ft_tellText_5 : decode (zb m_Ft_tellText) 5 = .ok (.iconst 1, 1) := by decide +kernel
theorem d_Ft_tellText_6 : decode (zb m_Ft_tellText) 6 = .ok (.istore 4, 2) := by decide +kernel
theorem d_Ft_tellText_8 : decode (zb m_Ft_tellText) 8 = .ok (.iload 4, 2) := by decide +kernel
theorem d_Ft_tellText_10 : decode (zb m_Ft_tellText) 10 = .ok (.iload_n 3, 1) := by decide +kernel
theorem d_Ft_tellText_11 : decode (zb m_Ft_tellText) 11 = .ok (.if_icmp .gt 72, 3) := by decide +kernel
theorem d_Ft_tellText_14 : decode (zb m_Ft_tellText) 14 = .ok (.aload_n 0, 1) := by decide +kernel
theorem d_Ft_tellText_15 : decode (zb m_Ft_tellText) 15 = .ok (.iload_n 1, 1) := by decide +kernel
theorem d_Ft_tellText_16 : decode (zb m_Ft_tellText) 16 = .ok (.iload 4, 2) := by decide +kernel
theorem d_Ft_tellText_18 : decode (zb m_Ft_tellText) 18 = .ok (.invokevirtual 129, 3) := by decide +kernel
theorem d_Ft_tellText_21 : decode (zb m_Ft_tellText) 21 = .ok (.istore 5, 2) := by decide +kernel
theorem d_Ft_tellText_23 : decode (zb m_Ft_tellText) 23 = .ok (.iload 4, 2) := by decide +kernel
theorem d_Ft_tellText_25 : decode (zb m_Ft_tellText) 25 = .ok (.invokestatic 132, 3) := by decide +kernel
theorem d_Ft_tellText_28 : decode (zb m_Ft_tellText) 28 = .ok (.aload_n 0, 1) := by decide +kernel
theorem d_Ft_tellText_29 : decode (zb m_Ft_tellText) 29 = .ok (.iload 5, 2) := by decide +kernel
theorem d_Ft_tellText_31 : decode (zb m_Ft_tellText) 31 = .ok (.invokevirtual 83, 3) := by decide +kernel
theorem d_Ft_tellText_34 : decode (zb m_Ft_tellText) 34 = .ok (.iadd, 1) := by decide +kernel
theorem d_Ft_tellText_35 : decode (zb m_Ft_tellText) 35 = .ok (.aload_n 0, 1) := by decide +kernel
theorem d_Ft_tellText_36 : decode (zb m_Ft_tellText) 36 = .ok (.iload_n 1, 1) := by decide +kernel
theorem d_Ft_tellText_37 : decode (zb m_Ft_tellText) 37 = .ok (.invokevirtual 83, 3) := by decide +kernel
theorem d_Ft_tellText_40 : decode (zb m_Ft_tellText) 40 = .ok (.if_icmp .ne 37, 3) := by decide +kernel
theorem d_Ft_tellText_43 : decode (zb m_Ft_tellText) 43 = .ok (.aload_n 2, 1) := by decide +kernel
theorem d_Ft_tellText_44 : decode (zb m_Ft_tellText) 44 = .ok (.invokevirtual 116, 3) := by decide +kernel
theorem d_Ft_tellText_47 : decode (zb m_Ft_tellText) 47 = .ok (.aload_n 0, 1) := by decide +kernel
theorem d_Ft_tellText_48 : decode (zb m_Ft_tellText) 48 = .ok (.getfield 13, 3) := by decide +kernel
theorem d_Ft_tellText_51 : decode (zb m_Ft_tellText) 51 = .ok (.iconst 0, 1) := by decide +kernel
theorem d_Ft_tellText_52 : decode (zb m_Ft_tellText) 52 = .ok (.aaload, 1) := by decide +kernel
theorem d_Ft_tellText_53 : decode (zb m_Ft_tellText) 53 = .ok (.invokevirtual 135, 3) := by decide +kernel
theorem d_Ft_tellText_56 : decode (zb m_Ft_tellText) 56 = .ok (.aload_n 0, 1) := by decide +kernel
theorem d_Ft_tellText_57 : decode (zb m_Ft_tellText) 57 = .ok (.getfield 17, 3) := by decide +kernel
theorem d_Ft_tellText_60 : decode (zb m_Ft_tellText) 60 = .ok (.iconst 0, 1) := by decide +kernel
theorem d_Ft_tellText_61 : decode (zb m_Ft_tellText) 61 = .ok (.iaload, 1) := by decide +kernel
theorem d_Ft_tellText_62 : decode (zb m_Ft_tellText) 62 = .ok (.aload_n 0, 1) := by decide +kernel
theorem d_Ft_tellText_63 : decode (zb m_Ft_tellText) 63 = .ok (.getfield 17, 3) := by decide +kernel
theorem d_Ft_tellText_66 : decode (zb m_Ft_tellText) 66 = .ok (.iconst 0, 1) := by decide +kernel
theorem d_Ft_tellText_67 : decode (zb m_Ft_tellText) 67 = .ok (.iaload, 1) := by decide +kernel
theorem d_Ft_tellText_68 : decode (zb m_Ft_tellText) 68 = .ok (.iload 4, 2) := by decide +kernel
theorem d_Ft_tellText_70 : decode (zb m_Ft_tellText) 70 = .ok (.iadd, 1) := by decide +kernel
theorem d_Ft_tellText_71 : decode (zb m_Ft_tellText) 71 = .ok (.invokevirtual 139, 3) := by decide +kernel
theorem d_Ft_tellText_74 : decode (zb m_Ft_tellText) 74 = .ok (.iload 5, 2) := by decide +kernel
theorem d_Ft_tellText_76 : decode (zb m_Ft_tellText) 76 = .ok (.ireturn, 1) := by decide +kernel
theorem d_Ft_tellText_77 : decode (zb m_Ft_tellText) 77 = .ok (.iinc 4 1, 3) := by decide +kernel
theorem d_Ft_tellText_80 : decode (zb m_Ft_tellText) 80 = .ok (.goto (-72), 3) := by decide +kernel
theorem d_Ft_tellText_83 : decode (zb m_Ft_tellText) 83 = .ok (.aload_n 0, 1) := by decide +kernel
theorem d_Ft_tellText_84 : decode (zb m_Ft_tellText) 84 = .ok (.invokevirtual 58, 3) := by decide +kernel
theorem d_Ft_tellText_87 : decode (zb m_Ft_tellText) 87 = .ok (.ireturn, 1) := by decide +kernel
theorem d_Ft_listMoves_0 : decode (zb m_Ft_listMoves) 0 = .ok (.aload_n 0, 1) := by decide +kernel
theorem d_Ft_listMoves_1 : decode (zb m_Ft_listMoves) 1 = .ok (.getfield 35, 3) := by decide +kernel
theorem d_Ft_listMoves_4 : decode (zb m_Ft_listMoves) 4 = .ok (.invokevirtual 143, 3) := by decide +kernel
theorem d_Ft_listMoves_7 : decode (zb m_Ft_listMoves) 7 = .ok (.aload_n 0, 1) := by decide +kernel
theorem d_Ft_listMoves_8 : decode (zb m_Ft_listMoves) 8 = .ok (.iload_n 1, 1) := by decide +kernel
theorem d_Ft_listMoves_9 : decode (zb m_Ft_listMoves) 9 = .ok (.invokevirtual 92, 3) := by decide +kernel
theorem d_Ft_listMoves_12 : decode (zb m_Ft_listMoves) 12 = .ok (.iconst 0, 1) := by decide +kernel
theorem d_Ft_listMoves_13 : decode (zb m_Ft_listMoves) 13 = .ok (.istore_n 2, 1) := by decide +kernel
theorem d_Ft_listMoves_14 : decode (zb m_Ft_listMoves) 14 = .ok (.iload_n 2, 1) := by decide +kernel
theorem d_Ft_listMoves_15 : decode (zb m_Ft_listMoves) 15 = .ok (.aload_n 0, 1) := by decide +kernel
theorem d_Ft_listMoves_16 : decode (zb m_Ft_listMoves) 16 = .ok (.getfield 146, 3) := by decide +kernel
theorem d_Ft_listMoves_19 : decode (zb m_Ft_listMoves) 19 = .ok (.if_icmp .ge 28, 3) := by decide +kernel
theorem d_Ft_listMoves_22 : decode (zb m_Ft_listMoves) 22 = .ok (.aload_n 0, 1) := by decide +kernel
theorem d_Ft_listMoves_23 : decode (zb m_Ft_listMoves) 23 = .ok (.aload_n 0, 1) := by decide +kernel
theorem d_Ft_listMoves_24 : decode (zb m_Ft_listMoves) 24 = .ok (.getfield 23, 3) := by decide +kernel
theorem d_Ft_listMoves_27 : decode (zb m_Ft_listMoves) 27 = .ok (.iload_n 2, 1) := by decide +kernel
theorem d_Ft_listMoves_28 : decode (zb m_Ft_listMoves) 28 = .ok (.iaload, 1) := by decide +kernel
theorem d_Ft_listMoves_29 : decode (zb m_Ft_listMoves) 29 = .ok (.invokevirtual 102, 3) := by decide +kernel
theorem d_Ft_listMoves_32 : decode (zb m_Ft_listMoves) 32 = .ok (.ifCond .eq 9, 3) := by decide +kernel
theorem d_Ft_listMoves_35 : decode (zb m_Ft_listMoves) 35 = .ok (.aload_n 0, 1) := by decide +kernel
theorem d_Ft_listMoves_36 : decode (zb m_Ft_listMoves) 36 = .ok (.iload_n 1, 1) := by decide +kernel
theorem d_Ft_listMoves_37 : decode (zb m_Ft_listMoves) 37 = .ok (.iload_n 2, 1) := by decide +kernel
theorem d_Ft_listMoves_38 : decode (zb m_Ft_listMoves) 38 = .ok (.invokevirtual 149, 3) := by decide +kernel
theorem d_Ft_listMoves_41 : decode (zb m_Ft_listMoves) 41 = .ok (.iinc 2 1, 3) := by decide +kernel
theorem d_Ft_listMoves_44 : decode (zb m_Ft_listMoves) 44 = .ok (.goto (-30), 3) := by decide +kernel
theorem d_Ft_listMoves_47 : decode (zb m_Ft_listMoves) 47 = .ok (.aload_n 0, 1) := by decide +kernel
theorem d_Ft_listMoves_48 : decode (zb m_Ft_listMoves) 48 = .ok (.invokevirtual 126, 3) := by decide +kernel
theorem d_Ft_listMoves_51 : decode (zb m_Ft_listMoves) 51 = .ok (.istore_n 2, 1) := by decide +kernel
theorem d_Ft_listMoves_52 : decode (zb m_Ft_listMoves) 52 = .ok (.iconst 1, 1) := by decide +kernel
theorem d_Ft_listMoves_53 : decode (zb m_Ft_listMoves) 53 = .ok (.istore_n 3, 1) := by decide +kernel
theorem d_Ft_listMoves_54 : decode (zb m_Ft_listMoves) 54 = .ok (.iload_n 3, 1) := by decide +kernel
theorem d_Ft_listMoves_55 : decode (zb m_Ft_listMoves) 55 = .ok (.iload_n 2, 1) := by decide +kernel
theorem d_Ft_listMoves_56 : decode (zb m_Ft_listMoves) 56 = .ok (.if_icmp .gt 27, 3) := by decide +kernel
theorem d_Ft_listMoves_59 : decode (zb m_Ft_listMoves) 59 = .ok (.aload_n 0, 1) := by decide +kernel
theorem d_Ft_listMoves_60 : decode (zb m_Ft_listMoves) 60 = .ok (.getfield 35, 3) := by decide +kernel
theorem d_Ft_listMoves_63 : decode (zb m_Ft_listMoves) 63 = .ok (.aload_n 0, 1) := by decide +kernel
theorem d_Ft_listMoves_64 : decode (zb m_Ft_listMoves) 64 = .ok (.iload_n 1, 1) := by decide +kernel
theorem d_Ft_listMoves_65 : decode (zb m_Ft_listMoves) 65 = .ok (.iload_n 3, 1) := by decide +kernel
theorem d_Ft_listMoves_66 : decode (zb m_Ft_listMoves) 66 = .ok (.invokevirtual 129, 3) := by decide +kernel
theorem d_Ft_listMoves_69 : decode (zb m_Ft_listMoves) 69 = .ok (.iconst 1, 1) := by decide +kernel
theorem d_Ft_listMoves_70 : decode (zb m_Ft_listMoves) 70 = .ok (.iload_n 3, 1) := by decide +kernel
theorem d_Ft_listMoves_71 : decode (zb m_Ft_listMoves) 71 = .ok (.invokestatic 132, 3) := by decide +kernel
theorem d_Ft_listMoves_74 : decode (zb m_Ft_listMoves) 74 = .ok (.invokevirtual 152, 3) := by decide +kernel
theorem d_Ft_listMoves_77 : decode (zb m_Ft_listMoves) 77 = .ok (.iinc 3 1, 3) := by decide +kernel
theorem d_Ft_listMoves_80 : decode (zb m_Ft_listMoves) 80 = .ok (.goto (-26), 3) := by decide +kernel
theorem d_Ft_listMoves_83 : decode (zb m_Ft_listMoves) 83 = .ok (.return_, 1) := by decide +kernel
theorem d_Ft_listCuts_0 : decode (zb m_Ft_listCuts) 0 = .ok (.iconst 0, 1) := by decide +kernel
theorem d_Ft_listCuts_1 : decode (zb m_Ft_listCuts) 1 = .ok (.istore_n 3, 1) := by decide +kernel
theorem d_Ft_listCuts_2 : decode (zb m_Ft_listCuts) 2 = .ok (.iload_n 3, 1) := by decide +kernel
theorem d_Ft_listCuts_3 : decode (zb m_Ft_listCuts) 3 = .ok (.aload_n 0, 1) := by decide +kernel
theorem d_Ft_listCuts_4 : decode (zb m_Ft_listCuts) 4 = .ok (.getfield 146, 3) := by decide +kernel
theorem d_Ft_listCuts_7 : decode (zb m_Ft_listCuts) 7 = .ok (.if_icmp .ge 76, 3) := by decide +kernel
theorem d_Ft_listCuts_10 : decode (zb m_Ft_listCuts) 10 = .ok (.aload_n 0, 1) := by decide +kernel
theorem d_Ft_listCuts_11 : decode (zb m_Ft_listCuts) 11 = .ok (.iload_n 1, 1) := by decide +kernel
theorem d_Ft_listCuts_12 : decode (zb m_Ft_listCuts) 12 = .ok (.aload_n 0, 1) := by decide +kernel
theorem d_Ft_listCuts_13 : decode (zb m_Ft_listCuts) 13 = .ok (.getfield 23, 3) := by decide +kernel
theorem d_Ft_listCuts_16 : decode (zb m_Ft_listCuts) 16 = .ok (.iload_n 2, 1) := by decide +kernel
theorem d_Ft_listCuts_17 : decode (zb m_Ft_listCuts) 17 = .ok (.iaload, 1) := by decide +kernel
theorem d_Ft_listCuts_18 : decode (zb m_Ft_listCuts) 18 = .ok (.aload_n 0, 1) := by decide +kernel
theorem d_Ft_listCuts_19 : decode (zb m_Ft_listCuts) 19 = .ok (.getfield 23, 3) := by decide +kernel
theorem d_Ft_listCuts_22 : decode (zb m_Ft_listCuts) 22 = .ok (.iload_n 3, 1) := by decide +kernel
theorem d_Ft_listCuts_23 : decode (zb m_Ft_listCuts) 23 = .ok (.iaload, 1) := by decide +kernel
theorem d_Ft_listCuts_24 : decode (zb m_Ft_listCuts) 24 = .ok (.invokevirtual 106, 3) := by decide +kernel
theorem d_Ft_listCuts_27 : decode (zb m_Ft_listCuts) 27 = .ok (.istore 4, 2) := by decide +kernel
theorem d_Ft_listCuts_29 : decode (zb m_Ft_listCuts) 29 = .ok (.iload 4, 2) := by decide +kernel
theorem d_Ft_listCuts_31 : decode (zb m_Ft_listCuts) 31 = .ok (.bipush (-6), 2) := by decide +kernel
theorem d_Ft_listCuts_33 : decode (zb m_Ft_listCuts) 33 = .ok (.if_icmp .eq 44, 3) := by decide +kernel
theorem d_Ft_listCuts_36 : decode (zb m_Ft_listCuts) 36 = .ok (.aload_n 0, 1) := by decide +kernel
theorem d_Ft_listCuts_37 : decode (zb m_Ft_listCuts) 37 = .ok (.getfield 29, 3) := by decide +kernel
theorem d_Ft_listCuts_40 : decode (zb m_Ft_listCuts) 40 = .ok (.iload_n 2, 1) := by decide +kernel
theorem d_Ft_listCuts_41 : decode (zb m_Ft_listCuts) 41 = .ok (.iaload, 1) := by decide +kernel
theorem d_Ft_listCuts_42 : decode (zb m_Ft_listCuts) 42 = .ok (.aload_n 0, 1) := by decide +kernel
theorem d_Ft_listCuts_43 : decode (zb m_Ft_listCuts) 43 = .ok (.getfield 29, 3) := by decide +kernel
theorem d_Ft_listCuts_46 : decode (zb m_Ft_listCuts) 46 = .ok (.iload_n 3, 1) := by decide +kernel
theorem d_Ft_listCuts_47 : decode (zb m_Ft_listCuts) 47 = .ok (.iaload, 1) := by decide +kernel
theorem d_Ft_listCuts_48 : decode (zb m_Ft_listCuts) 48 = .ok (.invokestatic 111, 3) := by decide +kernel
theorem d_Ft_listCuts_51 : decode (zb m_Ft_listCuts) 51 = .ok (.istore 5, 2) := by decide +kernel
theorem d_Ft_listCuts_53 : decode (zb m_Ft_listCuts) 53 = .ok (.aload_n 0, 1) := by decide +kernel
theorem d_Ft_listCuts_54 : decode (zb m_Ft_listCuts) 54 = .ok (.getfield 35, 3) := by decide +kernel
theorem d_Ft_listCuts_57 : decode (zb m_Ft_listCuts) 57 = .ok (.iload 4, 2) := by decide +kernel
theorem d_Ft_listCuts_59 : decode (zb m_Ft_listCuts) 59 = .ok (.aload_n 0, 1) := by decide +kernel
theorem d_Ft_listCuts_60 : decode (zb m_Ft_listCuts) 60 = .ok (.getfield 26, 3) := by decide +kernel
theorem d_Ft_listCuts_63 : decode (zb m_Ft_listCuts) 63 = .ok (.iload_n 2, 1) := by decide +kernel
theorem d_Ft_listCuts_64 : decode (zb m_Ft_listCuts) 64 = .ok (.iaload, 1) := by decide +kernel
theorem d_Ft_listCuts_65 : decode (zb m_Ft_listCuts) 65 = .ok (.aload_n 0, 1) := by decide +kernel
theorem d_Ft_listCuts_66 : decode (zb m_Ft_listCuts) 66 = .ok (.getfield 26, 3) := by decide +kernel
theorem d_Ft_listCuts_69 : decode (zb m_Ft_listCuts) 69 = .ok (.iload_n 3, 1) := by decide +kernel
theorem d_Ft_listCuts_70 : decode (zb m_Ft_listCuts) 70 = .ok (.iaload, 1) := by decide +kernel
theorem d_Ft_listCuts_71 : decode (zb m_Ft_listCuts) 71 = .ok (.imul, 1) := by decide +kernel
theorem d_Ft_listCuts_72 : decode (zb m_Ft_listCuts) 72 = .ok (.iload 5, 2) := by decide +kernel
theorem d_Ft_listCuts_74 : decode (zb m_Ft_listCuts) 74 = .ok (.invokevirtual 152, 3) := by decide +kernel
theorem d_Ft_listCuts_77 : decode (zb m_Ft_listCuts) 77 = .ok (.iinc 3 1, 3) := by decide +kernel
theorem d_Ft_listCuts_80 : decode (zb m_Ft_listCuts) 80 = .ok (.goto (-78), 3) := by decide +kernel
theorem d_Ft_listCuts_83 : decode (zb m_Ft_listCuts) 83 = .ok (.return_, 1) := by decide +kernel
theorem d_Ft_groupMarks_0 : decode (zb m_Ft_groupMarks) 0 = .ok (.aload_n 0, 1) := by decide +kernel
theorem d_Ft_groupMarks_1 : decode (zb m_Ft_groupMarks) 1 = .ok (.iconst 0, 1) := by decide +kernel
theorem d_Ft_groupMarks_2 : decode (zb m_Ft_groupMarks) 2 = .ok (.putfield 146, 3) := by decide +kernel
theorem d_Ft_groupMarks_5 : decode (zb m_Ft_groupMarks) 5 = .ok (.iconst 0, 1) := by decide +kernel
theorem d_Ft_groupMarks_6 : decode (zb m_Ft_groupMarks) 6 = .ok (.istore_n 1, 1) := by decide +kernel
theorem d_Ft_groupMarks_7 : decode (zb m_Ft_groupMarks) 7 = .ok (.iload_n 1, 1) := by decide +kernel
theorem d_Ft_groupMarks_8 : decode (zb m_Ft_groupMarks) 8 = .ok (.bipush 62, 2) := by decide +kernel
theorem d_Ft_groupMarks_10 : decode (zb m_Ft_groupMarks) 10 = .ok (.if_icmp .ge 22, 3) := by decide +kernel
theorem d_Ft_groupMarks_13 : decode (zb m_Ft_groupMarks) 13 = .ok (.aload_n 0, 1) := by decide +kernel
theorem d_Ft_groupMarks_14 : decode (zb m_Ft_groupMarks) 14 = .ok (.iload_n 1, 1) := by decide +kernel
theorem d_Ft_groupMarks_15 : decode (zb m_Ft_groupMarks) 15 = .ok (.invokevirtual 156, 3) := by decide +kernel
theorem d_Ft_groupMarks_18 : decode (zb m_Ft_groupMarks) 18 = .ok (.ifCond .eq 8, 3) := by decide +kernel
theorem d_Ft_groupMarks_21 : decode (zb m_Ft_groupMarks) 21 = .ok (.aload_n 0, 1) := by decide +kernel
theorem d_Ft_groupMarks_22 : decode (zb m_Ft_groupMarks) 22 = .ok (.iload_n 1, 1) := by decide +kernel
theorem d_Ft_groupMarks_23 : decode (zb m_Ft_groupMarks) 23 = .ok (.invokevirtual 159, 3) := by decide +kernel
theorem d_Ft_groupMarks_26 : decode (zb m_Ft_groupMarks) 26 = .ok (.iinc 1 1, 3) := by decide +kernel
theorem d_Ft_groupMarks_29 : decode (zb m_Ft_groupMarks) 29 = .ok (.goto (-22), 3) := by decide +kernel
theorem d_Ft_groupMarks_32 : decode (zb m_Ft_groupMarks) 32 = .ok (.return_, 1) := by decide +kernel
theorem d_Ft_joinGroup_0 : decode (zb m_Ft_joinGroup) 0 = .ok (.iconst 0, 1) := by decide +kernel
theorem d_Ft_joinGroup_1 : decode (zb m_Ft_joinGroup) 1 = .ok (.istore_n 2, 1) := by decide +kernel
theorem d_Ft_joinGroup_2 : decode (zb m_Ft_joinGroup) 2 = .ok (.iload_n 2, 1) := by decide +kernel
theorem d_Ft_joinGroup_3 : decode (zb m_Ft_joinGroup) 3 = .ok (.aload_n 0, 1) := by decide +kernel
theorem d_Ft_joinGroup_4 : decode (zb m_Ft_joinGroup) 4 = .ok (.getfield 146, 3) := by decide +kernel
theorem d_Ft_joinGroup_7 : decode (zb m_Ft_joinGroup) 7 = .ok (.if_icmp .ge 23, 3) := by decide +kernel
theorem d_Ft_joinGroup_10 : decode (zb m_Ft_joinGroup) 10 = .ok (.aload_n 0, 1) := by decide +kernel
theorem d_Ft_joinGroup_11 : decode (zb m_Ft_joinGroup) 11 = .ok (.aload_n 0, 1) := by decide +kernel
theorem d_Ft_joinGroup_12 : decode (zb m_Ft_joinGroup) 12 = .ok (.getfield 23, 3) := by decide +kernel
theorem d_Ft_joinGroup_15 : decode (zb m_Ft_joinGroup) 15 = .ok (.iload_n 2, 1) := by decide +kernel
theorem d_Ft_joinGroup_16 : decode (zb m_Ft_joinGroup) 16 = .ok (.iaload, 1) := by decide +kernel
theorem d_Ft_joinGroup_17 : decode (zb m_Ft_joinGroup) 17 = .ok (.iload_n 1, 1) := by decide +kernel
theorem d_Ft_joinGroup_18 : decode (zb m_Ft_joinGroup) 18 = .ok (.invokevirtual 162, 3) := by decide +kernel
theorem d_Ft_joinGroup_21 : decode (zb m_Ft_joinGroup) 21 = .ok (.ifCond .ne 9, 3) := by decide +kernel
theorem d_Ft_joinGroup_24 : decode (zb m_Ft_joinGroup) 24 = .ok (.iinc 2 1, 3) := by decide +kernel
theorem d_Ft_joinGroup_27 : decode (zb m_Ft_joinGroup) 27 = .ok (.goto (-25), 3) := by decide +kernel
theorem d_Ft_joinGroup_30 : decode (zb m_Ft_joinGroup) 30 = .ok (.iload_n 2, 1) := by decide +kernel
theorem d_Ft_joinGroup_31 : decode (zb m_Ft_joinGroup) 31 = .ok (.bipush 62, 2) := by decide +kernel
theorem d_Ft_joinGroup_33 : decode (zb m_Ft_joinGroup) 33 = .ok (.if_icmp .lt 4, 3) := by decide +kernel
theorem d_Ft_joinGroup_36 : decode (zb m_Ft_joinGroup) 36 = .ok (.return_, 1) := by decide +kernel
theorem d_Ft_joinGroup_37 : decode (zb m_Ft_joinGroup) 37 = .ok (.iload_n 2, 1) := by decide +kernel
theorem d_Ft_joinGroup_38 : decode (zb m_Ft_joinGroup) 38 = .ok (.aload_n 0, 1) := by decide +kernel
theorem d_Ft_joinGroup_39 : decode (zb m_Ft_joinGroup) 39 = .ok (.getfield 146, 3) := by decide +kernel
theorem d_Ft_joinGroup_42 : decode (zb m_Ft_joinGroup) 42 = .ok (.if_icmp .ne 37, 3) := by decide +kernel
theorem d_Ft_joinGroup_45 : decode (zb m_Ft_joinGroup) 45 = .ok (.aload_n 0, 1) := by decide +kernel
theorem d_Ft_joinGroup_46 : decode (zb m_Ft_joinGroup) 46 = .ok (.getfield 23, 3) := by decide +kernel
theorem d_Ft_joinGroup_49 : decode (zb m_Ft_joinGroup) 49 = .ok (.iload_n 2, 1) := by decide +kernel
theorem d_Ft_joinGroup_50 : decode (zb m_Ft_joinGroup) 50 = .ok (.iload_n 1, 1) := by decide +kernel
theorem d_Ft_joinGroup_51 : decode (zb m_Ft_joinGroup) 51 = .ok (.iastore, 1) := by decide +kernel
theorem d_Ft_joinGroup_52 : decode (zb m_Ft_joinGroup) 52 = .ok (.aload_n 0, 1) := by decide +kernel
theorem d_Ft_joinGroup_53 : decode (zb m_Ft_joinGroup) 53 = .ok (.getfield 26, 3) := by decide +kernel
theorem d_Ft_joinGroup_56 : decode (zb m_Ft_joinGroup) 56 = .ok (.iload_n 2, 1) := by decide +kernel
theorem d_Ft_joinGroup_57 : decode (zb m_Ft_joinGroup) 57 = .ok (.iconst 0, 1) := by decide +kernel
theorem d_Ft_joinGroup_58 : decode (zb m_Ft_joinGroup) 58 = .ok (.iastore, 1) := by decide +kernel
theorem d_Ft_joinGroup_59 : decode (zb m_Ft_joinGroup) 59 = .ok (.aload_n 0, 1) := by decide +kernel
theorem d_Ft_joinGroup_60 : decode (zb m_Ft_joinGroup) 60 = .ok (.getfield 29, 3) := by decide +kernel
theorem d_Ft_joinGroup_63 : decode (zb m_Ft_joinGroup) 63 = .ok (.iload_n 2, 1) := by decide +kernel
theorem d_Ft_joinGroup_64 : decode (zb m_Ft_joinGroup) 64 = .ok (.iload_n 1, 1) := by decide +kernel
theorem d_Ft_joinGroup_65 : decode (zb m_Ft_joinGroup) 65 = .ok (.invokestatic 110, 3) := by decide +kernel
theorem d_Ft_joinGroup_68 : decode (zb m_Ft_joinGroup) 68 = .ok (.iastore, 1) := by decide +kernel
theorem d_Ft_joinGroup_69 : decode (zb m_Ft_joinGroup) 69 = .ok (.aload_n 0, 1) := by decide +kernel
theorem d_Ft_joinGroup_70 : decode (zb m_Ft_joinGroup) 70 = .ok (.dup, 1) := by decide +kernel
theorem d_Ft_joinGroup_71 : decode (zb m_Ft_joinGroup) 71 = .ok (.getfield 146, 3) := by decide +kernel
theorem d_Ft_joinGroup_74 : decode (zb m_Ft_joinGroup) 74 = .ok (.iconst 1, 1) := by decide +kernel
theorem d_Ft_joinGroup_75 : decode (zb m_Ft_joinGroup) 75 = .ok (.iadd, 1) := by decide +kernel
theorem d_Ft_joinGroup_76 : decode (zb m_Ft_joinGroup) 76 = .ok (.putfield 146, 3) := by decide +kernel
theorem d_Ft_joinGroup_79 : decode (zb m_Ft_joinGroup) 79 = .ok (.aload_n 0, 1) := by decide +kernel
theorem d_Ft_joinGroup_80 : decode (zb m_Ft_joinGroup) 80 = .ok (.getfield 26, 3) := by decide +kernel
theorem d_Ft_joinGroup_83 : decode (zb m_Ft_joinGroup) 83 = .ok (.iload_n 2, 1) := by decide +kernel
theorem d_Ft_joinGroup_84 : decode (zb m_Ft_joinGroup) 84 = .ok (.dup2, 1) := by decide +kernel
theorem d_Ft_joinGroup_85 : decode (zb m_Ft_joinGroup) 85 = .ok (.iaload, 1) := by decide +kernel
theorem d_Ft_joinGroup_86 : decode (zb m_Ft_joinGroup) 86 = .ok (.iconst 1, 1) := by decide +kernel
theorem d_Ft_joinGroup_87 : decode (zb m_Ft_joinGroup) 87 = .ok (.iadd, 1) := by decide +kernel
theorem d_Ft_joinGroup_88 : decode (zb m_Ft_joinGroup) 88 = .ok (.iastore, 1) := by decide +kernel
theorem d_Ft_joinGroup_89 : decode (zb m_Ft_joinGroup) 89 = .ok (.aload_n 0, 1) := by decide +kernel
theorem d_Ft_joinGroup_90 : decode (zb m_Ft_joinGroup) 90 = .ok (.getfield 29, 3) := by decide +kernel
theorem d_Ft_joinGroup_93 : decode (zb m_Ft_joinGroup) 93 = .ok (.iload_n 2, 1) := by decide +kernel
theorem d_Ft_joinGroup_94 : decode (zb m_Ft_joinGroup) 94 = .ok (.aload_n 0, 1) := by decide +kernel
theorem d_Ft_joinGroup_95 : decode (zb m_Ft_joinGroup) 95 = .ok (.getfield 29, 3) := by decide +kernel
theorem d_Ft_joinGroup_98 : decode (zb m_Ft_joinGroup) 98 = .ok (.iload_n 2, 1) := by decide +kernel
theorem d_Ft_joinGroup_99 : decode (zb m_Ft_joinGroup) 99 = .ok (.iaload, 1) := by decide +kernel
theorem d_Ft_joinGroup_100 : decode (zb m_Ft_joinGroup) 100 = .ok (.iload_n 1, 1) := by decide +kernel
theorem d_Ft_joinGroup_101 : decode (zb m_Ft_joinGroup) 101 = .ok (.invokestatic 110, 3) := by decide +kernel
theorem d_Ft_joinGroup_104 : decode (zb m_Ft_joinGroup) 104 = .ok (.invokestatic 86, 3) := by decide +kernel
theorem d_Ft_joinGroup_107 : decode (zb m_Ft_joinGroup) 107 = .ok (.iastore, 1) := by decide +kernel
theorem d_Ft_joinGroup_108 : decode (zb m_Ft_joinGroup) 108 = .ok (.return_, 1) := by decide +kernel
theorem d_Ft_isToldInAll_0 : decode (zb m_Ft_isToldInAll) 0 = .ok (.iconst 0, 1) := by decide +kernel
theorem d_Ft_isToldInAll_1 : decode (zb m_Ft_isToldInAll) 1 = .ok (.istore_n 2, 1) := by decide +kernel
theorem d_Ft_isToldInAll_2 : decode (zb m_Ft_isToldInAll) 2 = .ok (.iload_n 2, 1) := by decide +kernel
theorem d_Ft_isToldInAll_3 : decode (zb m_Ft_isToldInAll) 3 = .ok (.aload_n 0, 1) := by decide +kernel
theorem d_Ft_isToldInAll_4 : decode (zb m_Ft_isToldInAll) 4 = .ok (.getfield 47, 3) := by decide +kernel
theorem d_Ft_isToldInAll_7 : decode (zb m_Ft_isToldInAll) 7 = .ok (.if_icmp .ge 26, 3) := by decide +kernel
theorem d_Ft_isToldInAll_10 : decode (zb m_Ft_isToldInAll) 10 = .ok (.aload_n 0, 1) := by decide +kernel
theorem d_Ft_isToldInAll_11 : decode (zb m_Ft_isToldInAll) 11 = .ok (.getfield 13, 3) := by decide +kernel
theorem d_Ft_isToldInAll_14 : decode (zb m_Ft_isToldInAll) 14 = .ok (.iload_n 2, 1) := by decide +kernel
theorem d_Ft_isToldInAll_15 : decode (zb m_Ft_isToldInAll) 15 = .ok (.aaload, 1) := by decide +kernel
theorem d_Ft_isToldInAll_16 : decode (zb m_Ft_isToldInAll) 16 = .ok (.iload_n 1, 1) := by decide +kernel
theorem d_Ft_isToldInAll_17 : decode (zb m_Ft_isToldInAll) 17 = .ok (.invokevirtual 166, 3) := by decide +kernel
theorem d_Ft_isToldInAll_20 : decode (zb m_Ft_isToldInAll) 20 = .ok (.bipush (-6), 2) := by decide +kernel
theorem d_Ft_isToldInAll_22 : decode (zb m_Ft_isToldInAll) 22 = .ok (.if_icmp .ne 5, 3) := by decide +kernel
theorem d_Ft_isToldInAll_25 : decode (zb m_Ft_isToldInAll) 25 = .ok (.iconst 0, 1) := by decide +kernel
theorem d_Ft_isToldInAll_26 : decode (zb m_Ft_isToldInAll) 26 = .ok (.ireturn, 1) := by decide +kernel
theorem d_Ft_isToldInAll_27 : decode (zb m_Ft_isToldInAll) 27 = .ok (.iinc 2 1, 3) := by decide +kernel
theorem d_Ft_isToldInAll_30 : decode (zb m_Ft_isToldInAll) 30 = .ok (.goto (-28), 3) := by decide +kernel
theorem d_Ft_isToldInAll_33 : decode (zb m_Ft_isToldInAll) 33 = .ok (.iconst 1, 1) := by decide +kernel
theorem d_Ft_isToldInAll_34 : decode (zb m_Ft_isToldInAll) 34 = .ok (.ireturn, 1) := by decide +kernel
theorem d_Ft_tellSame_0 : decode (zb m_Ft_tellSame) 0 = .ok (.iconst 0, 1) := by decide +kernel
theorem d_Ft_tellSame_1 : decode (zb m_Ft_tellSame) 1 = .ok (.istore_n 3, 1) := by decide +kernel
theorem d_Ft_tellSame_2 : decode (zb m_Ft_tellSame) 2 = .ok (.iload_n 3, 1) := by decide +kernel
theorem d_Ft_tellSame_3 : decode (zb m_Ft_tellSame) 3 = .ok (.aload_n 0, 1) := by decide +kernel
theorem d_Ft_tellSame_4 : decode (zb m_Ft_tellSame) 4 = .ok (.getfield 47, 3) := by decide +kernel
theorem d_Ft_tellSame_7 : decode (zb m_Ft_tellSame) 7 = .ok (.if_icmp .ge 34, 3) := by decide +kernel
theorem d_Ft_tellSame_10 : decode (zb m_Ft_tellSame) 10 = .ok (.aload_n 0, 1) := by decide +kernel
theorem d_Ft_tellSame_11 : decode (zb m_Ft_tellSame) 11 = .ok (.getfield 13, 3) := by decide +kernel
theorem d_Ft_tellSame_14 : decode (zb m_Ft_tellSame) 14 = .ok (.iload_n 3, 1) := by decide +kernel
theorem d_Ft_tellSame_15 : decode (zb m_Ft_tellSame) 15 = .ok (.aaload, 1) := by decide +kernel
theorem d_Ft_tellSame_16 : decode (zb m_Ft_tellSame) 16 = .ok (.iload_n 1, 1) := by decide +kernel
theorem d_Ft_tellSame_17 : decode (zb m_Ft_tellSame) 17 = .ok (.invokevirtual 166, 3) := by decide +kernel
theorem d_Ft_tellSame_20 : decode (zb m_Ft_tellSame) 20 = .ok (.aload_n 0, 1) := by decide +kernel
theorem d_Ft_tellSame_21 : decode (zb m_Ft_tellSame) 21 = .ok (.getfield 13, 3) := by decide +kernel
theorem d_Ft_tellSame_24 : decode (zb m_Ft_tellSame) 24 = .ok (.iload_n 3, 1) := by decide +kernel
theorem d_Ft_tellSame_25 : decode (zb m_Ft_tellSame) 25 = .ok (.aaload, 1) := by decide +kernel
theorem d_Ft_tellSame_26 : decode (zb m_Ft_tellSame) 26 = .ok (.iload_n 2, 1) := by decide +kernel
theorem d_Ft_tellSame_27 : decode (zb m_Ft_tellSame) 27 = .ok (.invokevirtual 166, 3) := by decide +kernel
theorem d_Ft_tellSame_30 : decode (zb m_Ft_tellSame) 30 = .ok (.if_icmp .eq 5, 3) := by decide +kernel
theorem d_Ft_tellSame_33 : decode (zb m_Ft_tellSame) 33 = .ok (.iconst 0, 1) := by decide +kernel
theorem d_Ft_tellSame_34 : decode (zb m_Ft_tellSame) 34 = .ok (.ireturn, 1) := by decide +kernel
theorem d_Ft_tellSame_35 : decode (zb m_Ft_tellSame) 35 = .ok (.iinc 3 1, 3) := by decide +kernel
theorem d_Ft_tellSame_38 : decode (zb m_Ft_tellSame) 38 = .ok (.goto (-36), 3) := by decide +kernel
theorem d_Ft_tellSame_41 : decode (zb m_Ft_tellSame) 41 = .ok (.iconst 1, 1) := by decide +kernel
theorem d_Ft_tellSame_42 : decode (zb m_Ft_tellSame) 42 = .ok (.ireturn, 1) := by decide +kernel
theorem d_Ft_reach_0 : decode (zb m_Ft_reach) 0 = .ok (.iload_n 1, 1) := by decide +kernel
theorem d_Ft_reach_1 : decode (zb m_Ft_reach) 1 = .ok (.istore_n 2, 1) := by decide +kernel
theorem d_Ft_reach_2 : decode (zb m_Ft_reach) 2 = .ok (.iconst 0, 1) := by decide +kernel
theorem d_Ft_reach_3 : decode (zb m_Ft_reach) 3 = .ok (.istore_n 3, 1) := by decide +kernel
theorem d_Ft_reach_4 : decode (zb m_Ft_reach) 4 = .ok (.iload_n 3, 1) := by decide +kernel
theorem d_Ft_reach_5 : decode (zb m_Ft_reach) 5 = .ok (.aload_n 0, 1) := by decide +kernel
theorem d_Ft_reach_6 : decode (zb m_Ft_reach) 6 = .ok (.getfield 47, 3) := by decide +kernel
theorem d_Ft_reach_9 : decode (zb m_Ft_reach) 9 = .ok (.if_icmp .ge 24, 3) := by decide +kernel
theorem d_Ft_reach_12 : decode (zb m_Ft_reach) 12 = .ok (.aload_n 0, 1) := by decide +kernel
theorem d_Ft_reach_13 : decode (zb m_Ft_reach) 13 = .ok (.getfield 17, 3) := by decide +kernel
theorem d_Ft_reach_16 : decode (zb m_Ft_reach) 16 = .ok (.iload_n 3, 1) := by decide +kernel
theorem d_Ft_reach_17 : decode (zb m_Ft_reach) 17 = .ok (.iload_n 2, 1) := by decide +kernel
theorem d_Ft_reach_18 : decode (zb m_Ft_reach) 18 = .ok (.bipush 6, 2) := by decide +kernel
theorem d_Ft_reach_20 : decode (zb m_Ft_reach) 20 = .ok (.irem, 1) := by decide +kernel
theorem d_Ft_reach_21 : decode (zb m_Ft_reach) 21 = .ok (.iastore, 1) := by decide +kernel
theorem d_Ft_reach_22 : decode (zb m_Ft_reach) 22 = .ok (.iload_n 2, 1) := by decide +kernel
theorem d_Ft_reach_23 : decode (zb m_Ft_reach) 23 = .ok (.bipush 6, 2) := by decide +kernel
theorem d_Ft_reach_25 : decode (zb m_Ft_reach) 25 = .ok (.idiv, 1) := by decide +kernel
theorem d_Ft_reach_26 : decode (zb m_Ft_reach) 26 = .ok (.istore_n 2, 1) := by decide +kernel
theorem d_Ft_reach_27 : decode (zb m_Ft_reach) 27 = .ok (.iinc 3 1, 3) := by decide +kernel
theorem d_Ft_reach_30 : decode (zb m_Ft_reach) 30 = .ok (.goto (-26), 3) := by decide +kernel
theorem d_Ft_reach_33 : decode (zb m_Ft_reach) 33 = .ok (.return_, 1) := by decide +kernel
theorem d_Ft_canBegin_0 : decode (zb m_Ft_canBegin) 0 = .ok (.iconst 0, 1) := by decide +kernel
theorem d_Ft_canBegin_1 : decode (zb m_Ft_canBegin) 1 = .ok (.istore_n 2, 1) := by decide +kernel
theorem d_Ft_canBegin_2 : decode (zb m_Ft_canBegin) 2 = .ok (.iload_n 2, 1) := by decide +kernel
theorem d_Ft_canBegin_3 : decode (zb m_Ft_canBegin) 3 = .ok (.aload_n 0, 1) := by decide +kernel
theorem d_Ft_canBegin_4 : decode (zb m_Ft_canBegin) 4 = .ok (.getfield 47, 3) := by decide +kernel
theorem d_Ft_canBegin_7 : decode (zb m_Ft_canBegin) 7 = .ok (.if_icmp .ge 39, 3) := by decide +kernel
theorem d_Ft_canBegin_10 : decode (zb m_Ft_canBegin) 10 = .ok (.aload_n 0, 1) := by decide +kernel
theorem d_Ft_canBegin_11 : decode (zb m_Ft_canBegin) 11 = .ok (.getfield 13, 3) := by decide +kernel
theorem d_Ft_canBegin_14 : decode (zb m_Ft_canBegin) 14 = .ok (.iload_n 2, 1) := by decide +kernel
theorem d_Ft_canBegin_15 : decode (zb m_Ft_canBegin) 15 = .ok (.aaload, 1) := by decide +kernel
theorem d_Ft_canBegin_16 : decode (zb m_Ft_canBegin) 16 = .ok (.aload_n 0, 1) := by decide +kernel
theorem d_Ft_canBegin_17 : decode (zb m_Ft_canBegin) 17 = .ok (.getfield 13, 3) := by decide +kernel
theorem d_Ft_canBegin_20 : decode (zb m_Ft_canBegin) 20 = .ok (.iload_n 2, 1) := by decide +kernel
theorem d_Ft_canBegin_21 : decode (zb m_Ft_canBegin) 21 = .ok (.aaload, 1) := by decide +kernel
theorem d_Ft_canBegin_22 : decode (zb m_Ft_canBegin) 22 = .ok (.iload_n 1, 1) := by decide +kernel
theorem d_Ft_canBegin_23 : decode (zb m_Ft_canBegin) 23 = .ok (.invokevirtual 166, 3) := by decide +kernel
theorem d_Ft_canBegin_26 : decode (zb m_Ft_canBegin) 26 = .ok (.aload_n 0, 1) := by decide +kernel
theorem d_Ft_canBegin_27 : decode (zb m_Ft_canBegin) 27 = .ok (.getfield 17, 3) := by decide +kernel
theorem d_Ft_canBegin_30 : decode (zb m_Ft_canBegin) 30 = .ok (.iload_n 2, 1) := by decide +kernel
theorem d_Ft_canBegin_31 : decode (zb m_Ft_canBegin) 31 = .ok (.iaload, 1) := by decide +kernel
theorem d_Ft_canBegin_32 : decode (zb m_Ft_canBegin) 32 = .ok (.invokevirtual 169, 3) := by decide +kernel
theorem d_Ft_canBegin_35 : decode (zb m_Ft_canBegin) 35 = .ok (.ifCond .ne 5, 3) := by decide +kernel
theorem d_Ft_canBegin_38 : decode (zb m_Ft_canBegin) 38 = .ok (.iconst 0, 1) := by decide +kernel
theorem d_Ft_canBegin_39 : decode (zb m_Ft_canBegin) 39 = .ok (.ireturn, 1) := by decide +kernel
theorem d_Ft_canBegin_40 : decode (zb m_Ft_canBegin) 40 = .ok (.iinc 2 1, 3) := by decide +kernel
theorem d_Ft_canBegin_43 : decode (zb m_Ft_canBegin) 43 = .ok (.goto (-41), 3) := by decide +kernel
theorem d_Ft_canBegin_46 : decode (zb m_Ft_canBegin) 46 = .ok (.iconst 1, 1) := by decide +kernel
theorem d_Ft_canBegin_47 : decode (zb m_Ft_canBegin) 47 = .ok (.ireturn, 1) := by decide +kernel
theorem d_Ft_cutTarget_0 : decode (zb m_Ft_cutTarget) 0 = .ok (.iload_n 1, 1) := by decide +kernel
theorem d_Ft_cutTarget_1 : decode (zb m_Ft_cutTarget) 1 = .ok (.istore 4, 2) := by decide +kernel
theorem d_Ft_cutTarget_3 : decode (zb m_Ft_cutTarget) 3 = .ok (.iconst 1, 1) := by decide +kernel
theorem d_Ft_cutTarget_4 : decode (zb m_Ft_cutTarget) 4 = .ok (.istore 5, 2) := by decide +kernel
theorem d_Ft_cutTarget_6 : decode (zb m_Ft_cutTarget) 6 = .ok (.iconst 0, 1) := by decide +kernel
theorem d_Ft_cutTarget_7 : decode (zb m_Ft_cutTarget) 7 = .ok (.istore 6, 2) := by decide +kernel
theorem d_Ft_cutTarget_9 : decode (zb m_Ft_cutTarget) 9 = .ok (.iload 6, 2) := by decide +kernel
theorem d_Ft_cutTarget_11 : decode (zb m_Ft_cutTarget) 11 = .ok (.aload_n 0, 1) := by decide +kernel
theorem d_Ft_cutTarget_12 : decode (zb m_Ft_cutTarget) 12 = .ok (.getfield 47, 3) := by decide +kernel
theorem d_Ft_cutTarget_15 : decode (zb m_Ft_cutTarget) 15 = .ok (.if_icmp .ge 55, 3) := by decide +kernel
theorem d_Ft_cutTarget_18 : decode (zb m_Ft_cutTarget) 18 = .ok (.aload_n 0, 1) := by decide +kernel
theorem d_Ft_cutTarget_19 : decode (zb m_Ft_cutTarget) 19 = .ok (.getfield 13, 3) := by decide +kernel
theorem d_Ft_cutTarget_22 : decode (zb m_Ft_cutTarget) 22 = .ok (.iload 6, 2) := by decide +kernel
theorem d_Ft_cutTarget_24 : decode (zb m_Ft_cutTarget) 24 = .ok (.aaload, 1) := by decide +kernel
theorem d_Ft_cutTarget_25 : decode (zb m_Ft_cutTarget) 25 = .ok (.iload_n 2, 1) := by decide +kernel
theorem d_Ft_cutTarget_26 : decode (zb m_Ft_cutTarget) 26 = .ok (.iload_n 3, 1) := by decide +kernel
theorem d_Ft_cutTarget_27 : decode (zb m_Ft_cutTarget) 27 = .ok (.aload_n 0, 1) := by decide +kernel
theorem d_Ft_cutTarget_28 : decode (zb m_Ft_cutTarget) 28 = .ok (.getfield 17, 3) := by decide +kernel
theorem d_Ft_cutTarget_31 : decode (zb m_Ft_cutTarget) 31 = .ok (.iload 6, 2) := by decide +kernel
theorem d_Ft_cutTarget_33 : decode (zb m_Ft_cutTarget) 33 = .ok (.iaload, 1) := by decide +kernel
theorem d_Ft_cutTarget_34 : decode (zb m_Ft_cutTarget) 34 = .ok (.invokevirtual 172, 3) := by decide +kernel
theorem d_Ft_cutTarget_37 : decode (zb m_Ft_cutTarget) 37 = .ok (.istore 7, 2) := by decide +kernel
theorem d_Ft_cutTarget_39 : decode (zb m_Ft_cutTarget) 39 = .ok (.iload 7, 2) := by decide +kernel
theorem d_Ft_cutTarget_41 : decode (zb m_Ft_cutTarget) 41 = .ok (.ifCond .ne 6, 3) := by decide +kernel
theorem d_Ft_cutTarget_44 : decode (zb m_Ft_cutTarget) 44 = .ok (.bipush (-6), 2) := by decide +kernel
theorem d_Ft_cutTarget_46 : decode (zb m_Ft_cutTarget) 46 = .ok (.ireturn, 1) := by decide +kernel
theorem d_Ft_cutTarget_47 : decode (zb m_Ft_cutTarget) 47 = .ok (.iload 4, 2) := by decide +kernel
theorem d_Ft_cutTarget_49 : decode (zb m_Ft_cutTarget) 49 = .ok (.iload 7, 2) := by decide +kernel
theorem d_Ft_cutTarget_51 : decode (zb m_Ft_cutTarget) 51 = .ok (.iload 5, 2) := by decide +kernel
theorem d_Ft_cutTarget_53 : decode (zb m_Ft_cutTarget) 53 = .ok (.imul, 1) := by decide +kernel
theorem d_Ft_cutTarget_54 : decode (zb m_Ft_cutTarget) 54 = .ok (.iadd, 1) := by decide +kernel
theorem d_Ft_cutTarget_55 : decode (zb m_Ft_cutTarget) 55 = .ok (.istore 4, 2) := by decide +kernel
theorem d_Ft_cutTarget_57 : decode (zb m_Ft_cutTarget) 57 = .ok (.iload 5, 2) := by decide +kernel
theorem d_Ft_cutTarget_59 : decode (zb m_Ft_cutTarget) 59 = .ok (.bipush 6, 2) := by decide +kernel
theorem d_Ft_cutTarget_61 : decode (zb m_Ft_cutTarget) 61 = .ok (.imul, 1) := by decide +kernel
theorem d_Ft_cutTarget_62 : decode (zb m_Ft_cutTarget) 62 = .ok (.istore 5, 2) := by decide +kernel
theorem d_Ft_cutTarget_64 : decode (zb m_Ft_cutTarget) 64 = .ok (.iinc 6 1, 3) := by decide +kernel
theorem d_Ft_cutTarget_67 : decode (zb m_Ft_cutTarget) 67 = .ok (.goto (-58), 3) := by decide +kernel
theorem d_Ft_cutTarget_70 : decode (zb m_Ft_cutTarget) 70 = .ok (.iload 4, 2) := by decide +kernel
theorem d_Ft_cutTarget_72 : decode (zb m_Ft_cutTarget) 72 = .ok (.ireturn, 1) := by decide +kernel
theorem d_Ft_textTarget_0 : decode (zb m_Ft_textTarget) 0 = .ok (.iload_n 1, 1) := by decide +kernel
theorem d_Ft_textTarget_1 : decode (zb m_Ft_textTarget) 1 = .ok (.istore_n 3, 1) := by decide +kernel
theorem d_Ft_textTarget_2 : decode (zb m_Ft_textTarget) 2 = .ok (.iconst 1, 1) := by decide +kernel
theorem d_Ft_textTarget_3 : decode (zb m_Ft_textTarget) 3 = .ok (.istore 4, 2) := by decide +kernel
theorem d_Ft_textTarget_5 : decode (zb m_Ft_textTarget) 5 = .ok (.iconst 0, 1) := by decide +kernel
theorem d_Ft_textTarget_6 : decode (zb m_Ft_textTarget) 6 = .ok (.istore 5, 2) := by decide +kernel
theorem d_Ft_textTarget_8 : decode (zb m_Ft_textTarget) 8 = .ok (.iload 5, 2) := by decide +kernel
theorem d_Ft_textTarget_10 : decode (zb m_Ft_textTarget) 10 = .ok (.aload_n 0, 1) := by decide +kernel
theorem d_Ft_textTarget_11 : decode (zb m_Ft_textTarget) 11 = .ok (.getfield 47, 3) := by decide +kernel
theorem d_Ft_textTarget_14 : decode (zb m_Ft_textTarget) 14 = .ok (.if_icmp .ge 23, 3) := by decide +kernel
theorem d_Ft_textTarget_17 : decode (zb m_Ft_textTarget) 17 = .ok (.iload_n 3, 1) := by decide +kernel
theorem d_Ft_textTarget_18 : decode (zb m_Ft_textTarget) 18 = .ok (.iload_n 2, 1) := by decide +kernel
theorem d_Ft_textTarget_19 : decode (zb m_Ft_textTarget) 19 = .ok (.iload 4, 2) := by decide +kernel
theorem d_Ft_textTarget_21 : decode (zb m_Ft_textTarget) 21 = .ok (.imul, 1) := by decide +kernel
theorem d_Ft_textTarget_22 : decode (zb m_Ft_textTarget) 22 = .ok (.iadd, 1) := by decide +kernel
theorem d_Ft_textTarget_23 : decode (zb m_Ft_textTarget) 23 = .ok (.istore_n 3, 1) := by decide +kernel
theorem d_Ft_textTarget_24 : decode (zb m_Ft_textTarget) 24 = .ok (.iload 4, 2) := by decide +kernel
theorem d_Ft_textTarget_26 : decode (zb m_Ft_textTarget) 26 = .ok (.bipush 6, 2) := by decide +kernel
theorem d_Ft_textTarget_28 : decode (zb m_Ft_textTarget) 28 = .ok (.imul, 1) := by decide +kernel
theorem d_Ft_textTarget_29 : decode (zb m_Ft_textTarget) 29 = .ok (.istore 4, 2) := by decide +kernel
theorem d_Ft_textTarget_31 : decode (zb m_Ft_textTarget) 31 = .ok (.iinc 5 1, 3) := by decide +kernel
theorem d_Ft_textTarget_34 : decode (zb m_Ft_textTarget) 34 = .ok (.goto (-26), 3) := by decide +kernel
theorem d_Ft_textTarget_37 : decode (zb m_Ft_textTarget) 37 = .ok (.iload_n 3, 1) := by decide +kernel
theorem d_Ft_textTarget_38 : decode (zb m_Ft_textTarget) 38 = .ok (.ireturn, 1) := by decide +kernel
theorem d_Ft_longestText_0 : decode (zb m_Ft_longestText) 0 = .ok (.iconst 0, 1) := by decide +kernel
theorem d_Ft_longestText_1 : decode (zb m_Ft_longestText) 1 = .ok (.istore_n 1, 1) := by decide +kernel
theorem d_Ft_longestText_2 : decode (zb m_Ft_longestText) 2 = .ok (.iload_n 1, 1) := by decide +kernel
theorem d_Ft_longestText_3 : decode (zb m_Ft_longestText) 3 = .ok (.iconst 5, 1) := by decide +kernel
theorem d_Ft_longestText_4 : decode (zb m_Ft_longestText) 4 = .ok (.if_icmp .ge 17, 3) := by decide +kernel
theorem d_Ft_longestText_7 : decode (zb m_Ft_longestText) 7 = .ok (.aload_n 0, 1) := by decide +kernel
theorem d_Ft_longestText_8 : decode (zb m_Ft_longestText) 8 = .ok (.iload_n 1, 1) := by decide +kernel
theorem d_Ft_longestText_9 : decode (zb m_Ft_longestText) 9 = .ok (.invokevirtual 175, 3) := by decide +kernel
theorem d_Ft_longestText_12 : decode (zb m_Ft_longestText) 12 = .ok (.ifCond .eq 9, 3) := by decide +kernel
theorem d_Ft_longestText_15 : decode (zb m_Ft_longestText) 15 = .ok (.iinc 1 1, 3) := by decide +kernel
theorem d_Ft_longestText_18 : decode (zb m_Ft_longestText) 18 = .ok (.goto (-16), 3) := by decide +kernel
theorem d_Ft_longestText_21 : decode (zb m_Ft_longestText) 21 = .ok (.iload_n 1, 1) := by decide +kernel
theorem d_Ft_longestText_22 : decode (zb m_Ft_longestText) 22 = .ok (.ireturn, 1) := by decide +kernel
theorem d_Ft_isNextInAll_0 : decode (zb m_Ft_isNextInAll) 0 = .ok (.aload_n 0, 1) := by decide +kernel
theorem d_Ft_isNextInAll_1 : decode (zb m_Ft_isNextInAll) 1 = .ok (.getfield 13, 3) := by decide +kernel
theorem d_Ft_isNextInAll_4 : decode (zb m_Ft_isNextInAll) 4 = .ok (.iconst 0, 1) := by decide +kernel
theorem d_Ft_isNextInAll_5 : decode (zb m_Ft_isNextInAll) 5 = .ok (.aaload, 1) := by decide +kernel
theorem d_Ft_isNextInAll_6 : decode (zb m_Ft_isNextInAll) 6 = .ok (.invokevirtual 135, 3) := by decide +kernel
theorem d_Ft_isNextInAll_9 : decode (zb m_Ft_isNextInAll) 9 = .ok (.aload_n 0, 1) := by decide +kernel
theorem d_Ft_isNextInAll_10 : decode (zb m_Ft_isNextInAll) 10 = .ok (.getfield 17, 3) := by decide +kernel
theorem d_Ft_isNextInAll_13 : decode (zb m_Ft_isNextInAll) 13 = .ok (.iconst 0, 1) := by decide +kernel
theorem d_Ft_isNextInAll_14 : decode (zb m_Ft_isNextInAll) 14 = .ok (.iaload, 1) := by decide +kernel
theorem d_Ft_isNextInAll_15 : decode (zb m_Ft_isNextInAll) 15 = .ok (.iload_n 1, 1) := by decide +kernel
theorem d_Ft_isNextInAll_16 : decode (zb m_Ft_isNextInAll) 16 = .ok (.iadd, 1) := by decide +kernel
theorem d_Ft_isNextInAll_17 : decode (zb m_Ft_isNextInAll) 17 = .ok (.invokevirtual 178, 3) := by decide +kernel
theorem d_Ft_isNextInAll_20 : decode (zb m_Ft_isNextInAll) 20 = .ok (.istore_n 2, 1) := by decide +kernel
theorem d_Ft_isNextInAll_21 : decode (zb m_Ft_isNextInAll) 21 = .ok (.iconst 0, 1) := by decide +kernel
theorem d_Ft_isNextInAll_22 : decode (zb m_Ft_isNextInAll) 22 = .ok (.istore_n 3, 1) := by decide +kernel
theorem d_Ft_isNextInAll_23 : decode (zb m_Ft_isNextInAll) 23 = .ok (.iload_n 3, 1) := by decide +kernel
theorem d_Ft_isNextInAll_24 : decode (zb m_Ft_isNextInAll) 24 = .ok (.aload_n 0, 1) := by decide +kernel
theorem d_Ft_isNextInAll_25 : decode (zb m_Ft_isNextInAll) 25 = .ok (.getfield 47, 3) := by decide +kernel
theorem d_Ft_isNextInAll_28 : decode (zb m_Ft_isNextInAll) 28 = .ok (.if_icmp .ge 35, 3) := by decide +kernel
theorem d_Ft_isNextInAll_31 : decode (zb m_Ft_isNextInAll) 31 = .ok (.aload_n 0, 1) := by decide +kernel
theorem d_Ft_isNextInAll_32 : decode (zb m_Ft_isNextInAll) 32 = .ok (.getfield 13, 3) := by decide +kernel
theorem d_Ft_isNextInAll_35 : decode (zb m_Ft_isNextInAll) 35 = .ok (.iload_n 3, 1) := by decide +kernel
theorem d_Ft_isNextInAll_36 : decode (zb m_Ft_isNextInAll) 36 = .ok (.aaload, 1) := by decide +kernel
theorem d_Ft_isNextInAll_37 : decode (zb m_Ft_isNextInAll) 37 = .ok (.invokevirtual 135, 3) := by decide +kernel
theorem d_Ft_isNextInAll_40 : decode (zb m_Ft_isNextInAll) 40 = .ok (.aload_n 0, 1) := by decide +kernel
theorem d_Ft_isNextInAll_41 : decode (zb m_Ft_isNextInAll) 41 = .ok (.getfield 17, 3) := by decide +kernel
theorem d_Ft_isNextInAll_44 : decode (zb m_Ft_isNextInAll) 44 = .ok (.iload_n 3, 1) := by decide +kernel
theorem d_Ft_isNextInAll_45 : decode (zb m_Ft_isNextInAll) 45 = .ok (.iaload, 1) := by decide +kernel
theorem d_Ft_isNextInAll_46 : decode (zb m_Ft_isNextInAll) 46 = .ok (.iload_n 1, 1) := by decide +kernel
theorem d_Ft_isNextInAll_47 : decode (zb m_Ft_isNextInAll) 47 = .ok (.iadd, 1) := by decide +kernel
theorem d_Ft_isNextInAll_48 : decode (zb m_Ft_isNextInAll) 48 = .ok (.invokevirtual 178, 3) := by decide +kernel
theorem d_Ft_isNextInAll_51 : decode (zb m_Ft_isNextInAll) 51 = .ok (.iload_n 2, 1) := by decide +kernel
theorem d_Ft_isNextInAll_52 : decode (zb m_Ft_isNextInAll) 52 = .ok (.if_icmp .eq 5, 3) := by decide +kernel
theorem d_Ft_isNextInAll_55 : decode (zb m_Ft_isNextInAll) 55 = .ok (.iconst 0, 1) := by decide +kernel
theorem d_Ft_isNextInAll_56 : decode (zb m_Ft_isNextInAll) 56 = .ok (.ireturn, 1) := by decide +kernel
theorem d_Ft_isNextInAll_57 : decode (zb m_Ft_isNextInAll) 57 = .ok (.iinc 3 1, 3) := by decide +kernel
theorem d_Ft_isNextInAll_60 : decode (zb m_Ft_isNextInAll) 60 = .ok (.goto (-37), 3) := by decide +kernel
theorem d_Ft_isNextInAll_63 : decode (zb m_Ft_isNextInAll) 63 = .ok (.iload_n 2, 1) := by decide +kernel
theorem d_Ft_isNextInAll_64 : decode (zb m_Ft_isNextInAll) 64 = .ok (.ifCond .eq 7, 3) := by decide +kernel
theorem d_Ft_isNextInAll_67 : decode (zb m_Ft_isNextInAll) 67 = .ok (.iconst 1, 1) := by decide +kernel
theorem d_Ft_isNextInAll_68 : decode (zb m_Ft_isNextInAll) 68 = .ok (.goto 4, 3) := by decide +kernel
theorem d_Ft_isNextInAll_71 : decode (zb m_Ft_isNextInAll) 71 = .ok (.iconst 0, 1) := by decide +kernel
theorem d_Ft_isNextInAll_72 : decode (zb m_Ft_isNextInAll) 72 = .ok (.ireturn, 1) := by decide +kernel
theorem d_Ft_lastState_0 : decode (zb m_Ft_lastState) 0 = .ok (.iconst 0, 1) := by decide +kernel
theorem d_Ft_lastState_1 : decode (zb m_Ft_lastState) 1 = .ok (.istore_n 1, 1) := by decide +kernel
theorem d_Ft_lastState_2 : decode (zb m_Ft_lastState) 2 = .ok (.iconst 1, 1) := by decide +kernel
theorem d_Ft_lastState_3 : decode (zb m_Ft_lastState) 3 = .ok (.istore_n 2, 1) := by decide +kernel
theorem d_Ft_lastState_4 : decode (zb m_Ft_lastState) 4 = .ok (.iconst 0, 1) := by decide +kernel
theorem d_Ft_lastState_5 : decode (zb m_Ft_lastState) 5 = .ok (.istore_n 3, 1) := by decide +kernel
theorem d_Ft_lastState_6 : decode (zb m_Ft_lastState) 6 = .ok (.iload_n 3, 1) := by decide +kernel
theorem d_Ft_lastState_7 : decode (zb m_Ft_lastState) 7 = .ok (.aload_n 0, 1) := by decide +kernel
theorem d_Ft_lastState_8 : decode (zb m_Ft_lastState) 8 = .ok (.getfield 47, 3) := by decide +kernel
theorem d_Ft_lastState_11 : decode (zb m_Ft_lastState) 11 = .ok (.if_icmp .ge 31, 3) := by decide +kernel
theorem d_Ft_lastState_14 : decode (zb m_Ft_lastState) 14 = .ok (.iload_n 1, 1) := by decide +kernel
theorem d_Ft_lastState_15 : decode (zb m_Ft_lastState) 15 = .ok (.aload_n 0, 1) := by decide +kernel
theorem d_Ft_lastState_16 : decode (zb m_Ft_lastState) 16 = .ok (.getfield 13, 3) := by decide +kernel
theorem d_Ft_lastState_19 : decode (zb m_Ft_lastState) 19 = .ok (.iload_n 3, 1) := by decide +kernel
theorem d_Ft_lastState_20 : decode (zb m_Ft_lastState) 20 = .ok (.aaload, 1) := by decide +kernel
theorem d_Ft_lastState_21 : decode (zb m_Ft_lastState) 21 = .ok (.invokevirtual 135, 3) := by decide +kernel
theorem d_Ft_lastState_24 : decode (zb m_Ft_lastState) 24 = .ok (.invokevirtual 183, 3) := by decide +kernel
theorem d_Ft_lastState_27 : decode (zb m_Ft_lastState) 27 = .ok (.iload_n 2, 1) := by decide +kernel
theorem d_Ft_lastState_28 : decode (zb m_Ft_lastState) 28 = .ok (.imul, 1) := by decide +kernel
theorem d_Ft_lastState_29 : decode (zb m_Ft_lastState) 29 = .ok (.iadd, 1) := by decide +kernel
theorem d_Ft_lastState_30 : decode (zb m_Ft_lastState) 30 = .ok (.istore_n 1, 1) := by decide +kernel
theorem d_Ft_lastState_31 : decode (zb m_Ft_lastState) 31 = .ok (.iload_n 2, 1) := by decide +kernel
theorem d_Ft_lastState_32 : decode (zb m_Ft_lastState) 32 = .ok (.bipush 6, 2) := by decide +kernel
theorem d_Ft_lastState_34 : decode (zb m_Ft_lastState) 34 = .ok (.imul, 1) := by decide +kernel
theorem d_Ft_lastState_35 : decode (zb m_Ft_lastState) 35 = .ok (.istore_n 2, 1) := by decide +kernel
theorem d_Ft_lastState_36 : decode (zb m_Ft_lastState) 36 = .ok (.iinc 3 1, 3) := by decide +kernel
theorem d_Ft_lastState_39 : decode (zb m_Ft_lastState) 39 = .ok (.goto (-33), 3) := by decide +kernel
theorem d_Ft_lastState_42 : decode (zb m_Ft_lastState) 42 = .ok (.iload_n 1, 1) := by decide +kernel
theorem d_Ft_lastState_43 : decode (zb m_Ft_lastState) 43 = .ok (.ireturn, 1) := by decide +kernel
theorem d_Mk_index_0 : decode (zb m_Mk_index) 0 = .ok (.iload_n 0, 1) := by decide +kernel
theorem d_Mk_index_1 : decode (zb m_Mk_index) 1 = .ok (.sipush 200, 3) := by decide +kernel
theorem d_Mk_index_4 : decode (zb m_Mk_index) 4 = .ok (.if_icmp .lt 14, 3) := by decide +kernel
theorem d_Mk_index_7 : decode (zb m_Mk_index) 7 = .ok (.bipush 44, 2) := by decide +kernel
theorem d_Mk_index_9 : decode (zb m_Mk_index) 9 = .ok (.iload_n 0, 1) := by decide +kernel
theorem d_Mk_index_10 : decode (zb m_Mk_index) 10 = .ok (.sipush 200, 3) := by decide +kernel
theorem d_Mk_index_13 : decode (zb m_Mk_index) 13 = .ok (.isub, 1) := by decide +kernel
theorem d_Mk_index_14 : decode (zb m_Mk_index) 14 = .ok (.invokestatic 11, 3) := by decide +kernel
theorem d_Mk_index_17 : decode (zb m_Mk_index) 17 = .ok (.ireturn, 1) := by decide +kernel
theorem d_Mk_index_18 : decode (zb m_Mk_index) 18 = .ok (.iload_n 0, 1) := by decide +kernel
theorem d_Mk_index_19 : decode (zb m_Mk_index) 19 = .ok (.bipush 100, 2) := by decide +kernel
theorem d_Mk_index_21 : decode (zb m_Mk_index) 21 = .ok (.if_icmp .lt 13, 3) := by decide +kernel
theorem d_Mk_index_24 : decode (zb m_Mk_index) 24 = .ok (.bipush 26, 2) := by decide +kernel
theorem d_Mk_index_26 : decode (zb m_Mk_index) 26 = .ok (.iload_n 0, 1) := by decide +kernel
theorem d_Mk_index_27 : decode (zb m_Mk_index) 27 = .ok (.bipush 100, 2) := by decide +kernel
theorem d_Mk_index_29 : decode (zb m_Mk_index) 29 = .ok (.isub, 1) := by decide +kernel
theorem d_Mk_index_30 : decode (zb m_Mk_index) 30 = .ok (.invokestatic 11, 3) := by decide +kernel
theorem d_Mk_index_33 : decode (zb m_Mk_index) 33 = .ok (.ireturn, 1) := by decide +kernel
theorem d_Mk_index_34 : decode (zb m_Mk_index) 34 = .ok (.iload_n 0, 1) := by decide +kernel
theorem d_Mk_index_35 : decode (zb m_Mk_index) 35 = .ok (.bipush 20, 2) := by decide +kernel
theorem d_Mk_index_37 : decode (zb m_Mk_index) 37 = .ok (.if_icmp .lt 25, 3) := by decide +kernel
theorem d_Mk_index_40 : decode (zb m_Mk_index) 40 = .ok (.iload_n 0, 1) := by decide +kernel
theorem d_Mk_index_41 : decode (zb m_Mk_index) 41 = .ok (.bipush 20, 2) := by decide +kernel
theorem d_Mk_index_43 : decode (zb m_Mk_index) 43 = .ok (.isub, 1) := by decide +kernel
theorem d_Mk_index_44 : decode (zb m_Mk_index) 44 = .ok (.bipush 13, 2) := by decide +kernel
theorem d_Mk_index_46 : decode (zb m_Mk_index) 46 = .ok (.if_icmp .ge 13, 3) := by decide +kernel
theorem d_Mk_index_49 : decode (zb m_Mk_index) 49 = .ok (.bipush 13, 2) := by decide +kernel
theorem d_Mk_index_51 : decode (zb m_Mk_index) 51 = .ok (.iload_n 0, 1) := by decide +kernel
theorem d_Mk_index_52 : decode (zb m_Mk_index) 52 = .ok (.iadd, 1) := by decide +kernel
theorem d_Mk_index_53 : decode (zb m_Mk_index) 53 = .ok (.bipush 20, 2) := by decide +kernel
theorem d_Mk_index_55 : decode (zb m_Mk_index) 55 = .ok (.isub, 1) := by decide +kernel
theorem d_Mk_index_56 : decode (zb m_Mk_index) 56 = .ok (.goto 5, 3) := by decide +kernel
theorem d_Mk_index_59 : decode (zb m_Mk_index) 59 = .ok (.bipush (-6), 2) := by decide +kernel
theorem d_Mk_index_61 : decode (zb m_Mk_index) 61 = .ok (.ireturn, 1) := by decide +kernel
theorem d_Mk_index_62 : decode (zb m_Mk_index) 62 = .ok (.iload_n 0, 1) := by decide +kernel
theorem d_Mk_index_63 : decode (zb m_Mk_index) 63 = .ok (.ifCond .lt 13, 3) := by decide +kernel
theorem d_Mk_index_66 : decode (zb m_Mk_index) 66 = .ok (.iload_n 0, 1) := by decide +kernel
theorem d_Mk_index_67 : decode (zb m_Mk_index) 67 = .ok (.bipush 13, 2) := by decide +kernel
theorem d_Mk_index_69 : decode (zb m_Mk_index) 69 = .ok (.if_icmp .ge 7, 3) := by decide +kernel
theorem d_Mk_index_72 : decode (zb m_Mk_index) 72 = .ok (.iload_n 0, 1) := by decide +kernel
theorem d_Mk_index_73 : decode (zb m_Mk_index) 73 = .ok (.goto 5, 3) := by decide +kernel
theorem d_Mk_index_76 : decode (zb m_Mk_index) 76 = .ok (.bipush (-6), 2) := by decide +kernel
theorem d_Mk_index_78 : decode (zb m_Mk_index) 78 = .ok (.ireturn, 1) := by decide +kernel
theorem d_Mk_runIndex_0 : decode (zb m_Mk_runIndex) 0 = .ok (.iload_n 1, 1) := by decide +kernel
theorem d_Mk_runIndex_1 : decode (zb m_Mk_runIndex) 1 = .ok (.bipush 20, 2) := by decide +kernel
theorem d_Mk_runIndex_3 : decode (zb m_Mk_runIndex) 3 = .ok (.idiv, 1) := by decide +kernel
theorem d_Mk_runIndex_4 : decode (zb m_Mk_runIndex) 4 = .ok (.istore_n 2, 1) := by decide +kernel
theorem d_Mk_runIndex_5 : decode (zb m_Mk_runIndex) 5 = .ok (.iload_n 1, 1) := by decide +kernel
theorem d_Mk_runIndex_6 : decode (zb m_Mk_runIndex) 6 = .ok (.bipush 20, 2) := by decide +kernel
theorem d_Mk_runIndex_8 : decode (zb m_Mk_runIndex) 8 = .ok (.irem, 1) := by decide +kernel
theorem d_Mk_runIndex_9 : decode (zb m_Mk_runIndex) 9 = .ok (.iconst 3, 1) := by decide +kernel
theorem d_Mk_runIndex_10 : decode (zb m_Mk_runIndex) 10 = .ok (.isub, 1) := by decide +kernel
theorem d_Mk_runIndex_11 : decode (zb m_Mk_runIndex) 11 = .ok (.istore_n 3, 1) := by decide +kernel
theorem d_Mk_runIndex_12 : decode (zb m_Mk_runIndex) 12 = .ok (.iload_n 2, 1) := by decide +kernel
theorem d_Mk_runIndex_13 : decode (zb m_Mk_runIndex) 13 = .ok (.iconst 3, 1) := by decide +kernel
theorem d_Mk_runIndex_14 : decode (zb m_Mk_runIndex) 14 = .ok (.if_icmp .ge 12, 3) := by decide +kernel
theorem d_Mk_runIndex_17 : decode (zb m_Mk_runIndex) 17 = .ok (.iload_n 3, 1) := by decide +kernel
theorem d_Mk_runIndex_18 : decode (zb m_Mk_runIndex) 18 = .ok (.iconst 3, 1) := by decide +kernel
theorem d_Mk_runIndex_19 : decode (zb m_Mk_runIndex) 19 = .ok (.if_icmp .gt 7, 3) := by decide +kernel
theorem d_Mk_runIndex_22 : decode (zb m_Mk_runIndex) 22 = .ok (.iload_n 3, 1) := by decide +kernel
theorem d_Mk_runIndex_23 : decode (zb m_Mk_runIndex) 23 = .ok (.ifCond .ne 6, 3) := by decide +kernel
theorem d_Mk_runIndex_26 : decode (zb m_Mk_runIndex) 26 = .ok (.bipush (-6), 2) := by decide +kernel
theorem d_Mk_runIndex_28 : decode (zb m_Mk_runIndex) 28 = .ok (.ireturn, 1) := by decide +kernel
theorem d_Mk_runIndex_29 : decode (zb m_Mk_runIndex) 29 = .ok (.iload_n 0, 1) := by decide +kernel
theorem d_Mk_runIndex_30 : decode (zb m_Mk_runIndex) 30 = .ok (.iload_n 2, 1) := by decide +kernel
theorem d_Mk_runIndex_31 : decode (zb m_Mk_runIndex) 31 = .ok (.bipush 6, 2) := by decide +kernel
theorem d_Mk_runIndex_33 : decode (zb m_Mk_runIndex) 33 = .ok (.imul, 1) := by decide +kernel
theorem d_Mk_runIndex_34 : decode (zb m_Mk_runIndex) 34 = .ok (.iadd, 1) := by decide +kernel
theorem d_Mk_runIndex_35 : decode (zb m_Mk_runIndex) 35 = .ok (.iload_n 3, 1) := by decide +kernel
theorem d_Mk_runIndex_36 : decode (zb m_Mk_runIndex) 36 = .ok (.ifCond .ge 9, 3) := by decide +kernel
theorem d_Mk_runIndex_39 : decode (zb m_Mk_runIndex) 39 = .ok (.iload_n 3, 1) := by decide +kernel
theorem d_Mk_runIndex_40 : decode (zb m_Mk_runIndex) 40 = .ok (.iconst 3, 1) := by decide +kernel
theorem d_Mk_runIndex_41 : decode (zb m_Mk_runIndex) 41 = .ok (.iadd, 1) := by decide +kernel
theorem d_Mk_runIndex_42 : decode (zb m_Mk_runIndex) 42 = .ok (.goto 6, 3) := by decide +kernel
theorem d_Mk_runIndex_45 : decode (zb m_Mk_runIndex) 45 = .ok (.iload_n 3, 1) := by decide +kernel
theorem d_Mk_runIndex_46 : decode (zb m_Mk_runIndex) 46 = .ok (.iconst 2, 1) := by decide +kernel
theorem d_Mk_runIndex_47 : decode (zb m_Mk_runIndex) 47 = .ok (.iadd, 1) := by decide +kernel
theorem d_Mk_runIndex_48 : decode (zb m_Mk_runIndex) 48 = .ok (.iadd, 1) := by decide +kernel
theorem d_Mk_runIndex_49 : decode (zb m_Mk_runIndex) 49 = .ok (.ireturn, 1) := by decide +kernel
theorem d_Mk_code_0 : decode (zb m_Mk_code) 0 = .ok (.iload_n 0, 1) := by decide +kernel
theorem d_Mk_code_1 : decode (zb m_Mk_code) 1 = .ok (.bipush 13, 2) := by decide +kernel
theorem d_Mk_code_3 : decode (zb m_Mk_code) 3 = .ok (.if_icmp .ge 5, 3) := by decide +kernel
theorem d_Mk_code_6 : decode (zb m_Mk_code) 6 = .ok (.iload_n 0, 1) := by decide +kernel
theorem d_Mk_code_7 : decode (zb m_Mk_code) 7 = .ok (.ireturn, 1) := by decide +kernel
theorem d_Mk_code_8 : decode (zb m_Mk_code) 8 = .ok (.iload_n 0, 1) := by decide +kernel
theorem d_Mk_code_9 : decode (zb m_Mk_code) 9 = .ok (.bipush 26, 2) := by decide +kernel
theorem d_Mk_code_11 : decode (zb m_Mk_code) 11 = .ok (.if_icmp .ge 11, 3) := by decide +kernel
theorem d_Mk_code_14 : decode (zb m_Mk_code) 14 = .ok (.bipush 20, 2) := by decide +kernel
theorem d_Mk_code_16 : decode (zb m_Mk_code) 16 = .ok (.iload_n 0, 1) := by decide +kernel
theorem d_Mk_code_17 : decode (zb m_Mk_code) 17 = .ok (.iadd, 1) := by decide +kernel
theorem d_Mk_code_18 : decode (zb m_Mk_code) 18 = .ok (.bipush 13, 2) := by decide +kernel
theorem d_Mk_code_20 : decode (zb m_Mk_code) 20 = .ok (.isub, 1) := by decide +kernel
theorem d_Mk_code_21 : decode (zb m_Mk_code) 21 = .ok (.ireturn, 1) := by decide +kernel
theorem d_Mk_code_22 : decode (zb m_Mk_code) 22 = .ok (.iload_n 0, 1) := by decide +kernel
theorem d_Mk_code_23 : decode (zb m_Mk_code) 23 = .ok (.bipush 44, 2) := by decide +kernel
theorem d_Mk_code_25 : decode (zb m_Mk_code) 25 = .ok (.if_icmp .ge 8, 3) := by decide +kernel
theorem d_Mk_code_28 : decode (zb m_Mk_code) 28 = .ok (.bipush 100, 2) := by decide +kernel
theorem d_Mk_code_30 : decode (zb m_Mk_code) 30 = .ok (.goto 6, 3) := by decide +kernel
theorem d_Mk_code_33 : decode (zb m_Mk_code) 33 = .ok (.sipush 200, 3) := by decide +kernel
theorem d_Mk_code_36 : decode (zb m_Mk_code) 36 = .ok (.istore_n 1, 1) := by decide +kernel
theorem d_Mk_code_37 : decode (zb m_Mk_code) 37 = .ok (.iload_n 1, 1) := by decide +kernel
theorem d_Mk_code_38 : decode (zb m_Mk_code) 38 = .ok (.bipush 20, 2) := by decide +kernel
theorem d_Mk_code_40 : decode (zb m_Mk_code) 40 = .ok (.iload_n 0, 1) := by decide +kernel
theorem d_Mk_code_41 : decode (zb m_Mk_code) 41 = .ok (.invokestatic 15, 3) := by decide +kernel
theorem d_Mk_code_44 : decode (zb m_Mk_code) 44 = .ok (.imul, 1) := by decide +kernel
theorem d_Mk_code_45 : decode (zb m_Mk_code) 45 = .ok (.iadd, 1) := by decide +kernel
theorem d_Mk_code_46 : decode (zb m_Mk_code) 46 = .ok (.iload_n 0, 1) := by decide +kernel
theorem d_Mk_code_47 : decode (zb m_Mk_code) 47 = .ok (.invokestatic 19, 3) := by decide +kernel
theorem d_Mk_code_50 : decode (zb m_Mk_code) 50 = .ok (.iadd, 1) := by decide +kernel
theorem d_Mk_code_51 : decode (zb m_Mk_code) 51 = .ok (.iconst 3, 1) := by decide +kernel
theorem d_Mk_code_52 : decode (zb m_Mk_code) 52 = .ok (.iadd, 1) := by decide +kernel
theorem d_Mk_code_53 : decode (zb m_Mk_code) 53 = .ok (.ireturn, 1) := by decide +kernel
theorem d_Mk_price_0 : decode (zb m_Mk_price) 0 = .ok (.iload_n 0, 1) := by decide +kernel
theorem d_Mk_price_1 : decode (zb m_Mk_price) 1 = .ok (.bipush 26, 2) := by decide +kernel
theorem d_Mk_price_3 : decode (zb m_Mk_price) 3 = .ok (.if_icmp .ge 5, 3) := by decide +kernel
theorem d_Mk_price_6 : decode (zb m_Mk_price) 6 = .ok (.iconst 3, 1) := by decide +kernel
theorem d_Mk_price_7 : decode (zb m_Mk_price) 7 = .ok (.ireturn, 1) := by decide +kernel
theorem d_Mk_price_8 : decode (zb m_Mk_price) 8 = .ok (.iload_n 0, 1) := by decide +kernel
theorem d_Mk_price_9 : decode (zb m_Mk_price) 9 = .ok (.invokestatic 19, 3) := by decide +kernel
theorem d_Mk_price_12 : decode (zb m_Mk_price) 12 = .ok (.invokestatic 22, 3) := by decide +kernel
theorem d_Mk_price_15 : decode (zb m_Mk_price) 15 = .ok (.iconst 1, 1) := by decide +kernel
theorem d_Mk_price_16 : decode (zb m_Mk_price) 16 = .ok (.if_icmp .ne 7, 3) := by decide +kernel
theorem d_Mk_price_19 : decode (zb m_Mk_price) 19 = .ok (.iconst 1, 1) := by decide +kernel
theorem d_Mk_price_20 : decode (zb m_Mk_price) 20 = .ok (.goto 4, 3) := by decide +kernel
theorem d_Mk_price_23 : decode (zb m_Mk_price) 23 = .ok (.iconst 2, 1) := by decide +kernel
theorem d_Mk_price_24 : decode (zb m_Mk_price) 24 = .ok (.ireturn, 1) := by decide +kernel
theorem d_Mk_placeIn_0 : decode (zb m_Mk_placeIn) 0 = .ok (.iload_n 1, 1) := by decide +kernel
theorem d_Mk_placeIn_1 : decode (zb m_Mk_placeIn) 1 = .ok (.bipush 13, 2) := by decide +kernel
theorem d_Mk_placeIn_3 : decode (zb m_Mk_placeIn) 3 = .ok (.if_icmp .ge 18, 3) := by decide +kernel
theorem d_Mk_placeIn_6 : decode (zb m_Mk_placeIn) 6 = .ok (.iload_n 1, 1) := by decide +kernel
theorem d_Mk_placeIn_7 : decode (zb m_Mk_placeIn) 7 = .ok (.aload_n 0, 1) := by decide +kernel
theorem d_Mk_placeIn_8 : decode (zb m_Mk_placeIn) 8 = .ok (.invokevirtual 27, 3) := by decide +kernel
theorem d_Mk_placeIn_11 : decode (zb m_Mk_placeIn) 11 = .ok (.if_icmp .gt 7, 3) := by decide +kernel
theorem d_Mk_placeIn_14 : decode (zb m_Mk_placeIn) 14 = .ok (.iload_n 1, 1) := by decide +kernel
theorem d_Mk_placeIn_15 : decode (zb m_Mk_placeIn) 15 = .ok (.goto 5, 3) := by decide +kernel
theorem d_Mk_placeIn_18 : decode (zb m_Mk_placeIn) 18 = .ok (.bipush (-6), 2) := by decide +kernel
theorem d_Mk_placeIn_20 : decode (zb m_Mk_placeIn) 20 = .ok (.ireturn, 1) := by decide +kernel
theorem d_Mk_placeIn_21 : decode (zb m_Mk_placeIn) 21 = .ok (.iload_n 1, 1) := by decide +kernel
theorem d_Mk_placeIn_22 : decode (zb m_Mk_placeIn) 22 = .ok (.bipush 26, 2) := by decide +kernel
theorem d_Mk_placeIn_24 : decode (zb m_Mk_placeIn) 24 = .ok (.if_icmp .ge 28, 3) := by decide +kernel
theorem d_Mk_placeIn_27 : decode (zb m_Mk_placeIn) 27 = .ok (.iload_n 1, 1) := by decide +kernel
theorem d_Mk_placeIn_28 : decode (zb m_Mk_placeIn) 28 = .ok (.bipush 13, 2) := by decide +kernel
theorem d_Mk_placeIn_30 : decode (zb m_Mk_placeIn) 30 = .ok (.isub, 1) := by decide +kernel
theorem d_Mk_placeIn_31 : decode (zb m_Mk_placeIn) 31 = .ok (.istore_n 2, 1) := by decide +kernel
theorem d_Mk_placeIn_32 : decode (zb m_Mk_placeIn) 32 = .ok (.iload_n 2, 1) := by decide +kernel
theorem d_Mk_placeIn_33 : decode (zb m_Mk_placeIn) 33 = .ok (.aload_n 0, 1) := by decide +kernel
theorem d_Mk_placeIn_34 : decode (zb m_Mk_placeIn) 34 = .ok (.invokevirtual 27, 3) := by decide +kernel
theorem d_Mk_placeIn_37 : decode (zb m_Mk_placeIn) 37 = .ok (.if_icmp .gt 12, 3) := by decide +kernel
theorem d_Mk_placeIn_40 : decode (zb m_Mk_placeIn) 40 = .ok (.aload_n 0, 1) := by decide +kernel
theorem d_Mk_placeIn_41 : decode (zb m_Mk_placeIn) 41 = .ok (.invokevirtual 27, 3) := by decide +kernel
theorem d_Mk_placeIn_44 : decode (zb m_Mk_placeIn) 44 = .ok (.iload_n 2, 1) := by decide +kernel
theorem d_Mk_placeIn_45 : decode (zb m_Mk_placeIn) 45 = .ok (.isub, 1) := by decide +kernel
theorem d_Mk_placeIn_46 : decode (zb m_Mk_placeIn) 46 = .ok (.goto 5, 3) := by decide +kernel
theorem d_Mk_placeIn_49 : decode (zb m_Mk_placeIn) 49 = .ok (.bipush (-6), 2) := by decide +kernel
theorem d_Mk_placeIn_51 : decode (zb m_Mk_placeIn) 51 = .ok (.ireturn, 1) := by decide +kernel
theorem d_Mk_placeIn_52 : decode (zb m_Mk_placeIn) 52 = .ok (.aload_n 0, 1) := by decide +kernel
theorem d_Mk_placeIn_53 : decode (zb m_Mk_placeIn) 53 = .ok (.iload_n 1, 1) := by decide +kernel
theorem d_Mk_placeIn_54 : decode (zb m_Mk_placeIn) 54 = .ok (.invokestatic 15, 3) := by decide +kernel
theorem d_Mk_placeIn_57 : decode (zb m_Mk_placeIn) 57 = .ok (.iload_n 1, 1) := by decide +kernel
theorem d_Mk_placeIn_58 : decode (zb m_Mk_placeIn) 58 = .ok (.invokestatic 19, 3) := by decide +kernel
theorem d_Mk_placeIn_61 : decode (zb m_Mk_placeIn) 61 = .ok (.invokestatic 33, 3) := by decide +kernel
theorem d_Mk_placeIn_64 : decode (zb m_Mk_placeIn) 64 = .ok (.istore_n 2, 1) := by decide +kernel
theorem d_Mk_placeIn_65 : decode (zb m_Mk_placeIn) 65 = .ok (.iload_n 2, 1) := by decide +kernel
theorem d_Mk_placeIn_66 : decode (zb m_Mk_placeIn) 66 = .ok (.bipush (-6), 2) := by decide +kernel
theorem d_Mk_placeIn_68 : decode (zb m_Mk_placeIn) 68 = .ok (.if_icmp .eq 9, 3) := by decide +kernel
theorem d_Mk_placeIn_71 : decode (zb m_Mk_placeIn) 71 = .ok (.iload_n 1, 1) := by decide +kernel
theorem d_Mk_placeIn_72 : decode (zb m_Mk_placeIn) 72 = .ok (.bipush 44, 2) := by decide +kernel
theorem d_Mk_placeIn_74 : decode (zb m_Mk_placeIn) 74 = .ok (.if_icmp .ge 7, 3) := by decide +kernel
theorem d_Mk_placeIn_77 : decode (zb m_Mk_placeIn) 77 = .ok (.iload_n 2, 1) := by decide +kernel
theorem d_Mk_placeIn_78 : decode (zb m_Mk_placeIn) 78 = .ok (.goto 8, 3) := by decide +kernel
theorem d_Mk_placeIn_81 : decode (zb m_Mk_placeIn) 81 = .ok (.aload_n 0, 1) := by decide +kernel
theorem d_Mk_placeIn_82 : decode (zb m_Mk_placeIn) 82 = .ok (.iload_n 2, 1) := by decide +kernel
theorem d_Mk_placeIn_83 : decode (zb m_Mk_placeIn) 83 = .ok (.invokestatic 37, 3) := by decide +kernel
theorem d_Mk_placeIn_86 : decode (zb m_Mk_placeIn) 86 = .ok (.ireturn, 1) := by decide +kernel
theorem d_Mk_kind_0 : decode (zb m_Mk_kind) 0 = .ok (.iload_n 0, 1) := by decide +kernel
theorem d_Mk_kind_1 : decode (zb m_Mk_kind) 1 = .ok (.bipush 26, 2) := by decide +kernel
theorem d_Mk_kind_3 : decode (zb m_Mk_kind) 3 = .ok (.isub, 1) := by decide +kernel
theorem d_Mk_kind_4 : decode (zb m_Mk_kind) 4 = .ok (.bipush 18, 2) := by decide +kernel
theorem d_Mk_kind_6 : decode (zb m_Mk_kind) 6 = .ok (.irem, 1) := by decide +kernel
theorem d_Mk_kind_7 : decode (zb m_Mk_kind) 7 = .ok (.bipush 6, 2) := by decide +kernel
theorem d_Mk_kind_9 : decode (zb m_Mk_kind) 9 = .ok (.idiv, 1) := by decide +kernel
theorem d_Mk_kind_10 : decode (zb m_Mk_kind) 10 = .ok (.ireturn, 1) := by decide +kernel
theorem d_Mk_turn_0 : decode (zb m_Mk_turn) 0 = .ok (.iload_n 0, 1) := by decide +kernel
theorem d_Mk_turn_1 : decode (zb m_Mk_turn) 1 = .ok (.bipush 26, 2) := by decide +kernel
theorem d_Mk_turn_3 : decode (zb m_Mk_turn) 3 = .ok (.isub, 1) := by decide +kernel
theorem d_Mk_turn_4 : decode (zb m_Mk_turn) 4 = .ok (.bipush 6, 2) := by decide +kernel
theorem d_Mk_turn_6 : decode (zb m_Mk_turn) 6 = .ok (.irem, 1) := by decide +kernel
theorem d_Mk_turn_7 : decode (zb m_Mk_turn) 7 = .ok (.istore_n 1, 1) := by decide +kernel
theorem d_Mk_turn_8 : decode (zb m_Mk_turn) 8 = .ok (.iload_n 1, 1) := by decide +kernel
theorem d_Mk_turn_9 : decode (zb m_Mk_turn) 9 = .ok (.iconst 3, 1) := by decide +kernel
theorem d_Mk_turn_10 : decode (zb m_Mk_turn) 10 = .ok (.if_icmp .ge 9, 3) := by decide +kernel
theorem d_Mk_turn_13 : decode (zb m_Mk_turn) 13 = .ok (.iload_n 1, 1) := by decide +kernel
theorem d_Mk_turn_14 : decode (zb m_Mk_turn) 14 = .ok (.iconst 3, 1) := by decide +kernel
theorem d_Mk_turn_15 : decode (zb m_Mk_turn) 15 = .ok (.isub, 1) := by decide +kernel
theorem d_Mk_turn_16 : decode (zb m_Mk_turn) 16 = .ok (.goto 6, 3) := by decide +kernel
theorem d_Mk_turn_19 : decode (zb m_Mk_turn) 19 = .ok (.iload_n 1, 1) := by decide +kernel
theorem d_Mk_turn_20 : decode (zb m_Mk_turn) 20 = .ok (.iconst 2, 1) := by decide +kernel
theorem d_Mk_turn_21 : decode (zb m_Mk_turn) 21 = .ok (.isub, 1) := by decide +kernel
theorem d_Mk_turn_22 : decode (zb m_Mk_turn) 22 = .ok (.ireturn, 1) := by decide +kernel
theorem d_Mk_runBegin_0 : decode (zb m_Mk_runBegin) 0 = .ok (.iload_n 2, 1) := by decide +kernel
theorem d_Mk_runBegin_1 : decode (zb m_Mk_runBegin) 1 = .ok (.invokestatic 22, 3) := by decide +kernel
theorem d_Mk_runBegin_4 : decode (zb m_Mk_runBegin) 4 = .ok (.istore_n 3, 1) := by decide +kernel
theorem d_Mk_runBegin_5 : decode (zb m_Mk_runBegin) 5 = .ok (.iconst 0, 1) := by decide +kernel
theorem d_Mk_runBegin_6 : decode (zb m_Mk_runBegin) 6 = .ok (.istore 4, 2) := by decide +kernel
theorem d_Mk_runBegin_8 : decode (zb m_Mk_runBegin) 8 = .ok (.iload 4, 2) := by decide +kernel
theorem d_Mk_runBegin_10 : decode (zb m_Mk_runBegin) 10 = .ok (.aload_n 0, 1) := by decide +kernel
theorem d_Mk_runBegin_11 : decode (zb m_Mk_runBegin) 11 = .ok (.invokevirtual 27, 3) := by decide +kernel
theorem d_Mk_runBegin_14 : decode (zb m_Mk_runBegin) 14 = .ok (.if_icmp .ge 61, 3) := by decide +kernel
theorem d_Mk_runBegin_17 : decode (zb m_Mk_runBegin) 17 = .ok (.iload_n 2, 1) := by decide +kernel
theorem d_Mk_runBegin_18 : decode (zb m_Mk_runBegin) 18 = .ok (.ifCond .le 8, 3) := by decide +kernel
theorem d_Mk_runBegin_21 : decode (zb m_Mk_runBegin) 21 = .ok (.iload 4, 2) := by decide +kernel
theorem d_Mk_runBegin_23 : decode (zb m_Mk_runBegin) 23 = .ok (.goto 12, 3) := by decide +kernel
theorem d_Mk_runBegin_26 : decode (zb m_Mk_runBegin) 26 = .ok (.aload_n 0, 1) := by decide +kernel
theorem d_Mk_runBegin_27 : decode (zb m_Mk_runBegin) 27 = .ok (.invokevirtual 27, 3) := by decide +kernel
theorem d_Mk_runBegin_30 : decode (zb m_Mk_runBegin) 30 = .ok (.iconst 1, 1) := by decide +kernel
theorem d_Mk_runBegin_31 : decode (zb m_Mk_runBegin) 31 = .ok (.isub, 1) := by decide +kernel
theorem d_Mk_runBegin_32 : decode (zb m_Mk_runBegin) 32 = .ok (.iload 4, 2) := by decide +kernel
theorem d_Mk_runBegin_34 : decode (zb m_Mk_runBegin) 34 = .ok (.isub, 1) := by decide +kernel
theorem d_Mk_runBegin_35 : decode (zb m_Mk_runBegin) 35 = .ok (.istore 5, 2) := by decide +kernel
theorem d_Mk_runBegin_37 : decode (zb m_Mk_runBegin) 37 = .ok (.aload_n 0, 1) := by decide +kernel
theorem d_Mk_runBegin_38 : decode (zb m_Mk_runBegin) 38 = .ok (.iload 5, 2) := by decide +kernel
theorem d_Mk_runBegin_40 : decode (zb m_Mk_runBegin) 40 = .ok (.invokevirtual 41, 3) := by decide +kernel
theorem d_Mk_runBegin_43 : decode (zb m_Mk_runBegin) 43 = .ok (.iload_n 1, 1) := by decide +kernel
theorem d_Mk_runBegin_44 : decode (zb m_Mk_runBegin) 44 = .ok (.if_icmp .ne 25, 3) := by decide +kernel
theorem d_Mk_runBegin_47 : decode (zb m_Mk_runBegin) 47 = .ok (.aload_n 0, 1) := by decide +kernel
theorem d_Mk_runBegin_48 : decode (zb m_Mk_runBegin) 48 = .ok (.iload 5, 2) := by decide +kernel
theorem d_Mk_runBegin_50 : decode (zb m_Mk_runBegin) 50 = .ok (.iconst 1, 1) := by decide +kernel
theorem d_Mk_runBegin_51 : decode (zb m_Mk_runBegin) 51 = .ok (.isub, 1) := by decide +kernel
theorem d_Mk_runBegin_52 : decode (zb m_Mk_runBegin) 52 = .ok (.invokevirtual 41, 3) := by decide +kernel
theorem d_Mk_runBegin_55 : decode (zb m_Mk_runBegin) 55 = .ok (.iload_n 1, 1) := by decide +kernel
theorem d_Mk_runBegin_56 : decode (zb m_Mk_runBegin) 56 = .ok (.if_icmp .eq 13, 3) := by decide +kernel
theorem d_Mk_runBegin_59 : decode (zb m_Mk_runBegin) 59 = .ok (.iinc 3 (-1), 3) := by decide +kernel
theorem d_Mk_runBegin_62 : decode (zb m_Mk_runBegin) 62 = .ok (.iload_n 3, 1) := by decide +kernel
theorem d_Mk_runBegin_63 : decode (zb m_Mk_runBegin) 63 = .ok (.ifCond .ne 6, 3) := by decide +kernel
theorem d_Mk_runBegin_66 : decode (zb m_Mk_runBegin) 66 = .ok (.iload 5, 2) := by decide +kernel
theorem d_Mk_runBegin_68 : decode (zb m_Mk_runBegin) 68 = .ok (.ireturn, 1) := by decide +kernel
theorem d_Mk_runBegin_69 : decode (zb m_Mk_runBegin) 69 = .ok (.iinc 4 1, 3) := by decide +kernel
theorem d_Mk_runBegin_72 : decode (zb m_Mk_runBegin) 72 = .ok (.goto (-64), 3) := by decide +kernel
theorem d_Mk_runBegin_75 : decode (zb m_Mk_runBegin) 75 = .ok (.bipush (-6), 2) := by decide +kernel
theorem d_Mk_runBegin_77 : decode (zb m_Mk_runBegin) 77 = .ok (.ireturn, 1) := by decide +kernel
theorem d_Mk_runEnd_0 : decode (zb m_Mk_runEnd) 0 = .ok (.iload_n 1, 1) := by decide +kernel
theorem d_Mk_runEnd_1 : decode (zb m_Mk_runEnd) 1 = .ok (.iconst 1, 1) := by decide +kernel
theorem d_Mk_runEnd_2 : decode (zb m_Mk_runEnd) 2 = .ok (.iadd, 1) := by decide +kernel
theorem d_Mk_runEnd_3 : decode (zb m_Mk_runEnd) 3 = .ok (.istore_n 2, 1) := by decide +kernel
theorem d_Mk_runEnd_4 : decode (zb m_Mk_runEnd) 4 = .ok (.iload_n 2, 1) := by decide +kernel
theorem d_Mk_runEnd_5 : decode (zb m_Mk_runEnd) 5 = .ok (.aload_n 0, 1) := by decide +kernel
theorem d_Mk_runEnd_6 : decode (zb m_Mk_runEnd) 6 = .ok (.invokevirtual 27, 3) := by decide +kernel
theorem d_Mk_runEnd_9 : decode (zb m_Mk_runEnd) 9 = .ok (.if_icmp .ge 22, 3) := by decide +kernel
theorem d_Mk_runEnd_12 : decode (zb m_Mk_runEnd) 12 = .ok (.aload_n 0, 1) := by decide +kernel
theorem d_Mk_runEnd_13 : decode (zb m_Mk_runEnd) 13 = .ok (.iload_n 2, 1) := by decide +kernel
theorem d_Mk_runEnd_14 : decode (zb m_Mk_runEnd) 14 = .ok (.invokevirtual 41, 3) := by decide +kernel
theorem d_Mk_runEnd_17 : decode (zb m_Mk_runEnd) 17 = .ok (.aload_n 0, 1) := by decide +kernel
theorem d_Mk_runEnd_18 : decode (zb m_Mk_runEnd) 18 = .ok (.iload_n 1, 1) := by decide +kernel
theorem d_Mk_runEnd_19 : decode (zb m_Mk_runEnd) 19 = .ok (.invokevirtual 41, 3) := by decide +kernel
theorem d_Mk_runEnd_22 : decode (zb m_Mk_runEnd) 22 = .ok (.if_icmp .ne 9, 3) := by decide +kernel
theorem d_Mk_runEnd_25 : decode (zb m_Mk_runEnd) 25 = .ok (.iinc 2 1, 3) := by decide +kernel
theorem d_Mk_runEnd_28 : decode (zb m_Mk_runEnd) 28 = .ok (.goto (-24), 3) := by decide +kernel
theorem d_Mk_runEnd_31 : decode (zb m_Mk_runEnd) 31 = .ok (.iload_n 2, 1) := by decide +kernel
theorem d_Mk_runEnd_32 : decode (zb m_Mk_runEnd) 32 = .ok (.ireturn, 1) := by decide +kernel
theorem d_Mv_init_0 : decode (zb m_Mv_init) 0 = .ok (.aload_n 0, 1) := by decide +kernel
theorem d_Mv_init_1 : decode (zb m_Mv_init) 1 = .ok (.invokespecial 5, 3) := by decide +kernel
theorem d_Mv_init_4 : decode (zb m_Mv_init) 4 = .ok (.aload_n 0, 1) := by decide +kernel
theorem d_Mv_init_5 : decode (zb m_Mv_init) 5 = .ok (.sipush 3849, 3) := by decide +kernel
theorem d_Mv_init_8 : decode (zb m_Mv_init) 8 = .ok (.newarray .int, 2) := by decide +kernel
theorem d_Mv_init_10 : decode (zb m_Mv_init) 10 = .ok (.putfield 13, 3) := by decide +kernel
theorem d_Mv_init_13 : decode (zb m_Mv_init) 13 = .ok (.aload_n 0, 1) := by decide +kernel
theorem d_Mv_init_14 : decode (zb m_Mv_init) 14 = .ok (.sipush 3849, 3) := by decide +kernel
theorem d_Mv_init_17 : decode (zb m_Mv_init) 17 = .ok (.newarray .int, 2) := by decide +kernel
theorem d_Mv_init_19 : decode (zb m_Mv_init) 19 = .ok (.putfield 17, 3) := by decide +kernel
theorem d_Mv_init_22 : decode (zb m_Mv_init) 22 = .ok (.aload_n 0, 1) := by decide +kernel
theorem d_Mv_init_23 : decode (zb m_Mv_init) 23 = .ok (.sipush 3849, 3) := by decide +kernel
theorem d_Mv_init_26 : decode (zb m_Mv_init) 26 = .ok (.newarray .int, 2) := by decide +kernel
theorem d_Mv_init_28 : decode (zb m_Mv_init) 28 = .ok (.putfield 20, 3) := by decide +kernel
theorem d_Mv_init_31 : decode (zb m_Mv_init) 31 = .ok (.return_, 1) := by decide +kernel
theorem d_Mv_many_0 : decode (zb m_Mv_many) 0 = .ok (.aload_n 0, 1) := by decide +kernel
theorem d_Mv_many_1 : decode (zb m_Mv_many) 1 = .ok (.getfield 23, 3) := by decide +kernel
theorem d_Mv_many_4 : decode (zb m_Mv_many) 4 = .ok (.ireturn, 1) := by decide +kernel
theorem d_Mv_clear_0 : decode (zb m_Mv_clear) 0 = .ok (.aload_n 0, 1) := by decide +kernel
theorem d_Mv_clear_1 : decode (zb m_Mv_clear) 1 = .ok (.iconst 0, 1) := by decide +kernel
theorem d_Mv_clear_2 : decode (zb m_Mv_clear) 2 = .ok (.putfield 23, 3) := by decide +kernel
theorem d_Mv_clear_5 : decode (zb m_Mv_clear) 5 = .ok (.return_, 1) := by decide +kernel
theorem d_Mv_add_0 : decode (zb m_Mv_add) 0 = .ok (.aload_n 0, 1) := by decide +kernel
theorem d_Mv_add_1 : decode (zb m_Mv_add) 1 = .ok (.getfield 23, 3) := by decide +kernel
theorem d_Mv_add_4 : decode (zb m_Mv_add) 4 = .ok (.sipush 3849, 3) := by decide +kernel
theorem d_Mv_add_7 : decode (zb m_Mv_add) 7 = .ok (.if_icmp .ge 43, 3) := by decide +kernel
theorem d_Mv_add_10 : decode (zb m_Mv_add) 10 = .ok (.aload_n 0, 1) := by decide +kernel
theorem d_Mv_add_11 : decode (zb m_Mv_add) 11 = .ok (.getfield 13, 3) := by decide +kernel
theorem d_Mv_add_14 : decode (zb m_Mv_add) 14 = .ok (.aload_n 0, 1) := by decide +kernel
theorem d_Mv_add_15 : decode (zb m_Mv_add) 15 = .ok (.getfield 23, 3) := by decide +kernel
theorem d_Mv_add_18 : decode (zb m_Mv_add) 18 = .ok (.iload_n 1, 1) := by decide +kernel
theorem d_Mv_add_19 : decode (zb m_Mv_add) 19 = .ok (.iastore, 1) := by decide +kernel
theorem d_Mv_add_20 : decode (zb m_Mv_add) 20 = .ok (.aload_n 0, 1) := by decide +kernel
theorem d_Mv_add_21 : decode (zb m_Mv_add) 21 = .ok (.getfield 17, 3) := by decide +kernel
theorem d_Mv_add_24 : decode (zb m_Mv_add) 24 = .ok (.aload_n 0, 1) := by decide +kernel
theorem d_Mv_add_25 : decode (zb m_Mv_add) 25 = .ok (.getfield 23, 3) := by decide +kernel
theorem d_Mv_add_28 : decode (zb m_Mv_add) 28 = .ok (.iload_n 2, 1) := by decide +kernel
theorem d_Mv_add_29 : decode (zb m_Mv_add) 29 = .ok (.iastore, 1) := by decide +kernel
theorem d_Mv_add_30 : decode (zb m_Mv_add) 30 = .ok (.aload_n 0, 1) := by decide +kernel
theorem d_Mv_add_31 : decode (zb m_Mv_add) 31 = .ok (.getfield 20, 3) := by decide +kernel
theorem d_Mv_add_34 : decode (zb m_Mv_add) 34 = .ok (.aload_n 0, 1) := by decide +kernel
theorem d_Mv_add_35 : decode (zb m_Mv_add) 35 = .ok (.getfield 23, 3) := by decide +kernel
theorem d_Mv_add_38 : decode (zb m_Mv_add) 38 = .ok (.iload_n 3, 1) := by decide +kernel
theorem d_Mv_add_39 : decode (zb m_Mv_add) 39 = .ok (.iastore, 1) := by decide +kernel
theorem d_Mv_add_40 : decode (zb m_Mv_add) 40 = .ok (.aload_n 0, 1) := by decide +kernel
theorem d_Mv_add_41 : decode (zb m_Mv_add) 41 = .ok (.dup, 1) := by decide +kernel
theorem d_Mv_add_42 : decode (zb m_Mv_add) 42 = .ok (.getfield 23, 3) := by decide +kernel
theorem d_Mv_add_45 : decode (zb m_Mv_add) 45 = .ok (.iconst 1, 1) := by decide +kernel
theorem d_Mv_add_46 : decode (zb m_Mv_add) 46 = .ok (.iadd, 1) := by decide +kernel
theorem d_Mv_add_47 : decode (zb m_Mv_add) 47 = .ok (.putfield 23, 3) := by decide +kernel
theorem d_Mv_add_50 : decode (zb m_Mv_add) 50 = .ok (.return_, 1) := by decide +kernel
theorem d_Mv_target_0 : decode (zb m_Mv_target) 0 = .ok (.iload_n 1, 1) := by decide +kernel
theorem d_Mv_target_1 : decode (zb m_Mv_target) 1 = .ok (.ifCond .lt 19, 3) := by decide +kernel
theorem d_Mv_target_4 : decode (zb m_Mv_target) 4 = .ok (.iload_n 1, 1) := by decide +kernel
theorem d_Mv_target_5 : decode (zb m_Mv_target) 5 = .ok (.sipush 3849, 3) := by decide +kernel
theorem d_Mv_target_8 : decode (zb m_Mv_target) 8 = .ok (.if_icmp .ge 12, 3) := by decide +kernel
theorem d_Mv_target_11 : decode (zb m_Mv_target) 11 = .ok (.aload_n 0, 1) := by decide +kernel
theorem d_Mv_target_12 : decode (zb m_Mv_target) 12 = .ok (.getfield 13, 3) := by decide +kernel
theorem d_Mv_target_15 : decode (zb m_Mv_target) 15 = .ok (.iload_n 1, 1) := by decide +kernel
theorem d_Mv_target_16 : decode (zb m_Mv_target) 16 = .ok (.iaload, 1) := by decide +kernel
theorem d_Mv_target_17 : decode (zb m_Mv_target) 17 = .ok (.goto 4, 3) := by decide +kernel
theorem d_Mv_target_20 : decode (zb m_Mv_target) 20 = .ok (.iconst 0, 1) := by decide +kernel
theorem d_Mv_target_21 : decode (zb m_Mv_target) 21 = .ok (.ireturn, 1) := by decide +kernel
theorem d_Mv_pieces_0 : decode (zb m_Mv_pieces) 0 = .ok (.iload_n 1, 1) := by decide +kernel
theorem d_Mv_pieces_1 : decode (zb m_Mv_pieces) 1 = .ok (.ifCond .lt 19, 3) := by decide +kernel
theorem d_Mv_pieces_4 : decode (zb m_Mv_pieces) 4 = .ok (.iload_n 1, 1) := by decide +kernel
theorem d_Mv_pieces_5 : decode (zb m_Mv_pieces) 5 = .ok (.sipush 3849, 3) := by decide +kernel
theorem d_Mv_pieces_8 : decode (zb m_Mv_pieces) 8 = .ok (.if_icmp .ge 12, 3) := by decide +kernel
theorem d_Mv_pieces_11 : decode (zb m_Mv_pieces) 11 = .ok (.aload_n 0, 1) := by decide +kernel
theorem d_Mv_pieces_12 : decode (zb m_Mv_pieces) 12 = .ok (.getfield 17, 3) := by decide +kernel
theorem d_Mv_pieces_15 : decode (zb m_Mv_pieces) 15 = .ok (.iload_n 1, 1) := by decide +kernel
theorem d_Mv_pieces_16 : decode (zb m_Mv_pieces) 16 = .ok (.iaload, 1) := by decide +kernel
theorem d_Mv_pieces_17 : decode (zb m_Mv_pieces) 17 = .ok (.goto 4, 3) := by decide +kernel
theorem d_Mv_pieces_20 : decode (zb m_Mv_pieces) 20 = .ok (.iconst 0, 1) := by decide +kernel
theorem d_Mv_pieces_21 : decode (zb m_Mv_pieces) 21 = .ok (.ireturn, 1) := by decide +kernel
theorem d_Mv_price_0 : decode (zb m_Mv_price) 0 = .ok (.iload_n 1, 1) := by decide +kernel
theorem d_Mv_price_1 : decode (zb m_Mv_price) 1 = .ok (.ifCond .lt 19, 3) := by decide +kernel
theorem d_Mv_price_4 : decode (zb m_Mv_price) 4 = .ok (.iload_n 1, 1) := by decide +kernel
theorem d_Mv_price_5 : decode (zb m_Mv_price) 5 = .ok (.sipush 3849, 3) := by decide +kernel
theorem d_Mv_price_8 : decode (zb m_Mv_price) 8 = .ok (.if_icmp .ge 12, 3) := by decide +kernel
theorem d_Mv_price_11 : decode (zb m_Mv_price) 11 = .ok (.aload_n 0, 1) := by decide +kernel
theorem d_Mv_price_12 : decode (zb m_Mv_price) 12 = .ok (.getfield 20, 3) := by decide +kernel
theorem d_Mv_price_15 : decode (zb m_Mv_price) 15 = .ok (.iload_n 1, 1) := by decide +kernel
theorem d_Mv_price_16 : decode (zb m_Mv_price) 16 = .ok (.iaload, 1) := by decide +kernel
theorem d_Mv_price_17 : decode (zb m_Mv_price) 17 = .ok (.goto 4, 3) := by decide +kernel
theorem d_Mv_price_20 : decode (zb m_Mv_price) 20 = .ok (.iconst 0, 1) := by decide +kernel
theorem d_Mv_price_21 : decode (zb m_Mv_price) 21 = .ok (.ireturn, 1) := by decide +kernel
theorem d_Pc_init_0 : decode (zb m_Pc_init) 0 = .ok (.aload_n 0, 1) := by decide +kernel
theorem d_Pc_init_1 : decode (zb m_Pc_init) 1 = .ok (.invokespecial 3, 3) := by decide +kernel
theorem d_Pc_init_4 : decode (zb m_Pc_init) 4 = .ok (.aload_n 0, 1) := by decide +kernel
theorem d_Pc_init_5 : decode (zb m_Pc_init) 5 = .ok (.new 9, 3) := by decide +kernel
theorem d_Pc_init_8 : decode (zb m_Pc_init) 8 = .ok (.dup, 1) := by decide +kernel
theorem d_Pc_init_9 : decode (zb m_Pc_init) 9 = .ok (.iconst 5, 1) := by decide +kernel
theorem d_Pc_init_10 : decode (zb m_Pc_init) 10 = .ok (.invokespecial 11, 3) := by decide +kernel
theorem d_Pc_init_13 : decode (zb m_Pc_init) 13 = .ok (.putfield 14, 3) := by decide +kernel
theorem d_Pc_init_16 : decode (zb m_Pc_init) 16 = .ok (.return_, 1) := by decide +kernel
theorem d_Pc_becomeCut_0 : decode (zb m_Pc_becomeCut) 0 = .ok (.aload_n 0, 1) := by decide +kernel
theorem d_Pc_becomeCut_1 : decode (zb m_Pc_becomeCut) 1 = .ok (.iconst 0, 1) := by decide +kernel
theorem d_Pc_becomeCut_2 : decode (zb m_Pc_becomeCut) 2 = .ok (.putfield 20, 3) := by decide +kernel
theorem d_Pc_becomeCut_5 : decode (zb m_Pc_becomeCut) 5 = .ok (.aload_n 0, 1) := by decide +kernel
theorem d_Pc_becomeCut_6 : decode (zb m_Pc_becomeCut) 6 = .ok (.iload_n 1, 1) := by decide +kernel
theorem d_Pc_becomeCut_7 : decode (zb m_Pc_becomeCut) 7 = .ok (.putfield 24, 3) := by decide +kernel
theorem d_Pc_becomeCut_10 : decode (zb m_Pc_becomeCut) 10 = .ok (.aload_n 0, 1) := by decide +kernel
theorem d_Pc_becomeCut_11 : decode (zb m_Pc_becomeCut) 11 = .ok (.iload_n 2, 1) := by decide +kernel
theorem d_Pc_becomeCut_12 : decode (zb m_Pc_becomeCut) 12 = .ok (.putfield 28, 3) := by decide +kernel
theorem d_Pc_becomeCut_15 : decode (zb m_Pc_becomeCut) 15 = .ok (.return_, 1) := by decide +kernel
theorem d_Pc_becomeText_0 : decode (zb m_Pc_becomeText) 0 = .ok (.aload_n 0, 1) := by decide +kernel
theorem d_Pc_becomeText_1 : decode (zb m_Pc_becomeText) 1 = .ok (.iconst 1, 1) := by decide +kernel
theorem d_Pc_becomeText_2 : decode (zb m_Pc_becomeText) 2 = .ok (.putfield 20, 3) := by decide +kernel
theorem d_Pc_becomeText_5 : decode (zb m_Pc_becomeText) 5 = .ok (.aload_n 0, 1) := by decide +kernel
theorem d_Pc_becomeText_6 : decode (zb m_Pc_becomeText) 6 = .ok (.getfield 14, 3) := by decide +kernel
theorem d_Pc_becomeText_9 : decode (zb m_Pc_becomeText) 9 = .ok (.invokevirtual 31, 3) := by decide +kernel
theorem d_Pc_becomeText_12 : decode (zb m_Pc_becomeText) 12 = .ok (.aload_n 0, 1) := by decide +kernel
theorem d_Pc_becomeText_13 : decode (zb m_Pc_becomeText) 13 = .ok (.getfield 14, 3) := by decide +kernel
theorem d_Pc_becomeText_16 : decode (zb m_Pc_becomeText) 16 = .ok (.aload_n 1, 1) := by decide +kernel
theorem d_Pc_becomeText_17 : decode (zb m_Pc_becomeText) 17 = .ok (.iload_n 2, 1) := by decide +kernel
theorem d_Pc_becomeText_18 : decode (zb m_Pc_becomeText) 18 = .ok (.iload_n 3, 1) := by decide +kernel
theorem d_Pc_becomeText_19 : decode (zb m_Pc_becomeText) 19 = .ok (.invokevirtual 34, 3) := by decide +kernel
theorem d_Pc_becomeText_22 : decode (zb m_Pc_becomeText) 22 = .ok (.return_, 1) := by decide +kernel
theorem d_Pc_price_0 : decode (zb m_Pc_price) 0 = .ok (.aload_n 0, 1) := by decide +kernel
theorem d_Pc_price_1 : decode (zb m_Pc_price) 1 = .ok (.getfield 20, 3) := by decide +kernel
theorem d_Pc_price_4 : decode (zb m_Pc_price) 4 = .ok (.ifCond .eq 16, 3) := by decide +kernel
theorem d_Pc_price_7 : decode (zb m_Pc_price) 7 = .ok (.aload_n 0, 1) := by decide +kernel
theorem d_Pc_price_8 : decode (zb m_Pc_price) 8 = .ok (.getfield 14, 3) := by decide +kernel
theorem d_Pc_price_11 : decode (zb m_Pc_price) 11 = .ok (.invokevirtual 38, 3) := by decide +kernel
theorem d_Pc_price_14 : decode (zb m_Pc_price) 14 = .ok (.invokestatic 42, 3) := by decide +kernel
theorem d_Pc_price_17 : decode (zb m_Pc_price) 17 = .ok (.goto 20, 3) := by decide +kernel
theorem d_Pc_price_20 : decode (zb m_Pc_price) 20 = .ok (.aload_n 0, 1) := by decide +kernel
theorem d_Pc_price_21 : decode (zb m_Pc_price) 21 = .ok (.getfield 24, 3) := by decide +kernel
theorem d_Pc_price_24 : decode (zb m_Pc_price) 24 = .ok (.invokestatic 46, 3) := by decide +kernel
theorem d_Pc_price_27 : decode (zb m_Pc_price) 27 = .ok (.aload_n 0, 1) := by decide +kernel
theorem d_Pc_price_28 : decode (zb m_Pc_price) 28 = .ok (.getfield 28, 3) := by decide +kernel
theorem d_Pc_price_31 : decode (zb m_Pc_price) 31 = .ok (.invokestatic 46, 3) := by decide +kernel
theorem d_Pc_price_34 : decode (zb m_Pc_price) 34 = .ok (.invokestatic 51, 3) := by decide +kernel
theorem d_Pc_price_37 : decode (zb m_Pc_price) 37 = .ok (.ireturn, 1) := by decide +kernel
theorem d_Pc_textPrice_0 : decode (zb m_Pc_textPrice) 0 = .ok (.iconst 2, 1) := by decide +kernel
theorem d_Pc_textPrice_1 : decode (zb m_Pc_textPrice) 1 = .ok (.iload_n 0, 1) := by decide +kernel
theorem d_Pc_textPrice_2 : decode (zb m_Pc_textPrice) 2 = .ok (.imul, 1) := by decide +kernel
theorem d_Pc_textPrice_3 : decode (zb m_Pc_textPrice) 3 = .ok (.iconst 2, 1) := by decide +kernel
theorem d_Pc_textPrice_4 : decode (zb m_Pc_textPrice) 4 = .ok (.iadd, 1) := by decide +kernel
theorem d_Pc_textPrice_5 : decode (zb m_Pc_textPrice) 5 = .ok (.ireturn, 1) := by decide +kernel
theorem d_Pc_cutPrice_0 : decode (zb m_Pc_cutPrice) 0 = .ok (.iload_n 0, 1) := by decide +kernel
theorem d_Pc_cutPrice_1 : decode (zb m_Pc_cutPrice) 1 = .ok (.iload_n 1, 1) := by decide +kernel
theorem d_Pc_cutPrice_2 : decode (zb m_Pc_cutPrice) 2 = .ok (.iadd, 1) := by decide +kernel
theorem d_Pc_cutPrice_3 : decode (zb m_Pc_cutPrice) 3 = .ok (.iconst 1, 1) := by decide +kernel
theorem d_Pc_cutPrice_4 : decode (zb m_Pc_cutPrice) 4 = .ok (.iadd, 1) := by decide +kernel
theorem d_Pc_cutPrice_5 : decode (zb m_Pc_cutPrice) 5 = .ok (.ireturn, 1) := by decide +kernel
theorem d_Pc_tells_0 : decode (zb m_Pc_tells) 0 = .ok (.iload_n 1, 1) := by decide +kernel
theorem d_Pc_tells_1 : decode (zb m_Pc_tells) 1 = .ok (.ifCond .ne 16, 3) := by decide +kernel
theorem d_Pc_tells_4 : decode (zb m_Pc_tells) 4 = .ok (.aload_n 0, 1) := by decide +kernel
theorem d_Pc_tells_5 : decode (zb m_Pc_tells) 5 = .ok (.getfield 20, 3) := by decide +kernel
theorem d_Pc_tells_8 : decode (zb m_Pc_tells) 8 = .ok (.ifCond .eq 7, 3) := by decide +kernel
theorem d_Pc_tells_11 : decode (zb m_Pc_tells) 11 = .ok (.iconst 1, 1) := by decide +kernel
theorem d_Pc_tells_12 : decode (zb m_Pc_tells) 12 = .ok (.goto 4, 3) := by decide +kernel
theorem d_Pc_tells_15 : decode (zb m_Pc_tells) 15 = .ok (.iconst 0, 1) := by decide +kernel
theorem d_Pc_tells_16 : decode (zb m_Pc_tells) 16 = .ok (.ireturn, 1) := by decide +kernel
theorem d_Pc_tells_17 : decode (zb m_Pc_tells) 17 = .ok (.aload_n 0, 1) := by decide +kernel
theorem d_Pc_tells_18 : decode (zb m_Pc_tells) 18 = .ok (.getfield 20, 3) := by decide +kernel
theorem d_Pc_tells_21 : decode (zb m_Pc_tells) 21 = .ok (.ifCond .eq 27, 3) := by decide +kernel
theorem d_Pc_tells_24 : decode (zb m_Pc_tells) 24 = .ok (.iload_n 1, 1) := by decide +kernel
theorem d_Pc_tells_25 : decode (zb m_Pc_tells) 25 = .ok (.iconst 1, 1) := by decide +kernel
theorem d_Pc_tells_26 : decode (zb m_Pc_tells) 26 = .ok (.if_icmp .ne 13, 3) := by decide +kernel
theorem d_Pc_tells_29 : decode (zb m_Pc_tells) 29 = .ok (.aload_n 0, 1) := by decide +kernel
theorem d_Pc_tells_30 : decode (zb m_Pc_tells) 30 = .ok (.getfield 14, 3) := by decide +kernel
theorem d_Pc_tells_33 : decode (zb m_Pc_tells) 33 = .ok (.invokevirtual 38, 3) := by decide +kernel
theorem d_Pc_tells_36 : decode (zb m_Pc_tells) 36 = .ok (.goto 11, 3) := by decide +kernel
theorem d_Pc_tells_39 : decode (zb m_Pc_tells) 39 = .ok (.aload_n 0, 1) := by decide +kernel
theorem d_Pc_tells_40 : decode (zb m_Pc_tells) 40 = .ok (.getfield 14, 3) := by decide +kernel
theorem d_Pc_tells_43 : decode (zb m_Pc_tells) 43 = .ok (.iconst 0, 1) := by decide +kernel
theorem d_Pc_tells_44 : decode (zb m_Pc_tells) 44 = .ok (.invokevirtual 55, 3) := by decide +kernel
theorem d_Pc_tells_47 : decode (zb m_Pc_tells) 47 = .ok (.ireturn, 1) := by decide +kernel
theorem d_Pc_tells_48 : decode (zb m_Pc_tells) 48 = .ok (.iload_n 1, 1) := by decide +kernel
theorem d_Pc_tells_49 : decode (zb m_Pc_tells) 49 = .ok (.iconst 1, 1) := by decide +kernel
theorem d_Pc_tells_50 : decode (zb m_Pc_tells) 50 = .ok (.if_icmp .ne 10, 3) := by decide +kernel
theorem d_Pc_tells_53 : decode (zb m_Pc_tells) 53 = .ok (.aload_n 0, 1) := by decide +kernel
theorem d_Pc_tells_54 : decode (zb m_Pc_tells) 54 = .ok (.getfield 24, 3) := by decide +kernel
theorem d_Pc_tells_57 : decode (zb m_Pc_tells) 57 = .ok (.goto 7, 3) := by decide +kernel
theorem d_Pc_tells_60 : decode (zb m_Pc_tells) 60 = .ok (.aload_n 0, 1) := by decide +kernel
theorem d_Pc_tells_61 : decode (zb m_Pc_tells) 61 = .ok (.getfield 28, 3) := by decide +kernel
theorem d_Pc_tells_64 : decode (zb m_Pc_tells) 64 = .ok (.invokestatic 58, 3) := by decide +kernel
theorem d_Pc_tells_67 : decode (zb m_Pc_tells) 67 = .ok (.ireturn, 1) := by decide +kernel
theorem d_Pc_addTo_0 : decode (zb m_Pc_addTo) 0 = .ok (.aload_n 0, 1) := by decide +kernel
theorem d_Pc_addTo_1 : decode (zb m_Pc_addTo) 1 = .ok (.getfield 20, 3) := by decide +kernel
theorem d_Pc_addTo_4 : decode (zb m_Pc_addTo) 4 = .ok (.ifCond .eq 21, 3) := by decide +kernel
theorem d_Pc_addTo_7 : decode (zb m_Pc_addTo) 7 = .ok (.aload_n 1, 1) := by decide +kernel
theorem d_Pc_addTo_8 : decode (zb m_Pc_addTo) 8 = .ok (.aload_n 0, 1) := by decide +kernel
theorem d_Pc_addTo_9 : decode (zb m_Pc_addTo) 9 = .ok (.getfield 14, 3) := by decide +kernel
theorem d_Pc_addTo_12 : decode (zb m_Pc_addTo) 12 = .ok (.iconst 0, 1) := by decide +kernel
theorem d_Pc_addTo_13 : decode (zb m_Pc_addTo) 13 = .ok (.aload_n 0, 1) := by decide +kernel
theorem d_Pc_addTo_14 : decode (zb m_Pc_addTo) 14 = .ok (.getfield 14, 3) := by decide +kernel
theorem d_Pc_addTo_17 : decode (zb m_Pc_addTo) 17 = .ok (.invokevirtual 38, 3) := by decide +kernel
theorem d_Pc_addTo_20 : decode (zb m_Pc_addTo) 20 = .ok (.invokevirtual 34, 3) := by decide +kernel
theorem d_Pc_addTo_23 : decode (zb m_Pc_addTo) 23 = .ok (.iconst 1, 1) := by decide +kernel
theorem d_Pc_addTo_24 : decode (zb m_Pc_addTo) 24 = .ok (.ireturn, 1) := by decide +kernel
theorem d_Pc_addTo_25 : decode (zb m_Pc_addTo) 25 = .ok (.aload_n 2, 1) := by decide +kernel
theorem d_Pc_addTo_26 : decode (zb m_Pc_addTo) 26 = .ok (.aload_n 0, 1) := by decide +kernel
theorem d_Pc_addTo_27 : decode (zb m_Pc_addTo) 27 = .ok (.getfield 24, 3) := by decide +kernel
theorem d_Pc_addTo_30 : decode (zb m_Pc_addTo) 30 = .ok (.invokestatic 61, 3) := by decide +kernel
theorem d_Pc_addTo_33 : decode (zb m_Pc_addTo) 33 = .ok (.istore_n 3, 1) := by decide +kernel
theorem d_Pc_addTo_34 : decode (zb m_Pc_addTo) 34 = .ok (.aload_n 2, 1) := by decide +kernel
theorem d_Pc_addTo_35 : decode (zb m_Pc_addTo) 35 = .ok (.aload_n 0, 1) := by decide +kernel
theorem d_Pc_addTo_36 : decode (zb m_Pc_addTo) 36 = .ok (.getfield 28, 3) := by decide +kernel
theorem d_Pc_addTo_39 : decode (zb m_Pc_addTo) 39 = .ok (.invokestatic 61, 3) := by decide +kernel
theorem d_Pc_addTo_42 : decode (zb m_Pc_addTo) 42 = .ok (.istore 4, 2) := by decide +kernel
theorem d_Pc_addTo_44 : decode (zb m_Pc_addTo) 44 = .ok (.iload_n 3, 1) := by decide +kernel
theorem d_Pc_addTo_45 : decode (zb m_Pc_addTo) 45 = .ok (.bipush (-6), 2) := by decide +kernel
theorem d_Pc_addTo_47 : decode (zb m_Pc_addTo) 47 = .ok (.if_icmp .eq 16, 3) := by decide +kernel
theorem d_Pc_addTo_50 : decode (zb m_Pc_addTo) 50 = .ok (.iload 4, 2) := by decide +kernel
theorem d_Pc_addTo_52 : decode (zb m_Pc_addTo) 52 = .ok (.bipush (-6), 2) := by decide +kernel
theorem d_Pc_addTo_54 : decode (zb m_Pc_addTo) 54 = .ok (.if_icmp .eq 9, 3) := by decide +kernel
theorem d_Pc_addTo_57 : decode (zb m_Pc_addTo) 57 = .ok (.iload_n 3, 1) := by decide +kernel
theorem d_Pc_addTo_58 : decode (zb m_Pc_addTo) 58 = .ok (.iload 4, 2) := by decide +kernel
theorem d_Pc_addTo_60 : decode (zb m_Pc_addTo) 60 = .ok (.if_icmp .lt 5, 3) := by decide +kernel
theorem d_Pc_addTo_63 : decode (zb m_Pc_addTo) 63 = .ok (.iconst 0, 1) := by decide +kernel
theorem d_Pc_addTo_64 : decode (zb m_Pc_addTo) 64 = .ok (.ireturn, 1) := by decide +kernel
theorem d_Pc_addTo_65 : decode (zb m_Pc_addTo) 65 = .ok (.aload_n 1, 1) := by decide +kernel
theorem d_Pc_addTo_66 : decode (zb m_Pc_addTo) 66 = .ok (.aload_n 2, 1) := by decide +kernel
theorem d_Pc_addTo_67 : decode (zb m_Pc_addTo) 67 = .ok (.iload_n 3, 1) := by decide +kernel
theorem d_Pc_addTo_68 : decode (zb m_Pc_addTo) 68 = .ok (.iload 4, 2) := by decide +kernel
theorem d_Pc_addTo_70 : decode (zb m_Pc_addTo) 70 = .ok (.invokevirtual 34, 3) := by decide +kernel
theorem d_Pc_addTo_73 : decode (zb m_Pc_addTo) 73 = .ok (.iconst 1, 1) := by decide +kernel
theorem d_Pc_addTo_74 : decode (zb m_Pc_addTo) 74 = .ok (.ireturn, 1) := by decide +kernel
theorem d_Pl_init_0 : decode (zb m_Pl_init) 0 = .ok (.aload_n 0, 1) := by decide +kernel
theorem d_Pl_init_1 : decode (zb m_Pl_init) 1 = .ok (.invokespecial 3, 3) := by decide +kernel
theorem d_Pl_init_4 : decode (zb m_Pl_init) 4 = .ok (.aload_n 0, 1) := by decide +kernel
theorem d_Pl_init_5 : decode (zb m_Pl_init) 5 = .ok (.iconst 5, 1) := by decide +kernel
theorem d_Pl_init_6 : decode (zb m_Pl_init) 6 = .ok (.anewarray 9, 3) := by decide +kernel
theorem d_Pl_init_9 : decode (zb m_Pl_init) 9 = .ok (.putfield 11, 3) := by decide +kernel
theorem d_Pl_init_12 : decode (zb m_Pl_init) 12 = .ok (.iconst 0, 1) := by decide +kernel
theorem d_Pl_init_13 : decode (zb m_Pl_init) 13 = .ok (.istore_n 1, 1) := by decide +kernel
theorem d_Pl_init_14 : decode (zb m_Pl_init) 14 = .ok (.iload_n 1, 1) := by decide +kernel
theorem d_Pl_init_15 : decode (zb m_Pl_init) 15 = .ok (.iconst 5, 1) := by decide +kernel
theorem d_Pl_init_16 : decode (zb m_Pl_init) 16 = .ok (.if_icmp .ge 22, 3) := by decide +kernel
theorem d_Pl_init_19 : decode (zb m_Pl_init) 19 = .ok (.aload_n 0, 1) := by decide +kernel
theorem d_Pl_init_20 : decode (zb m_Pl_init) 20 = .ok (.getfield 11, 3) := by decide +kernel
theorem d_Pl_init_23 : decode (zb m_Pl_init) 23 = .ok (.iload_n 1, 1) := by decide +kernel
theorem d_Pl_init_24 : decode (zb m_Pl_init) 24 = .ok (.new 9, 3) := by decide +kernel
theorem d_Pl_init_27 : decode (zb m_Pl_init) 27 = .ok (.dup, 1) := by decide +kernel
theorem d_Pl_init_28 : decode (zb m_Pl_init) 28 = .ok (.invokespecial 17, 3) := by decide +kernel
theorem d_Pl_init_31 : decode (zb m_Pl_init) 31 = .ok (.aastore, 1) := by decide +kernel
theorem d_Pl_init_32 : decode (zb m_Pl_init) 32 = .ok (.iinc 1 1, 3) := by decide +kernel
theorem d_Pl_init_35 : decode (zb m_Pl_init) 35 = .ok (.goto (-21), 3) := by decide +kernel
theorem d_Pl_init_38 : decode (zb m_Pl_init) 38 = .ok (.return_, 1) := by decide +kernel
theorem d_Pl_many_0 : decode (zb m_Pl_many) 0 = .ok (.aload_n 0, 1) := by decide +kernel
theorem d_Pl_many_1 : decode (zb m_Pl_many) 1 = .ok (.getfield 18, 3) := by decide +kernel
theorem d_Pl_many_4 : decode (zb m_Pl_many) 4 = .ok (.ireturn, 1) := by decide +kernel
theorem d_Pl_clear_0 : decode (zb m_Pl_clear) 0 = .ok (.aload_n 0, 1) := by decide +kernel
theorem d_Pl_clear_1 : decode (zb m_Pl_clear) 1 = .ok (.iconst 0, 1) := by decide +kernel
theorem d_Pl_clear_2 : decode (zb m_Pl_clear) 2 = .ok (.putfield 18, 3) := by decide +kernel
theorem d_Pl_clear_5 : decode (zb m_Pl_clear) 5 = .ok (.return_, 1) := by decide +kernel
theorem d_Pl_at_0 : decode (zb m_Pl_at) 0 = .ok (.aload_n 0, 1) := by decide +kernel
theorem d_Pl_at_1 : decode (zb m_Pl_at) 1 = .ok (.getfield 11, 3) := by decide +kernel
theorem d_Pl_at_4 : decode (zb m_Pl_at) 4 = .ok (.iload_n 1, 1) := by decide +kernel
theorem d_Pl_at_5 : decode (zb m_Pl_at) 5 = .ok (.ifCond .lt 12, 3) := by decide +kernel
theorem d_Pl_at_8 : decode (zb m_Pl_at) 8 = .ok (.iload_n 1, 1) := by decide +kernel
theorem d_Pl_at_9 : decode (zb m_Pl_at) 9 = .ok (.iconst 5, 1) := by decide +kernel
theorem d_Pl_at_10 : decode (zb m_Pl_at) 10 = .ok (.if_icmp .ge 7, 3) := by decide +kernel
theorem d_Pl_at_13 : decode (zb m_Pl_at) 13 = .ok (.iload_n 1, 1) := by decide +kernel
theorem d_Pl_at_14 : decode (zb m_Pl_at) 14 = .ok (.goto 4, 3) := by decide +kernel
theorem d_Pl_at_17 : decode (zb m_Pl_at) 17 = .ok (.iconst 0, 1) := by decide +kernel
theorem d_Pl_at_18 : decode (zb m_Pl_at) 18 = .ok (.aaload, 1) := by decide +kernel
theorem d_Pl_at_19 : decode (zb m_Pl_at) 19 = .ok (.areturn, 1) := by decide +kernel
theorem d_Pl_next_0 : decode (zb m_Pl_next) 0 = .ok (.aload_n 0, 1) := by decide +kernel
theorem d_Pl_next_1 : decode (zb m_Pl_next) 1 = .ok (.aload_n 0, 1) := by decide +kernel
theorem d_Pl_next_2 : decode (zb m_Pl_next) 2 = .ok (.getfield 18, 3) := by decide +kernel
theorem d_Pl_next_5 : decode (zb m_Pl_next) 5 = .ok (.invokevirtual 22, 3) := by decide +kernel
theorem d_Pl_next_8 : decode (zb m_Pl_next) 8 = .ok (.astore_n 1, 1) := by decide +kernel
theorem d_Pl_next_9 : decode (zb m_Pl_next) 9 = .ok (.aload_n 0, 1) := by decide +kernel
theorem d_Pl_next_10 : decode (zb m_Pl_next) 10 = .ok (.getfield 18, 3) := by decide +kernel
theorem d_Pl_next_13 : decode (zb m_Pl_next) 13 = .ok (.iconst 5, 1) := by decide +kernel
theorem d_Pl_next_14 : decode (zb m_Pl_next) 14 = .ok (.if_icmp .ge 13, 3) := by decide +kernel
theorem d_Pl_next_17 : decode (zb m_Pl_next) 17 = .ok (.aload_n 0, 1) := by decide +kernel
theorem d_Pl_next_18 : decode (zb m_Pl_next) 18 = .ok (.dup, 1) := by decide +kernel
theorem d_Pl_next_19 : decode (zb m_Pl_next) 19 = .ok (.getfield 18, 3) := by decide +kernel
theorem d_Pl_next_22 : decode (zb m_Pl_next) 22 = .ok (.iconst 1, 1) := by decide +kernel
theorem d_Pl_next_23 : decode (zb m_Pl_next) 23 = .ok (.iadd, 1) := by decide +kernel
theorem d_Pl_next_24 : decode (zb m_Pl_next) 24 = .ok (.putfield 18, 3) := by decide +kernel
theorem d_Pl_next_27 : decode (zb m_Pl_next) 27 = .ok (.aload_n 1, 1) := by decide +kernel
theorem d_Pl_next_28 : decode (zb m_Pl_next) 28 = .ok (.areturn, 1) := by decide +kernel
theorem d_Pl_price_0 : decode (zb m_Pl_price) 0 = .ok (.iconst 0, 1) := by decide +kernel
theorem d_Pl_price_1 : decode (zb m_Pl_price) 1 = .ok (.istore_n 1, 1) := by decide +kernel
theorem d_Pl_price_2 : decode (zb m_Pl_price) 2 = .ok (.iconst 0, 1) := by decide +kernel
theorem d_Pl_price_3 : decode (zb m_Pl_price) 3 = .ok (.istore_n 2, 1) := by decide +kernel
theorem d_Pl_price_4 : decode (zb m_Pl_price) 4 = .ok (.iload_n 2, 1) := by decide +kernel
theorem d_Pl_price_5 : decode (zb m_Pl_price) 5 = .ok (.aload_n 0, 1) := by decide +kernel
theorem d_Pl_price_6 : decode (zb m_Pl_price) 6 = .ok (.getfield 18, 3) := by decide +kernel
theorem d_Pl_price_9 : decode (zb m_Pl_price) 9 = .ok (.if_icmp .ge 20, 3) := by decide +kernel
theorem d_Pl_price_12 : decode (zb m_Pl_price) 12 = .ok (.iload_n 1, 1) := by decide +kernel
theorem d_Pl_price_13 : decode (zb m_Pl_price) 13 = .ok (.aload_n 0, 1) := by decide +kernel
theorem d_Pl_price_14 : decode (zb m_Pl_price) 14 = .ok (.iload_n 2, 1) := by decide +kernel
theorem d_Pl_price_15 : decode (zb m_Pl_price) 15 = .ok (.invokevirtual 22, 3) := by decide +kernel
theorem d_Pl_price_18 : decode (zb m_Pl_price) 18 = .ok (.invokevirtual 26, 3) := by decide +kernel
theorem d_Pl_price_21 : decode (zb m_Pl_price) 21 = .ok (.iadd, 1) := by decide +kernel
theorem d_Pl_price_22 : decode (zb m_Pl_price) 22 = .ok (.istore_n 1, 1) := by decide +kernel
theorem d_Pl_price_23 : decode (zb m_Pl_price) 23 = .ok (.iinc 2 1, 3) := by decide +kernel
theorem d_Pl_price_26 : decode (zb m_Pl_price) 26 = .ok (.goto (-22), 3) := by decide +kernel
theorem d_Pl_price_29 : decode (zb m_Pl_price) 29 = .ok (.iload_n 1, 1) := by decide +kernel
theorem d_Pl_price_30 : decode (zb m_Pl_price) 30 = .ok (.ireturn, 1) := by decide +kernel
theorem d_Pl_applyTo_0 : decode (zb m_Pl_applyTo) 0 = .ok (.aload_n 2, 1) := by decide +kernel
theorem d_Pl_applyTo_1 : decode (zb m_Pl_applyTo) 1 = .ok (.invokevirtual 30, 3) := by decide +kernel
theorem d_Pl_applyTo_4 : decode (zb m_Pl_applyTo) 4 = .ok (.iconst 0, 1) := by decide +kernel
theorem d_Pl_applyTo_5 : decode (zb m_Pl_applyTo) 5 = .ok (.istore_n 3, 1) := by decide +kernel
theorem d_Pl_applyTo_6 : decode (zb m_Pl_applyTo) 6 = .ok (.iload_n 3, 1) := by decide +kernel
theorem d_Pl_applyTo_7 : decode (zb m_Pl_applyTo) 7 = .ok (.aload_n 0, 1) := by decide +kernel
theorem d_Pl_applyTo_8 : decode (zb m_Pl_applyTo) 8 = .ok (.getfield 18, 3) := by decide +kernel
theorem d_Pl_applyTo_11 : decode (zb m_Pl_applyTo) 11 = .ok (.if_icmp .ge 27, 3) := by decide +kernel
theorem d_Pl_applyTo_14 : decode (zb m_Pl_applyTo) 14 = .ok (.aload_n 0, 1) := by decide +kernel
theorem d_Pl_applyTo_15 : decode (zb m_Pl_applyTo) 15 = .ok (.iload_n 3, 1) := by decide +kernel
theorem d_Pl_applyTo_16 : decode (zb m_Pl_applyTo) 16 = .ok (.invokevirtual 22, 3) := by decide +kernel
theorem d_Pl_applyTo_19 : decode (zb m_Pl_applyTo) 19 = .ok (.aload_n 2, 1) := by decide +kernel
theorem d_Pl_applyTo_20 : decode (zb m_Pl_applyTo) 20 = .ok (.aload_n 1, 1) := by decide +kernel
theorem d_Pl_applyTo_21 : decode (zb m_Pl_applyTo) 21 = .ok (.invokevirtual 35, 3) := by decide +kernel
theorem d_Pl_applyTo_24 : decode (zb m_Pl_applyTo) 24 = .ok (.ifCond .ne 8, 3) := by decide +kernel
theorem d_Pl_applyTo_27 : decode (zb m_Pl_applyTo) 27 = .ok (.aload_n 2, 1) := by decide +kernel
theorem d_Pl_applyTo_28 : decode (zb m_Pl_applyTo) 28 = .ok (.invokevirtual 30, 3) := by decide +kernel
theorem d_Pl_applyTo_31 : decode (zb m_Pl_applyTo) 31 = .ok (.return_, 1) := by decide +kernel
theorem d_Pl_applyTo_32 : decode (zb m_Pl_applyTo) 32 = .ok (.iinc 3 1, 3) := by decide +kernel
theorem d_Pl_applyTo_35 : decode (zb m_Pl_applyTo) 35 = .ok (.goto (-29), 3) := by decide +kernel
theorem d_Pl_applyTo_38 : decode (zb m_Pl_applyTo) 38 = .ok (.return_, 1) := by decide +kernel
theorem d_Rw_init_0 : decode (zb m_Rw_init) 0 = .ok (.aload_n 0, 1) := by decide +kernel
theorem d_Rw_init_1 : decode (zb m_Rw_init) 1 = .ok (.invokespecial 3, 3) := by decide +kernel
theorem d_Rw_init_4 : decode (zb m_Rw_init) 4 = .ok (.aload_n 0, 1) := by decide +kernel
theorem d_Rw_init_5 : decode (zb m_Rw_init) 5 = .ok (.new 9, 3) := by decide +kernel
theorem d_Rw_init_8 : decode (zb m_Rw_init) 8 = .ok (.dup, 1) := by decide +kernel
theorem d_Rw_init_9 : decode (zb m_Rw_init) 9 = .ok (.iconst 5, 1) := by decide +kernel
theorem d_Rw_init_10 : decode (zb m_Rw_init) 10 = .ok (.invokespecial 11, 3) := by decide +kernel
theorem d_Rw_init_13 : decode (zb m_Rw_init) 13 = .ok (.putfield 14, 3) := by decide +kernel
theorem d_Rw_init_16 : decode (zb m_Rw_init) 16 = .ok (.aload_n 0, 1) := by decide +kernel
theorem d_Rw_init_17 : decode (zb m_Rw_init) 17 = .ok (.bipush 62, 2) := by decide +kernel
theorem d_Rw_init_19 : decode (zb m_Rw_init) 19 = .ok (.newarray .int, 2) := by decide +kernel
theorem d_Rw_init_21 : decode (zb m_Rw_init) 21 = .ok (.putfield 22, 3) := by decide +kernel
theorem d_Rw_init_24 : decode (zb m_Rw_init) 24 = .ok (.aload_n 0, 1) := by decide +kernel
theorem d_Rw_init_25 : decode (zb m_Rw_init) 25 = .ok (.bipush 13, 2) := by decide +kernel
theorem d_Rw_init_27 : decode (zb m_Rw_init) 27 = .ok (.bipush 6, 2) := by decide +kernel
theorem d_Rw_init_29 : decode (zb m_Rw_init) 29 = .ok (.multianewarray 26 2, 4) := by decide +kernel
theorem d_Rw_init_33 : decode (zb m_Rw_init) 33 = .ok (.putfield 28, 3) := by decide +kernel
theorem d_Rw_init_36 : decode (zb m_Rw_init) 36 = .ok (.return_, 1) := by decide +kernel
theorem d_Rw_become_0 : decode (zb m_Rw_become) 0 = .ok (.aload_n 0, 1) := by decide +kernel
theorem d_Rw_become_1 : decode (zb m_Rw_become) 1 = .ok (.getfield 14, 3) := by decide +kernel
theorem d_Rw_become_4 : decode (zb m_Rw_become) 4 = .ok (.aload_n 2, 1) := by decide +kernel
theorem d_Rw_become_5 : decode (zb m_Rw_become) 5 = .ok (.invokevirtual 31, 3) := by decide +kernel
theorem d_Rw_become_8 : decode (zb m_Rw_become) 8 = .ok (.iconst 0, 1) := by decide +kernel
theorem d_Rw_become_9 : decode (zb m_Rw_become) 9 = .ok (.istore_n 3, 1) := by decide +kernel
theorem d_Rw_become_10 : decode (zb m_Rw_become) 10 = .ok (.iload_n 3, 1) := by decide +kernel
theorem d_Rw_become_11 : decode (zb m_Rw_become) 11 = .ok (.bipush 62, 2) := by decide +kernel
theorem d_Rw_become_13 : decode (zb m_Rw_become) 13 = .ok (.if_icmp .ge 20, 3) := by decide +kernel
theorem d_Rw_become_16 : decode (zb m_Rw_become) 16 = .ok (.aload_n 0, 1) := by decide +kernel
theorem d_Rw_become_17 : decode (zb m_Rw_become) 17 = .ok (.getfield 22, 3) := by decide +kernel
theorem d_Rw_become_20 : decode (zb m_Rw_become) 20 = .ok (.iload_n 3, 1) := by decide +kernel
theorem d_Rw_become_21 : decode (zb m_Rw_become) 21 = .ok (.aload_n 1, 1) := by decide +kernel
theorem d_Rw_become_22 : decode (zb m_Rw_become) 22 = .ok (.iload_n 3, 1) := by decide +kernel
theorem d_Rw_become_23 : decode (zb m_Rw_become) 23 = .ok (.invokestatic 35, 3) := by decide +kernel
theorem d_Rw_become_26 : decode (zb m_Rw_become) 26 = .ok (.iastore, 1) := by decide +kernel
theorem d_Rw_become_27 : decode (zb m_Rw_become) 27 = .ok (.iinc 3 1, 3) := by decide +kernel
theorem d_Rw_become_30 : decode (zb m_Rw_become) 30 = .ok (.goto (-20), 3) := by decide +kernel
theorem d_Rw_become_33 : decode (zb m_Rw_become) 33 = .ok (.bipush 12, 2) := by decide +kernel
theorem d_Rw_become_35 : decode (zb m_Rw_become) 35 = .ok (.istore_n 3, 1) := by decide +kernel
theorem d_Rw_become_36 : decode (zb m_Rw_become) 36 = .ok (.iload_n 3, 1) := by decide +kernel
theorem d_Rw_become_37 : decode (zb m_Rw_become) 37 = .ok (.ifCond .lt 40, 3) := by decide +kernel
theorem d_Rw_become_40 : decode (zb m_Rw_become) 40 = .ok (.iconst 5, 1) := by decide +kernel
theorem d_Rw_become_41 : decode (zb m_Rw_become) 41 = .ok (.istore 4, 2) := by decide +kernel
theorem d_Rw_become_43 : decode (zb m_Rw_become) 43 = .ok (.iload 4, 2) := by decide +kernel
theorem d_Rw_become_45 : decode (zb m_Rw_become) 45 = .ok (.ifCond .lt 26, 3) := by decide +kernel
theorem d_Rw_become_48 : decode (zb m_Rw_become) 48 = .ok (.aload_n 0, 1) := by decide +kernel
theorem d_Rw_become_49 : decode (zb m_Rw_become) 49 = .ok (.getfield 28, 3) := by decide +kernel
theorem d_Rw_become_52 : decode (zb m_Rw_become) 52 = .ok (.iload_n 3, 1) := by decide +kernel
theorem d_Rw_become_53 : decode (zb m_Rw_become) 53 = .ok (.aaload, 1) := by decide +kernel
theorem d_Rw_become_54 : decode (zb m_Rw_become) 54 = .ok (.iload 4, 2) := by decide +kernel
theorem d_Rw_become_56 : decode (zb m_Rw_become) 56 = .ok (.aload_n 0, 1) := by decide +kernel
theorem d_Rw_become_57 : decode (zb m_Rw_become) 57 = .ok (.aload_n 1, 1) := by decide +kernel
theorem d_Rw_become_58 : decode (zb m_Rw_become) 58 = .ok (.iload_n 3, 1) := by decide +kernel
theorem d_Rw_become_59 : decode (zb m_Rw_become) 59 = .ok (.iload 4, 2) := by decide +kernel
theorem d_Rw_become_61 : decode (zb m_Rw_become) 61 = .ok (.invokevirtual 39, 3) := by decide +kernel
theorem d_Rw_become_64 : decode (zb m_Rw_become) 64 = .ok (.iastore, 1) := by decide +kernel
theorem d_Rw_become_65 : decode (zb m_Rw_become) 65 = .ok (.iinc 4 (-1), 3) := by decide +kernel
theorem d_Rw_become_68 : decode (zb m_Rw_become) 68 = .ok (.goto (-25), 3) := by decide +kernel
theorem d_Rw_become_71 : decode (zb m_Rw_become) 71 = .ok (.iinc 3 (-1), 3) := by decide +kernel
theorem d_Rw_become_74 : decode (zb m_Rw_become) 74 = .ok (.goto (-38), 3) := by decide +kernel
theorem d_Rw_become_77 : decode (zb m_Rw_become) 77 = .ok (.return_, 1) := by decide +kernel
theorem d_Rw_countAlike_0 : decode (zb m_Rw_countAlike) 0 = .ok (.iload_n 2, 1) := by decide +kernel
theorem d_Rw_countAlike_1 : decode (zb m_Rw_countAlike) 1 = .ok (.bipush 12, 2) := by decide +kernel
theorem d_Rw_countAlike_3 : decode (zb m_Rw_countAlike) 3 = .ok (.if_icmp .ge 8, 3) := by decide +kernel
theorem d_Rw_countAlike_6 : decode (zb m_Rw_countAlike) 6 = .ok (.iload_n 3, 1) := by decide +kernel
theorem d_Rw_countAlike_7 : decode (zb m_Rw_countAlike) 7 = .ok (.iconst 5, 1) := by decide +kernel
theorem d_Rw_countAlike_8 : decode (zb m_Rw_countAlike) 8 = .ok (.if_icmp .lt 5, 3) := by decide +kernel
theorem d_Rw_countAlike_11 : decode (zb m_Rw_countAlike) 11 = .ok (.iconst 0, 1) := by decide +kernel
theorem d_Rw_countAlike_12 : decode (zb m_Rw_countAlike) 12 = .ok (.ireturn, 1) := by decide +kernel
theorem d_Rw_countAlike_13 : decode (zb m_Rw_countAlike) 13 = .ok (.iload_n 2, 1) := by decide +kernel
theorem d_Rw_countAlike_14 : decode (zb m_Rw_countAlike) 14 = .ok (.aload_n 1, 1) := by decide +kernel
theorem d_Rw_countAlike_15 : decode (zb m_Rw_countAlike) 15 = .ok (.invokevirtual 43, 3) := by decide +kernel
theorem d_Rw_countAlike_18 : decode (zb m_Rw_countAlike) 18 = .ok (.if_icmp .ge 30, 3) := by decide +kernel
theorem d_Rw_countAlike_21 : decode (zb m_Rw_countAlike) 21 = .ok (.iload_n 3, 1) := by decide +kernel
theorem d_Rw_countAlike_22 : decode (zb m_Rw_countAlike) 22 = .ok (.aload_n 0, 1) := by decide +kernel
theorem d_Rw_countAlike_23 : decode (zb m_Rw_countAlike) 23 = .ok (.getfield 14, 3) := by decide +kernel
theorem d_Rw_countAlike_26 : decode (zb m_Rw_countAlike) 26 = .ok (.invokevirtual 43, 3) := by decide +kernel
theorem d_Rw_countAlike_29 : decode (zb m_Rw_countAlike) 29 = .ok (.if_icmp .ge 19, 3) := by decide +kernel
theorem d_Rw_countAlike_32 : decode (zb m_Rw_countAlike) 32 = .ok (.aload_n 1, 1) := by decide +kernel
theorem d_Rw_countAlike_33 : decode (zb m_Rw_countAlike) 33 = .ok (.iload_n 2, 1) := by decide +kernel
theorem d_Rw_countAlike_34 : decode (zb m_Rw_countAlike) 34 = .ok (.invokevirtual 47, 3) := by decide +kernel
theorem d_Rw_countAlike_37 : decode (zb m_Rw_countAlike) 37 = .ok (.aload_n 0, 1) := by decide +kernel
theorem d_Rw_countAlike_38 : decode (zb m_Rw_countAlike) 38 = .ok (.getfield 14, 3) := by decide +kernel
theorem d_Rw_countAlike_41 : decode (zb m_Rw_countAlike) 41 = .ok (.iload_n 3, 1) := by decide +kernel
theorem d_Rw_countAlike_42 : decode (zb m_Rw_countAlike) 42 = .ok (.invokevirtual 47, 3) := by decide +kernel
theorem d_Rw_countAlike_45 : decode (zb m_Rw_countAlike) 45 = .ok (.if_icmp .eq 5, 3) := by decide +kernel
theorem d_Rw_countAlike_48 : decode (zb m_Rw_countAlike) 48 = .ok (.iconst 0, 1) := by decide +kernel
theorem d_Rw_countAlike_49 : decode (zb m_Rw_countAlike) 49 = .ok (.ireturn, 1) := by decide +kernel
theorem d_Rw_countAlike_50 : decode (zb m_Rw_countAlike) 50 = .ok (.aload_n 0, 1) := by decide +kernel
theorem d_Rw_countAlike_51 : decode (zb m_Rw_countAlike) 51 = .ok (.getfield 28, 3) := by decide +kernel
theorem d_Rw_countAlike_54 : decode (zb m_Rw_countAlike) 54 = .ok (.iload_n 2, 1) := by decide +kernel
theorem d_Rw_countAlike_55 : decode (zb m_Rw_countAlike) 55 = .ok (.iconst 1, 1) := by decide +kernel
theorem d_Rw_countAlike_56 : decode (zb m_Rw_countAlike) 56 = .ok (.iadd, 1) := by decide +kernel
theorem d_Rw_countAlike_57 : decode (zb m_Rw_countAlike) 57 = .ok (.aaload, 1) := by decide +kernel
theorem d_Rw_countAlike_58 : decode (zb m_Rw_countAlike) 58 = .ok (.iload_n 3, 1) := by decide +kernel
theorem d_Rw_countAlike_59 : decode (zb m_Rw_countAlike) 59 = .ok (.iconst 1, 1) := by decide +kernel
theorem d_Rw_countAlike_60 : decode (zb m_Rw_countAlike) 60 = .ok (.iadd, 1) := by decide +kernel
theorem d_Rw_countAlike_61 : decode (zb m_Rw_countAlike) 61 = .ok (.iaload, 1) := by decide +kernel
theorem d_Rw_countAlike_62 : decode (zb m_Rw_countAlike) 62 = .ok (.iconst 1, 1) := by decide +kernel
theorem d_Rw_countAlike_63 : decode (zb m_Rw_countAlike) 63 = .ok (.iadd, 1) := by decide +kernel
theorem d_Rw_countAlike_64 : decode (zb m_Rw_countAlike) 64 = .ok (.ireturn, 1) := by decide +kernel
theorem d_Rw_result_0 : decode (zb m_Rw_result) 0 = .ok (.aload_n 0, 1) := by decide +kernel
theorem d_Rw_result_1 : decode (zb m_Rw_result) 1 = .ok (.getfield 14, 3) := by decide +kernel
theorem d_Rw_result_4 : decode (zb m_Rw_result) 4 = .ok (.areturn, 1) := by decide +kernel
theorem d_Rw_placeOf_0 : decode (zb m_Rw_placeOf) 0 = .ok (.iload_n 1, 1) := by decide +kernel
theorem d_Rw_placeOf_1 : decode (zb m_Rw_placeOf) 1 = .ok (.ifCond .lt 18, 3) := by decide +kernel
theorem d_Rw_placeOf_4 : decode (zb m_Rw_placeOf) 4 = .ok (.iload_n 1, 1) := by decide +kernel
theorem d_Rw_placeOf_5 : decode (zb m_Rw_placeOf) 5 = .ok (.bipush 62, 2) := by decide +kernel
theorem d_Rw_placeOf_7 : decode (zb m_Rw_placeOf) 7 = .ok (.if_icmp .ge 12, 3) := by decide +kernel
theorem d_Rw_placeOf_10 : decode (zb m_Rw_placeOf) 10 = .ok (.aload_n 0, 1) := by decide +kernel
theorem d_Rw_placeOf_11 : decode (zb m_Rw_placeOf) 11 = .ok (.getfield 22, 3) := by decide +kernel
theorem d_Rw_placeOf_14 : decode (zb m_Rw_placeOf) 14 = .ok (.iload_n 1, 1) := by decide +kernel
theorem d_Rw_placeOf_15 : decode (zb m_Rw_placeOf) 15 = .ok (.iaload, 1) := by decide +kernel
theorem d_Rw_placeOf_16 : decode (zb m_Rw_placeOf) 16 = .ok (.goto 5, 3) := by decide +kernel
theorem d_Rw_placeOf_19 : decode (zb m_Rw_placeOf) 19 = .ok (.bipush (-6), 2) := by decide +kernel
theorem d_Rw_placeOf_21 : decode (zb m_Rw_placeOf) 21 = .ok (.ireturn, 1) := by decide +kernel
theorem d_Rw_longestFrom_0 : decode (zb m_Rw_longestFrom) 0 = .ok (.iload_n 1, 1) := by decide +kernel
theorem d_Rw_longestFrom_1 : decode (zb m_Rw_longestFrom) 1 = .ok (.ifCond .lt 18, 3) := by decide +kernel
theorem d_Rw_longestFrom_4 : decode (zb m_Rw_longestFrom) 4 = .ok (.iload_n 1, 1) := by decide +kernel
theorem d_Rw_longestFrom_5 : decode (zb m_Rw_longestFrom) 5 = .ok (.bipush 12, 2) := by decide +kernel
theorem d_Rw_longestFrom_7 : decode (zb m_Rw_longestFrom) 7 = .ok (.if_icmp .gt 12, 3) := by decide +kernel
theorem d_Rw_longestFrom_10 : decode (zb m_Rw_longestFrom) 10 = .ok (.iload_n 2, 1) := by decide +kernel
theorem d_Rw_longestFrom_11 : decode (zb m_Rw_longestFrom) 11 = .ok (.ifCond .lt 8, 3) := by decide +kernel
theorem d_Rw_longestFrom_14 : decode (zb m_Rw_longestFrom) 14 = .ok (.iload_n 2, 1) := by decide +kernel
theorem d_Rw_longestFrom_15 : decode (zb m_Rw_longestFrom) 15 = .ok (.iconst 5, 1) := by decide +kernel
theorem d_Rw_longestFrom_16 : decode (zb m_Rw_longestFrom) 16 = .ok (.if_icmp .le 5, 3) := by decide +kernel
theorem d_Rw_longestFrom_19 : decode (zb m_Rw_longestFrom) 19 = .ok (.iconst 0, 1) := by decide +kernel
theorem d_Rw_longestFrom_20 : decode (zb m_Rw_longestFrom) 20 = .ok (.ireturn, 1) := by decide +kernel
theorem d_Rw_longestFrom_21 : decode (zb m_Rw_longestFrom) 21 = .ok (.aload_n 0, 1) := by decide +kernel
theorem d_Rw_longestFrom_22 : decode (zb m_Rw_longestFrom) 22 = .ok (.getfield 28, 3) := by decide +kernel
theorem d_Rw_longestFrom_25 : decode (zb m_Rw_longestFrom) 25 = .ok (.iload_n 1, 1) := by decide +kernel
theorem d_Rw_longestFrom_26 : decode (zb m_Rw_longestFrom) 26 = .ok (.aaload, 1) := by decide +kernel
theorem d_Rw_longestFrom_27 : decode (zb m_Rw_longestFrom) 27 = .ok (.iload_n 2, 1) := by decide +kernel
theorem d_Rw_longestFrom_28 : decode (zb m_Rw_longestFrom) 28 = .ok (.iaload, 1) := by decide +kernel
theorem d_Rw_longestFrom_29 : decode (zb m_Rw_longestFrom) 29 = .ok (.ireturn, 1) := by decide +kernel
theorem d_Rw_cutLength_0 : decode (zb m_Rw_cutLength) 0 = .ok (.aload_n 0, 1) := by decide +kernel
theorem d_Rw_cutLength_1 : decode (zb m_Rw_cutLength) 1 = .ok (.iload_n 1, 1) := by decide +kernel
theorem d_Rw_cutLength_2 : decode (zb m_Rw_cutLength) 2 = .ok (.invokevirtual 51, 3) := by decide +kernel
theorem d_Rw_cutLength_5 : decode (zb m_Rw_cutLength) 5 = .ok (.istore 4, 2) := by decide +kernel
theorem d_Rw_cutLength_7 : decode (zb m_Rw_cutLength) 7 = .ok (.aload_n 0, 1) := by decide +kernel
theorem d_Rw_cutLength_8 : decode (zb m_Rw_cutLength) 8 = .ok (.iload_n 2, 1) := by decide +kernel
theorem d_Rw_cutLength_9 : decode (zb m_Rw_cutLength) 9 = .ok (.invokevirtual 51, 3) := by decide +kernel
theorem d_Rw_cutLength_12 : decode (zb m_Rw_cutLength) 12 = .ok (.iload 4, 2) := by decide +kernel
theorem d_Rw_cutLength_14 : decode (zb m_Rw_cutLength) 14 = .ok (.isub, 1) := by decide +kernel
theorem d_Rw_cutLength_15 : decode (zb m_Rw_cutLength) 15 = .ok (.istore 5, 2) := by decide +kernel
theorem d_Rw_cutLength_17 : decode (zb m_Rw_cutLength) 17 = .ok (.iload 5, 2) := by decide +kernel
theorem d_Rw_cutLength_19 : decode (zb m_Rw_cutLength) 19 = .ok (.ifCond .le 20, 3) := by decide +kernel
theorem d_Rw_cutLength_22 : decode (zb m_Rw_cutLength) 22 = .ok (.iload 5, 2) := by decide +kernel
theorem d_Rw_cutLength_24 : decode (zb m_Rw_cutLength) 24 = .ok (.aload_n 0, 1) := by decide +kernel
theorem d_Rw_cutLength_25 : decode (zb m_Rw_cutLength) 25 = .ok (.iload 4, 2) := by decide +kernel
theorem d_Rw_cutLength_27 : decode (zb m_Rw_cutLength) 27 = .ok (.iload_n 3, 1) := by decide +kernel
theorem d_Rw_cutLength_28 : decode (zb m_Rw_cutLength) 28 = .ok (.invokevirtual 54, 3) := by decide +kernel
theorem d_Rw_cutLength_31 : decode (zb m_Rw_cutLength) 31 = .ok (.if_icmp .gt 8, 3) := by decide +kernel
theorem d_Rw_cutLength_34 : decode (zb m_Rw_cutLength) 34 = .ok (.iload 5, 2) := by decide +kernel
theorem d_Rw_cutLength_36 : decode (zb m_Rw_cutLength) 36 = .ok (.goto 4, 3) := by decide +kernel
theorem d_Rw_cutLength_39 : decode (zb m_Rw_cutLength) 39 = .ok (.iconst 0, 1) := by decide +kernel
theorem d_Rw_cutLength_40 : decode (zb m_Rw_cutLength) 40 = .ok (.ireturn, 1) := by decide +kernel
theorem d_Sg_init_0 : decode (zb m_Sg_init) 0 = .ok (.aload_n 0, 1) := by decide +kernel
theorem d_Sg_init_1 : decode (zb m_Sg_init) 1 = .ok (.invokespecial 3, 3) := by decide +kernel
theorem d_Sg_init_4 : decode (zb m_Sg_init) 4 = .ok (.iload_n 1, 1) := by decide +kernel
theorem d_Sg_init_5 : decode (zb m_Sg_init) 5 = .ok (.iconst 0, 1) := by decide +kernel
theorem d_Sg_init_6 : decode (zb m_Sg_init) 6 = .ok (.invokestatic 9, 3) := by decide +kernel
theorem d_Sg_init_9 : decode (zb m_Sg_init) 9 = .ok (.istore_n 2, 1) := by decide +kernel
theorem d_Sg_init_10 : decode (zb m_Sg_init) 10 = .ok (.aload_n 0, 1) := by decide +kernel
theorem d_Sg_init_11 : decode (zb m_Sg_init) 11 = .ok (.iload_n 2, 1) := by decide +kernel
theorem d_Sg_init_12 : decode (zb m_Sg_init) 12 = .ok (.newarray .int, 2) := by decide +kernel
theorem d_Sg_init_14 : decode (zb m_Sg_init) 14 = .ok (.putfield 15, 3) := by decide +kernel
theorem d_Sg_init_17 : decode (zb m_Sg_init) 17 = .ok (.aload_n 0, 1) := by decide +kernel
theorem d_Sg_init_18 : decode (zb m_Sg_init) 18 = .ok (.iload_n 2, 1) := by decide +kernel
theorem d_Sg_init_19 : decode (zb m_Sg_init) 19 = .ok (.newarray .int, 2) := by decide +kernel
theorem d_Sg_init_21 : decode (zb m_Sg_init) 21 = .ok (.putfield 21, 3) := by decide +kernel
theorem d_Sg_init_24 : decode (zb m_Sg_init) 24 = .ok (.return_, 1) := by decide +kernel
theorem d_Sg_many_0 : decode (zb m_Sg_many) 0 = .ok (.aload_n 0, 1) := by decide +kernel
theorem d_Sg_many_1 : decode (zb m_Sg_many) 1 = .ok (.getfield 24, 3) := by decide +kernel
theorem d_Sg_many_4 : decode (zb m_Sg_many) 4 = .ok (.ireturn, 1) := by decide +kernel
theorem d_Sg_clear_0 : decode (zb m_Sg_clear) 0 = .ok (.aload_n 0, 1) := by decide +kernel
theorem d_Sg_clear_1 : decode (zb m_Sg_clear) 1 = .ok (.iconst 0, 1) := by decide +kernel
theorem d_Sg_clear_2 : decode (zb m_Sg_clear) 2 = .ok (.putfield 24, 3) := by decide +kernel
theorem d_Sg_clear_5 : decode (zb m_Sg_clear) 5 = .ok (.return_, 1) := by decide +kernel
theorem d_Sg_add_0 : decode (zb m_Sg_add) 0 = .ok (.aload_n 0, 1) := by decide +kernel
theorem d_Sg_add_1 : decode (zb m_Sg_add) 1 = .ok (.getfield 24, 3) := by decide +kernel
theorem d_Sg_add_4 : decode (zb m_Sg_add) 4 = .ok (.aload_n 0, 1) := by decide +kernel
theorem d_Sg_add_5 : decode (zb m_Sg_add) 5 = .ok (.getfield 15, 3) := by decide +kernel
theorem d_Sg_add_8 : decode (zb m_Sg_add) 8 = .ok (.arraylength, 1) := by decide +kernel
theorem d_Sg_add_9 : decode (zb m_Sg_add) 9 = .ok (.if_icmp .ge 15, 3) := by decide +kernel
theorem d_Sg_add_12 : decode (zb m_Sg_add) 12 = .ok (.aload_n 0, 1) := by decide +kernel
theorem d_Sg_add_13 : decode (zb m_Sg_add) 13 = .ok (.getfield 24, 3) := by decide +kernel
theorem d_Sg_add_16 : decode (zb m_Sg_add) 16 = .ok (.aload_n 0, 1) := by decide +kernel
theorem d_Sg_add_17 : decode (zb m_Sg_add) 17 = .ok (.getfield 21, 3) := by decide +kernel
theorem d_Sg_add_20 : decode (zb m_Sg_add) 20 = .ok (.arraylength, 1) := by decide +kernel
theorem d_Sg_add_21 : decode (zb m_Sg_add) 21 = .ok (.if_icmp .lt 5, 3) := by decide +kernel
theorem d_Sg_add_24 : decode (zb m_Sg_add) 24 = .ok (.iconst 0, 1) := by decide +kernel
theorem d_Sg_add_25 : decode (zb m_Sg_add) 25 = .ok (.ireturn, 1) := by decide +kernel
theorem d_Sg_add_26 : decode (zb m_Sg_add) 26 = .ok (.aload_n 0, 1) := by decide +kernel
theorem d_Sg_add_27 : decode (zb m_Sg_add) 27 = .ok (.getfield 15, 3) := by decide +kernel
theorem d_Sg_add_30 : decode (zb m_Sg_add) 30 = .ok (.aload_n 0, 1) := by decide +kernel
theorem d_Sg_add_31 : decode (zb m_Sg_add) 31 = .ok (.getfield 24, 3) := by decide +kernel
theorem d_Sg_add_34 : decode (zb m_Sg_add) 34 = .ok (.iload_n 1, 1) := by decide +kernel
theorem d_Sg_add_35 : decode (zb m_Sg_add) 35 = .ok (.iastore, 1) := by decide +kernel
theorem d_Sg_add_36 : decode (zb m_Sg_add) 36 = .ok (.aload_n 0, 1) := by decide +kernel
theorem d_Sg_add_37 : decode (zb m_Sg_add) 37 = .ok (.getfield 21, 3) := by decide +kernel
theorem d_Sg_add_40 : decode (zb m_Sg_add) 40 = .ok (.aload_n 0, 1) := by decide +kernel
theorem d_Sg_add_41 : decode (zb m_Sg_add) 41 = .ok (.getfield 24, 3) := by decide +kernel
theorem d_Sg_add_44 : decode (zb m_Sg_add) 44 = .ok (.iload_n 1, 1) := by decide +kernel
theorem d_Sg_add_45 : decode (zb m_Sg_add) 45 = .ok (.invokestatic 28, 3) := by decide +kernel
theorem d_Sg_add_48 : decode (zb m_Sg_add) 48 = .ok (.iastore, 1) := by decide +kernel
theorem d_Sg_add_49 : decode (zb m_Sg_add) 49 = .ok (.aload_n 0, 1) := by decide +kernel
theorem d_Sg_add_50 : decode (zb m_Sg_add) 50 = .ok (.dup, 1) := by decide +kernel
theorem d_Sg_add_51 : decode (zb m_Sg_add) 51 = .ok (.getfield 24, 3) := by decide +kernel
theorem d_Sg_add_54 : decode (zb m_Sg_add) 54 = .ok (.iconst 1, 1) := by decide +kernel
theorem d_Sg_add_55 : decode (zb m_Sg_add) 55 = .ok (.iadd, 1) := by decide +kernel
theorem d_Sg_add_56 : decode (zb m_Sg_add) 56 = .ok (.putfield 24, 3) := by decide +kernel
theorem d_Sg_add_59 : decode (zb m_Sg_add) 59 = .ok (.iconst 1, 1) := by decide +kernel
theorem d_Sg_add_60 : decode (zb m_Sg_add) 60 = .ok (.ireturn, 1) := by decide +kernel
theorem d_Sg_kindOf_0 : decode (zb m_Sg_kindOf) 0 = .ok (.iload_n 0, 1) := by decide +kernel
theorem d_Sg_kindOf_1 : decode (zb m_Sg_kindOf) 1 = .ok (.bipush 97, 2) := by decide +kernel
theorem d_Sg_kindOf_3 : decode (zb m_Sg_kindOf) 3 = .ok (.if_icmp .lt 11, 3) := by decide +kernel
theorem d_Sg_kindOf_6 : decode (zb m_Sg_kindOf) 6 = .ok (.iload_n 0, 1) := by decide +kernel
theorem d_Sg_kindOf_7 : decode (zb m_Sg_kindOf) 7 = .ok (.bipush 101, 2) := by decide +kernel
theorem d_Sg_kindOf_9 : decode (zb m_Sg_kindOf) 9 = .ok (.if_icmp .gt 5, 3) := by decide +kernel
theorem d_Sg_kindOf_12 : decode (zb m_Sg_kindOf) 12 = .ok (.iconst 0, 1) := by decide +kernel
theorem d_Sg_kindOf_13 : decode (zb m_Sg_kindOf) 13 = .ok (.ireturn, 1) := by decide +kernel
theorem d_Sg_kindOf_14 : decode (zb m_Sg_kindOf) 14 = .ok (.iload_n 0, 1) := by decide +kernel
theorem d_Sg_kindOf_15 : decode (zb m_Sg_kindOf) 15 = .ok (.bipush 48, 2) := by decide +kernel
theorem d_Sg_kindOf_17 : decode (zb m_Sg_kindOf) 17 = .ok (.if_icmp .lt 11, 3) := by decide +kernel
theorem d_Sg_kindOf_20 : decode (zb m_Sg_kindOf) 20 = .ok (.iload_n 0, 1) := by decide +kernel
theorem d_Sg_kindOf_21 : decode (zb m_Sg_kindOf) 21 = .ok (.bipush 52, 2) := by decide +kernel
theorem d_Sg_kindOf_23 : decode (zb m_Sg_kindOf) 23 = .ok (.if_icmp .gt 5, 3) := by decide +kernel
theorem d_Sg_kindOf_26 : decode (zb m_Sg_kindOf) 26 = .ok (.iconst 1, 1) := by decide +kernel
theorem d_Sg_kindOf_27 : decode (zb m_Sg_kindOf) 27 = .ok (.ireturn, 1) := by decide +kernel
theorem d_Sg_kindOf_28 : decode (zb m_Sg_kindOf) 28 = .ok (.iload_n 0, 1) := by decide +kernel
theorem d_Sg_kindOf_29 : decode (zb m_Sg_kindOf) 29 = .ok (.bipush 45, 2) := by decide +kernel
theorem d_Sg_kindOf_31 : decode (zb m_Sg_kindOf) 31 = .ok (.if_icmp .eq 9, 3) := by decide +kernel
theorem d_Sg_kindOf_34 : decode (zb m_Sg_kindOf) 34 = .ok (.iload_n 0, 1) := by decide +kernel
theorem d_Sg_kindOf_35 : decode (zb m_Sg_kindOf) 35 = .ok (.bipush 46, 2) := by decide +kernel
theorem d_Sg_kindOf_37 : decode (zb m_Sg_kindOf) 37 = .ok (.if_icmp .ne 7, 3) := by decide +kernel
theorem d_Sg_kindOf_40 : decode (zb m_Sg_kindOf) 40 = .ok (.iconst 2, 1) := by decide +kernel
theorem d_Sg_kindOf_41 : decode (zb m_Sg_kindOf) 41 = .ok (.goto 5, 3) := by decide +kernel
theorem d_Sg_kindOf_44 : decode (zb m_Sg_kindOf) 44 = .ok (.bipush (-6), 2) := by decide +kernel
theorem d_Sg_kindOf_46 : decode (zb m_Sg_kindOf) 46 = .ok (.ireturn, 1) := by decide +kernel
theorem d_Sg_at_0 : decode (zb m_Sg_at) 0 = .ok (.iload_n 1, 1) := by decide +kernel
theorem d_Sg_at_1 : decode (zb m_Sg_at) 1 = .ok (.ifCond .lt 20, 3) := by decide +kernel
theorem d_Sg_at_4 : decode (zb m_Sg_at) 4 = .ok (.iload_n 1, 1) := by decide +kernel
theorem d_Sg_at_5 : decode (zb m_Sg_at) 5 = .ok (.aload_n 0, 1) := by decide +kernel
theorem d_Sg_at_6 : decode (zb m_Sg_at) 6 = .ok (.getfield 24, 3) := by decide +kernel
theorem d_Sg_at_9 : decode (zb m_Sg_at) 9 = .ok (.if_icmp .ge 12, 3) := by decide +kernel
theorem d_Sg_at_12 : decode (zb m_Sg_at) 12 = .ok (.aload_n 0, 1) := by decide +kernel
theorem d_Sg_at_13 : decode (zb m_Sg_at) 13 = .ok (.getfield 15, 3) := by decide +kernel
theorem d_Sg_at_16 : decode (zb m_Sg_at) 16 = .ok (.iload_n 1, 1) := by decide +kernel
theorem d_Sg_at_17 : decode (zb m_Sg_at) 17 = .ok (.iaload, 1) := by decide +kernel
theorem d_Sg_at_18 : decode (zb m_Sg_at) 18 = .ok (.goto 4, 3) := by decide +kernel
theorem d_Sg_at_21 : decode (zb m_Sg_at) 21 = .ok (.iconst 0, 1) := by decide +kernel
theorem d_Sg_at_22 : decode (zb m_Sg_at) 22 = .ok (.ireturn, 1) := by decide +kernel
theorem d_Sg_kindAt_0 : decode (zb m_Sg_kindAt) 0 = .ok (.iload_n 1, 1) := by decide +kernel
theorem d_Sg_kindAt_1 : decode (zb m_Sg_kindAt) 1 = .ok (.ifCond .lt 20, 3) := by decide +kernel
theorem d_Sg_kindAt_4 : decode (zb m_Sg_kindAt) 4 = .ok (.iload_n 1, 1) := by decide +kernel
theorem d_Sg_kindAt_5 : decode (zb m_Sg_kindAt) 5 = .ok (.aload_n 0, 1) := by decide +kernel
theorem d_Sg_kindAt_6 : decode (zb m_Sg_kindAt) 6 = .ok (.getfield 24, 3) := by decide +kernel
theorem d_Sg_kindAt_9 : decode (zb m_Sg_kindAt) 9 = .ok (.if_icmp .ge 12, 3) := by decide +kernel
theorem d_Sg_kindAt_12 : decode (zb m_Sg_kindAt) 12 = .ok (.aload_n 0, 1) := by decide +kernel
theorem d_Sg_kindAt_13 : decode (zb m_Sg_kindAt) 13 = .ok (.getfield 21, 3) := by decide +kernel
theorem d_Sg_kindAt_16 : decode (zb m_Sg_kindAt) 16 = .ok (.iload_n 1, 1) := by decide +kernel
theorem d_Sg_kindAt_17 : decode (zb m_Sg_kindAt) 17 = .ok (.iaload, 1) := by decide +kernel
theorem d_Sg_kindAt_18 : decode (zb m_Sg_kindAt) 18 = .ok (.goto 5, 3) := by decide +kernel
theorem d_Sg_kindAt_21 : decode (zb m_Sg_kindAt) 21 = .ok (.bipush (-6), 2) := by decide +kernel
theorem d_Sg_kindAt_23 : decode (zb m_Sg_kindAt) 23 = .ok (.ireturn, 1) := by decide +kernel
theorem d_Sg_addFrom_0 : decode (zb m_Sg_addFrom) 0 = .ok (.iload_n 2, 1) := by decide +kernel
theorem d_Sg_addFrom_1 : decode (zb m_Sg_addFrom) 1 = .ok (.istore 4, 2) := by decide +kernel
theorem d_Sg_addFrom_3 : decode (zb m_Sg_addFrom) 3 = .ok (.iload 4, 2) := by decide +kernel
theorem d_Sg_addFrom_5 : decode (zb m_Sg_addFrom) 5 = .ok (.iload_n 3, 1) := by decide +kernel
theorem d_Sg_addFrom_6 : decode (zb m_Sg_addFrom) 6 = .ok (.if_icmp .ge 29, 3) := by decide +kernel
theorem d_Sg_addFrom_9 : decode (zb m_Sg_addFrom) 9 = .ok (.iload 4, 2) := by decide +kernel
theorem d_Sg_addFrom_11 : decode (zb m_Sg_addFrom) 11 = .ok (.aload_n 1, 1) := by decide +kernel
theorem d_Sg_addFrom_12 : decode (zb m_Sg_addFrom) 12 = .ok (.getfield 24, 3) := by decide +kernel
theorem d_Sg_addFrom_15 : decode (zb m_Sg_addFrom) 15 = .ok (.if_icmp .ge 20, 3) := by decide +kernel
theorem d_Sg_addFrom_18 : decode (zb m_Sg_addFrom) 18 = .ok (.aload_n 0, 1) := by decide +kernel
theorem d_Sg_addFrom_19 : decode (zb m_Sg_addFrom) 19 = .ok (.aload_n 1, 1) := by decide +kernel
theorem d_Sg_addFrom_20 : decode (zb m_Sg_addFrom) 20 = .ok (.iload 4, 2) := by decide +kernel
theorem d_Sg_addFrom_22 : decode (zb m_Sg_addFrom) 22 = .ok (.invokevirtual 32, 3) := by decide +kernel
theorem d_Sg_addFrom_25 : decode (zb m_Sg_addFrom) 25 = .ok (.invokevirtual 35, 3) := by decide +kernel
theorem d_Sg_addFrom_28 : decode (zb m_Sg_addFrom) 28 = .ok (.pop, 1) := by decide +kernel
theorem d_Sg_addFrom_29 : decode (zb m_Sg_addFrom) 29 = .ok (.iinc 4 1, 3) := by decide +kernel
theorem d_Sg_addFrom_32 : decode (zb m_Sg_addFrom) 32 = .ok (.goto (-29), 3) := by decide +kernel
theorem d_Sg_addFrom_35 : decode (zb m_Sg_addFrom) 35 = .ok (.return_, 1) := by decide +kernel
theorem d_Sg_copy_0 : decode (zb m_Sg_copy) 0 = .ok (.aload_n 0, 1) := by decide +kernel
theorem d_Sg_copy_1 : decode (zb m_Sg_copy) 1 = .ok (.invokevirtual 39, 3) := by decide +kernel
theorem d_Sg_copy_4 : decode (zb m_Sg_copy) 4 = .ok (.aload_n 0, 1) := by decide +kernel
theorem d_Sg_copy_5 : decode (zb m_Sg_copy) 5 = .ok (.aload_n 1, 1) := by decide +kernel
theorem d_Sg_copy_6 : decode (zb m_Sg_copy) 6 = .ok (.iconst 0, 1) := by decide +kernel
theorem d_Sg_copy_7 : decode (zb m_Sg_copy) 7 = .ok (.aload_n 1, 1) := by decide +kernel
theorem d_Sg_copy_8 : decode (zb m_Sg_copy) 8 = .ok (.getfield 24, 3) := by decide +kernel
theorem d_Sg_copy_11 : decode (zb m_Sg_copy) 11 = .ok (.invokevirtual 42, 3) := by decide +kernel
theorem d_Sg_copy_14 : decode (zb m_Sg_copy) 14 = .ok (.return_, 1) := by decide +kernel
theorem d_Sg_signsEnd_0 : decode (zb m_Sg_signsEnd) 0 = .ok (.iload_n 1, 1) := by decide +kernel
theorem d_Sg_signsEnd_1 : decode (zb m_Sg_signsEnd) 1 = .ok (.istore_n 3, 1) := by decide +kernel
theorem d_Sg_signsEnd_2 : decode (zb m_Sg_signsEnd) 2 = .ok (.iload_n 3, 1) := by decide +kernel
theorem d_Sg_signsEnd_3 : decode (zb m_Sg_signsEnd) 3 = .ok (.aload_n 0, 1) := by decide +kernel
theorem d_Sg_signsEnd_4 : decode (zb m_Sg_signsEnd) 4 = .ok (.getfield 24, 3) := by decide +kernel
theorem d_Sg_signsEnd_7 : decode (zb m_Sg_signsEnd) 7 = .ok (.if_icmp .ge 26, 3) := by decide +kernel
theorem d_Sg_signsEnd_10 : decode (zb m_Sg_signsEnd) 10 = .ok (.iload_n 3, 1) := by decide +kernel
theorem d_Sg_signsEnd_11 : decode (zb m_Sg_signsEnd) 11 = .ok (.iload_n 1, 1) := by decide +kernel
theorem d_Sg_signsEnd_12 : decode (zb m_Sg_signsEnd) 12 = .ok (.isub, 1) := by decide +kernel
theorem d_Sg_signsEnd_13 : decode (zb m_Sg_signsEnd) 13 = .ok (.iload_n 2, 1) := by decide +kernel
theorem d_Sg_signsEnd_14 : decode (zb m_Sg_signsEnd) 14 = .ok (.if_icmp .ge 19, 3) := by decide +kernel
theorem d_Sg_signsEnd_17 : decode (zb m_Sg_signsEnd) 17 = .ok (.aload_n 0, 1) := by decide +kernel
theorem d_Sg_signsEnd_18 : decode (zb m_Sg_signsEnd) 18 = .ok (.iload_n 3, 1) := by decide +kernel
theorem d_Sg_signsEnd_19 : decode (zb m_Sg_signsEnd) 19 = .ok (.invokevirtual 46, 3) := by decide +kernel
theorem d_Sg_signsEnd_22 : decode (zb m_Sg_signsEnd) 22 = .ok (.bipush (-6), 2) := by decide +kernel
theorem d_Sg_signsEnd_24 : decode (zb m_Sg_signsEnd) 24 = .ok (.if_icmp .eq 9, 3) := by decide +kernel
theorem d_Sg_signsEnd_27 : decode (zb m_Sg_signsEnd) 27 = .ok (.iinc 3 1, 3) := by decide +kernel
theorem d_Sg_signsEnd_30 : decode (zb m_Sg_signsEnd) 30 = .ok (.goto (-28), 3) := by decide +kernel
theorem d_Sg_signsEnd_33 : decode (zb m_Sg_signsEnd) 33 = .ok (.iload_n 3, 1) := by decide +kernel
theorem d_Sg_signsEnd_34 : decode (zb m_Sg_signsEnd) 34 = .ok (.ireturn, 1) := by decide +kernel
end
section
/-! the instructions -/
theorem d_M_init_0 : decode (zb m_M_init) 0 = .ok (.aload_n 0, 1) := by decide +kernel
theorem d_M_init_1 : decode (zb m_M_init) 1 = .ok (.invokespecial 1, 3) := by decide +kernel
theorem d_M_init_4 : decode (zb m_M_init) 4 = .ok (.aload_n 0, 1) := by decide +kernel
theorem d_M_init_5 : decode (zb m_M_init) 5 = .ok (.bipush 36, 2) := by decide +kernel
theorem d_M_init_7 : decode (zb m_M_init) 7 = .ok (.newarray .int, 2) := by decide +kernel
theorem d_M_init_9 : decode (zb m_M_init) 9 = .ok (.putfield 7, 3) := by decide +kernel
theorem d_M_init_12 : decode (zb m_M_init) 12 = .ok (.aload_n 0, 1) := by decide +kernel
theorem d_M_init_13 : decode (zb m_M_init) 13 = .ok (.iconst 3, 1) := by decide +kernel
theorem d_M_init_14 : decode (zb m_M_init) 14 = .ok (.newarray .int, 2) := by decide +kernel
theorem d_M_init_16 : decode (zb m_M_init) 16 = .ok (.putfield 13, 3) := by decide +kernel
theorem d_M_init_19 : decode (zb m_M_init) 19 = .ok (.aload_n 0, 1) := by decide +kernel
theorem d_M_init_20 : decode (zb m_M_init) 20 = .ok (.bipush 15, 2) := by decide +kernel
theorem d_M_init_22 : decode (zb m_M_init) 22 = .ok (.newarray .int, 2) := by decide +kernel
theorem d_M_init_24 : decode (zb m_M_init) 24 = .ok (.putfield 16, 3) := by decide +kernel
theorem d_M_init_27 : decode (zb m_M_init) 27 = .ok (.aload_n 0, 1) := by decide +kernel
theorem d_M_init_28 : decode (zb m_M_init) 28 = .ok (.iconst 3, 1) := by decide +kernel
theorem d_M_init_29 : decode (zb m_M_init) 29 = .ok (.newarray .int, 2) := by decide +kernel
theorem d_M_init_31 : decode (zb m_M_init) 31 = .ok (.putfield 19, 3) := by decide +kernel
theorem d_M_init_34 : decode (zb m_M_init) 34 = .ok (.aload_n 0, 1) := by decide +kernel
theorem d_M_init_35 : decode (zb m_M_init) 35 = .ok (.bipush 72, 2) := by decide +kernel
theorem d_M_init_37 : decode (zb m_M_init) 37 = .ok (.newarray .int, 2) := by decide +kernel
theorem d_M_init_39 : decode (zb m_M_init) 39 = .ok (.putfield 22, 3) := by decide +kernel
theorem d_M_init_42 : decode (zb m_M_init) 42 = .ok (.aload_n 0, 1) := by decide +kernel
theorem d_M_init_43 : decode (zb m_M_init) 43 = .ok (.bipush 6, 2) := by decide +kernel
theorem d_M_init_45 : decode (zb m_M_init) 45 = .ok (.newarray .int, 2) := by decide +kernel
theorem d_M_init_47 : decode (zb m_M_init) 47 = .ok (.putfield 25, 3) := by decide +kernel
theorem d_M_init_50 : decode (zb m_M_init) 50 = .ok (.aload_n 0, 1) := by decide +kernel
theorem d_M_init_51 : decode (zb m_M_init) 51 = .ok (.bipush 18, 2) := by decide +kernel
theorem d_M_init_53 : decode (zb m_M_init) 53 = .ok (.newarray .int, 2) := by decide +kernel
theorem d_M_init_55 : decode (zb m_M_init) 55 = .ok (.putfield 28, 3) := by decide +kernel
theorem d_M_init_58 : decode (zb m_M_init) 58 = .ok (.aload_n 0, 1) := by decide +kernel
theorem d_M_init_59 : decode (zb m_M_init) 59 = .ok (.bipush 62, 2) := by decide +kernel
theorem d_M_init_61 : decode (zb m_M_init) 61 = .ok (.newarray .int, 2) := by decide +kernel
theorem d_M_init_63 : decode (zb m_M_init) 63 = .ok (.putfield 31, 3) := by decide +kernel
theorem d_M_init_66 : decode (zb m_M_init) 66 = .ok (.aload_n 0, 1) := by decide +kernel
theorem d_M_init_67 : decode (zb m_M_init) 67 = .ok (.bipush 12, 2) := by decide +kernel
theorem d_M_init_69 : decode (zb m_M_init) 69 = .ok (.newarray .int, 2) := by decide +kernel
theorem d_M_init_71 : decode (zb m_M_init) 71 = .ok (.putfield 34, 3) := by decide +kernel
theorem d_M_init_74 : decode (zb m_M_init) 74 = .ok (.aload_n 0, 1) := by decide +kernel
theorem d_M_init_75 : decode (zb m_M_init) 75 = .ok (.bipush 48, 2) := by decide +kernel
theorem d_M_init_77 : decode (zb m_M_init) 77 = .ok (.newarray .int, 2) := by decide +kernel
theorem d_M_init_79 : decode (zb m_M_init) 79 = .ok (.putfield 37, 3) := by decide +kernel
theorem d_M_init_82 : decode (zb m_M_init) 82 = .ok (.aload_n 0, 1) := by decide +kernel
theorem d_M_init_83 : decode (zb m_M_init) 83 = .ok (.bipush 20, 2) := by decide +kernel
theorem d_M_init_85 : decode (zb m_M_init) 85 = .ok (.newarray .int, 2) := by decide +kernel
theorem d_M_init_87 : decode (zb m_M_init) 87 = .ok (.putfield 40, 3) := by decide +kernel
theorem d_M_init_90 : decode (zb m_M_init) 90 = .ok (.aload_n 0, 1) := by decide +kernel
theorem d_M_init_91 : decode (zb m_M_init) 91 = .ok (.iconst 4, 1) := by decide +kernel
theorem d_M_init_92 : decode (zb m_M_init) 92 = .ok (.newarray .int, 2) := by decide +kernel
theorem d_M_init_94 : decode (zb m_M_init) 94 = .ok (.putfield 43, 3) := by decide +kernel
theorem d_M_init_97 : decode (zb m_M_init) 97 = .ok (.aload_n 0, 1) := by decide +kernel
theorem d_M_init_98 : decode (zb m_M_init) 98 = .ok (.sipush 248, 3) := by decide +kernel
theorem d_M_init_101 : decode (zb m_M_init) 101 = .ok (.newarray .int, 2) := by decide +kernel
theorem d_M_init_103 : decode (zb m_M_init) 103 = .ok (.putfield 46, 3) := by decide +kernel
theorem d_M_init_106 : decode (zb m_M_init) 106 = .ok (.aload_n 0, 1) := by decide +kernel
theorem d_M_init_107 : decode (zb m_M_init) 107 = .ok (.sipush 1296, 3) := by decide +kernel
theorem d_M_init_110 : decode (zb m_M_init) 110 = .ok (.newarray .long, 2) := by decide +kernel
theorem d_M_init_112 : decode (zb m_M_init) 112 = .ok (.putfield 49, 3) := by decide +kernel
theorem d_M_init_115 : decode (zb m_M_init) 115 = .ok (.aload_n 0, 1) := by decide +kernel
theorem d_M_init_116 : decode (zb m_M_init) 116 = .ok (.sipush 1296, 3) := by decide +kernel
theorem d_M_init_119 : decode (zb m_M_init) 119 = .ok (.newarray .int, 2) := by decide +kernel
theorem d_M_init_121 : decode (zb m_M_init) 121 = .ok (.putfield 53, 3) := by decide +kernel
theorem d_M_init_124 : decode (zb m_M_init) 124 = .ok (.aload_n 0, 1) := by decide +kernel
theorem d_M_init_125 : decode (zb m_M_init) 125 = .ok (.iconst 5, 1) := by decide +kernel
theorem d_M_init_126 : decode (zb m_M_init) 126 = .ok (.newarray .int, 2) := by decide +kernel
theorem d_M_init_128 : decode (zb m_M_init) 128 = .ok (.putfield 56, 3) := by decide +kernel
theorem d_M_init_131 : decode (zb m_M_init) 131 = .ok (.aload_n 0, 1) := by decide +kernel
theorem d_M_init_132 : decode (zb m_M_init) 132 = .ok (.iconst 5, 1) := by decide +kernel
theorem d_M_init_133 : decode (zb m_M_init) 133 = .ok (.newarray .int, 2) := by decide +kernel
theorem d_M_init_135 : decode (zb m_M_init) 135 = .ok (.putfield 59, 3) := by decide +kernel
theorem d_M_init_138 : decode (zb m_M_init) 138 = .ok (.aload_n 0, 1) := by decide +kernel
theorem d_M_init_139 : decode (zb m_M_init) 139 = .ok (.iconst 5, 1) := by decide +kernel
theorem d_M_init_140 : decode (zb m_M_init) 140 = .ok (.newarray .int, 2) := by decide +kernel
theorem d_M_init_142 : decode (zb m_M_init) 142 = .ok (.putfield 62, 3) := by decide +kernel
theorem d_M_init_145 : decode (zb m_M_init) 145 = .ok (.aload_n 0, 1) := by decide +kernel
theorem d_M_init_146 : decode (zb m_M_init) 146 = .ok (.bipush 60, 2) := by decide +kernel
theorem d_M_init_148 : decode (zb m_M_init) 148 = .ok (.newarray .int, 2) := by decide +kernel
theorem d_M_init_150 : decode (zb m_M_init) 150 = .ok (.putfield 65, 3) := by decide +kernel
theorem d_M_init_153 : decode (zb m_M_init) 153 = .ok (.aload_n 0, 1) := by decide +kernel
theorem d_M_init_154 : decode (zb m_M_init) 154 = .ok (.sipush 300, 3) := by decide +kernel
theorem d_M_init_157 : decode (zb m_M_init) 157 = .ok (.newarray .int, 2) := by decide +kernel
theorem d_M_init_159 : decode (zb m_M_init) 159 = .ok (.putfield 68, 3) := by decide +kernel
theorem d_M_init_162 : decode (zb m_M_init) 162 = .ok (.aload_n 0, 1) := by decide +kernel
theorem d_M_init_163 : decode (zb m_M_init) 163 = .ok (.iconst 2, 1) := by decide +kernel
theorem d_M_init_164 : decode (zb m_M_init) 164 = .ok (.newarray .boolean, 2) := by decide +kernel
theorem d_M_init_166 : decode (zb m_M_init) 166 = .ok (.putfield 71, 3) := by decide +kernel
theorem d_M_init_169 : decode (zb m_M_init) 169 = .ok (.iconst 0, 1) := by decide +kernel
theorem d_M_init_170 : decode (zb m_M_init) 170 = .ok (.istore_n 1, 1) := by decide +kernel
theorem d_M_init_171 : decode (zb m_M_init) 171 = .ok (.iconst 0, 1) := by decide +kernel
theorem d_M_init_172 : decode (zb m_M_init) 172 = .ok (.istore_n 2, 1) := by decide +kernel
theorem d_M_init_173 : decode (zb m_M_init) 173 = .ok (.iload_n 2, 1) := by decide +kernel
theorem d_M_init_174 : decode (zb m_M_init) 174 = .ok (.sipush 300, 3) := by decide +kernel
theorem d_M_init_177 : decode (zb m_M_init) 177 = .ok (.if_icmp .ge 26, 3) := by decide +kernel
theorem d_M_init_180 : decode (zb m_M_init) 180 = .ok (.iload_n 2, 1) := by decide +kernel
theorem d_M_init_181 : decode (zb m_M_init) 181 = .ok (.invokestatic 75, 3) := by decide +kernel
theorem d_M_init_184 : decode (zb m_M_init) 184 = .ok (.ifCond .eq 13, 3) := by decide +kernel
theorem d_M_init_187 : decode (zb m_M_init) 187 = .ok (.aload_n 0, 1) := by decide +kernel
theorem d_M_init_188 : decode (zb m_M_init) 188 = .ok (.getfield 31, 3) := by decide +kernel
theorem d_M_init_191 : decode (zb m_M_init) 191 = .ok (.iload_n 1, 1) := by decide +kernel
theorem d_M_init_192 : decode (zb m_M_init) 192 = .ok (.iload_n 2, 1) := by decide +kernel
theorem d_M_init_193 : decode (zb m_M_init) 193 = .ok (.iastore, 1) := by decide +kernel
theorem d_M_init_194 : decode (zb m_M_init) 194 = .ok (.iinc 1 1, 3) := by decide +kernel
theorem d_M_init_197 : decode (zb m_M_init) 197 = .ok (.iinc 2 1, 3) := by decide +kernel
theorem d_M_init_200 : decode (zb m_M_init) 200 = .ok (.goto (-27), 3) := by decide +kernel
theorem d_M_init_203 : decode (zb m_M_init) 203 = .ok (.return_, 1) := by decide +kernel
theorem d_M_in_0 : decode (zb m_M_in) 0 = .ok (.iload_n 0, 1) := by decide +kernel
theorem d_M_in_1 : decode (zb m_M_in) 1 = .ok (.iload_n 1, 1) := by decide +kernel
theorem d_M_in_2 : decode (zb m_M_in) 2 = .ok (.if_icmp .lt 12, 3) := by decide +kernel
theorem d_M_in_5 : decode (zb m_M_in) 5 = .ok (.iload_n 0, 1) := by decide +kernel
theorem d_M_in_6 : decode (zb m_M_in) 6 = .ok (.iload_n 2, 1) := by decide +kernel
theorem d_M_in_7 : decode (zb m_M_in) 7 = .ok (.if_icmp .gt 7, 3) := by decide +kernel
theorem d_M_in_10 : decode (zb m_M_in) 10 = .ok (.iconst 1, 1) := by decide +kernel
theorem d_M_in_11 : decode (zb m_M_in) 11 = .ok (.goto 4, 3) := by decide +kernel
theorem d_M_in_14 : decode (zb m_M_in) 14 = .ok (.iconst 0, 1) := by decide +kernel
theorem d_M_in_15 : decode (zb m_M_in) 15 = .ok (.ireturn, 1) := by decide +kernel
theorem d_M_isCode_0 : decode (zb m_M_isCode) 0 = .ok (.iload_n 0, 1) := by decide +kernel
theorem d_M_isCode_1 : decode (zb m_M_isCode) 1 = .ok (.bipush 100, 2) := by decide +kernel
theorem d_M_isCode_3 : decode (zb m_M_isCode) 3 = .ok (.if_icmp .ge 30, 3) := by decide +kernel
theorem d_M_isCode_6 : decode (zb m_M_isCode) 6 = .ok (.iload_n 0, 1) := by decide +kernel
theorem d_M_isCode_7 : decode (zb m_M_isCode) 7 = .ok (.iconst 0, 1) := by decide +kernel
theorem d_M_isCode_8 : decode (zb m_M_isCode) 8 = .ok (.bipush 12, 2) := by decide +kernel
theorem d_M_isCode_10 : decode (zb m_M_isCode) 10 = .ok (.invokestatic 79, 3) := by decide +kernel
theorem d_M_isCode_13 : decode (zb m_M_isCode) 13 = .ok (.ifCond .ne 14, 3) := by decide +kernel
theorem d_M_isCode_16 : decode (zb m_M_isCode) 16 = .ok (.iload_n 0, 1) := by decide +kernel
theorem d_M_isCode_17 : decode (zb m_M_isCode) 17 = .ok (.bipush 20, 2) := by decide +kernel
theorem d_M_isCode_19 : decode (zb m_M_isCode) 19 = .ok (.bipush 32, 2) := by decide +kernel
theorem d_M_isCode_21 : decode (zb m_M_isCode) 21 = .ok (.invokestatic 79, 3) := by decide +kernel
theorem d_M_isCode_24 : decode (zb m_M_isCode) 24 = .ok (.ifCond .eq 7, 3) := by decide +kernel
theorem d_M_isCode_27 : decode (zb m_M_isCode) 27 = .ok (.iconst 1, 1) := by decide +kernel
theorem d_M_isCode_28 : decode (zb m_M_isCode) 28 = .ok (.goto 4, 3) := by decide +kernel
theorem d_M_isCode_31 : decode (zb m_M_isCode) 31 = .ok (.iconst 0, 1) := by decide +kernel
theorem d_M_isCode_32 : decode (zb m_M_isCode) 32 = .ok (.ireturn, 1) := by decide +kernel
theorem d_M_isCode_33 : decode (zb m_M_isCode) 33 = .ok (.iload_n 0, 1) := by decide +kernel
theorem d_M_isCode_34 : decode (zb m_M_isCode) 34 = .ok (.bipush 100, 2) := by decide +kernel
theorem d_M_isCode_36 : decode (zb m_M_isCode) 36 = .ok (.irem, 1) := by decide +kernel
theorem d_M_isCode_37 : decode (zb m_M_isCode) 37 = .ok (.istore_n 1, 1) := by decide +kernel
theorem d_M_isCode_38 : decode (zb m_M_isCode) 38 = .ok (.iload_n 0, 1) := by decide +kernel
theorem d_M_isCode_39 : decode (zb m_M_isCode) 39 = .ok (.sipush 300, 3) := by decide +kernel
theorem d_M_isCode_42 : decode (zb m_M_isCode) 42 = .ok (.if_icmp .ge 34, 3) := by decide +kernel
theorem d_M_isCode_45 : decode (zb m_M_isCode) 45 = .ok (.iload_n 1, 1) := by decide +kernel
theorem d_M_isCode_46 : decode (zb m_M_isCode) 46 = .ok (.bipush 60, 2) := by decide +kernel
theorem d_M_isCode_48 : decode (zb m_M_isCode) 48 = .ok (.if_icmp .ge 28, 3) := by decide +kernel
theorem d_M_isCode_51 : decode (zb m_M_isCode) 51 = .ok (.iload_n 1, 1) := by decide +kernel
theorem d_M_isCode_52 : decode (zb m_M_isCode) 52 = .ok (.bipush 20, 2) := by decide +kernel
theorem d_M_isCode_54 : decode (zb m_M_isCode) 54 = .ok (.irem, 1) := by decide +kernel
theorem d_M_isCode_55 : decode (zb m_M_isCode) 55 = .ok (.iconst 0, 1) := by decide +kernel
theorem d_M_isCode_56 : decode (zb m_M_isCode) 56 = .ok (.bipush 6, 2) := by decide +kernel
theorem d_M_isCode_58 : decode (zb m_M_isCode) 58 = .ok (.invokestatic 79, 3) := by decide +kernel
theorem d_M_isCode_61 : decode (zb m_M_isCode) 61 = .ok (.ifCond .eq 15, 3) := by decide +kernel
theorem d_M_isCode_64 : decode (zb m_M_isCode) 64 = .ok (.iload_n 1, 1) := by decide +kernel
theorem d_M_isCode_65 : decode (zb m_M_isCode) 65 = .ok (.bipush 20, 2) := by decide +kernel
theorem d_M_isCode_67 : decode (zb m_M_isCode) 67 = .ok (.irem, 1) := by decide +kernel
theorem d_M_isCode_68 : decode (zb m_M_isCode) 68 = .ok (.iconst 3, 1) := by decide +kernel
theorem d_M_isCode_69 : decode (zb m_M_isCode) 69 = .ok (.if_icmp .eq 7, 3) := by decide +kernel
theorem d_M_isCode_72 : decode (zb m_M_isCode) 72 = .ok (.iconst 1, 1) := by decide +kernel
theorem d_M_isCode_73 : decode (zb m_M_isCode) 73 = .ok (.goto 4, 3) := by decide +kernel
theorem d_M_isCode_76 : decode (zb m_M_isCode) 76 = .ok (.iconst 0, 1) := by decide +kernel
theorem d_M_isCode_77 : decode (zb m_M_isCode) 77 = .ok (.ireturn, 1) := by decide +kernel
theorem d_M_costOfMark_0 : decode (zb m_M_costOfMark) 0 = .ok (.iload_n 0, 1) := by decide +kernel
theorem d_M_costOfMark_1 : decode (zb m_M_costOfMark) 1 = .ok (.bipush 100, 2) := by decide +kernel
theorem d_M_costOfMark_3 : decode (zb m_M_costOfMark) 3 = .ok (.if_icmp .ge 7, 3) := by decide +kernel
theorem d_M_costOfMark_6 : decode (zb m_M_costOfMark) 6 = .ok (.iconst 3, 1) := by decide +kernel
theorem d_M_costOfMark_7 : decode (zb m_M_costOfMark) 7 = .ok (.goto 30, 3) := by decide +kernel
theorem d_M_costOfMark_10 : decode (zb m_M_costOfMark) 10 = .ok (.iload_n 0, 1) := by decide +kernel
theorem d_M_costOfMark_11 : decode (zb m_M_costOfMark) 11 = .ok (.bipush 100, 2) := by decide +kernel
theorem d_M_costOfMark_13 : decode (zb m_M_costOfMark) 13 = .ok (.irem, 1) := by decide +kernel
theorem d_M_costOfMark_14 : decode (zb m_M_costOfMark) 14 = .ok (.bipush 20, 2) := by decide +kernel
theorem d_M_costOfMark_16 : decode (zb m_M_costOfMark) 16 = .ok (.irem, 1) := by decide +kernel
theorem d_M_costOfMark_17 : decode (zb m_M_costOfMark) 17 = .ok (.iconst 4, 1) := by decide +kernel
theorem d_M_costOfMark_18 : decode (zb m_M_costOfMark) 18 = .ok (.if_icmp .eq 14, 3) := by decide +kernel
theorem d_M_costOfMark_21 : decode (zb m_M_costOfMark) 21 = .ok (.iload_n 0, 1) := by decide +kernel
theorem d_M_costOfMark_22 : decode (zb m_M_costOfMark) 22 = .ok (.bipush 100, 2) := by decide +kernel
theorem d_M_costOfMark_24 : decode (zb m_M_costOfMark) 24 = .ok (.irem, 1) := by decide +kernel
theorem d_M_costOfMark_25 : decode (zb m_M_costOfMark) 25 = .ok (.bipush 20, 2) := by decide +kernel
theorem d_M_costOfMark_27 : decode (zb m_M_costOfMark) 27 = .ok (.irem, 1) := by decide +kernel
theorem d_M_costOfMark_28 : decode (zb m_M_costOfMark) 28 = .ok (.iconst 2, 1) := by decide +kernel
theorem d_M_costOfMark_29 : decode (zb m_M_costOfMark) 29 = .ok (.if_icmp .ne 7, 3) := by decide +kernel
theorem d_M_costOfMark_32 : decode (zb m_M_costOfMark) 32 = .ok (.iconst 1, 1) := by decide +kernel
theorem d_M_costOfMark_33 : decode (zb m_M_costOfMark) 33 = .ok (.goto 4, 3) := by decide +kernel
theorem d_M_costOfMark_36 : decode (zb m_M_costOfMark) 36 = .ok (.iconst 2, 1) := by decide +kernel
theorem d_M_costOfMark_37 : decode (zb m_M_costOfMark) 37 = .ok (.ireturn, 1) := by decide +kernel
theorem d_M_classOf_0 : decode (zb m_M_classOf) 0 = .ok (.iload_n 0, 1) := by decide +kernel
theorem d_M_classOf_1 : decode (zb m_M_classOf) 1 = .ok (.bipush 97, 2) := by decide +kernel
theorem d_M_classOf_3 : decode (zb m_M_classOf) 3 = .ok (.bipush 101, 2) := by decide +kernel
theorem d_M_classOf_5 : decode (zb m_M_classOf) 5 = .ok (.invokestatic 79, 3) := by decide +kernel
theorem d_M_classOf_8 : decode (zb m_M_classOf) 8 = .ok (.ifCond .eq 7, 3) := by decide +kernel
theorem d_M_classOf_11 : decode (zb m_M_classOf) 11 = .ok (.iconst 0, 1) := by decide +kernel
theorem d_M_classOf_12 : decode (zb m_M_classOf) 12 = .ok (.goto 36, 3) := by decide +kernel
theorem d_M_classOf_15 : decode (zb m_M_classOf) 15 = .ok (.iload_n 0, 1) := by decide +kernel
theorem d_M_classOf_16 : decode (zb m_M_classOf) 16 = .ok (.bipush 48, 2) := by decide +kernel
theorem d_M_classOf_18 : decode (zb m_M_classOf) 18 = .ok (.bipush 52, 2) := by decide +kernel
theorem d_M_classOf_20 : decode (zb m_M_classOf) 20 = .ok (.invokestatic 79, 3) := by decide +kernel
theorem d_M_classOf_23 : decode (zb m_M_classOf) 23 = .ok (.ifCond .eq 7, 3) := by decide +kernel
theorem d_M_classOf_26 : decode (zb m_M_classOf) 26 = .ok (.iconst 1, 1) := by decide +kernel
theorem d_M_classOf_27 : decode (zb m_M_classOf) 27 = .ok (.goto 21, 3) := by decide +kernel
theorem d_M_classOf_30 : decode (zb m_M_classOf) 30 = .ok (.iload_n 0, 1) := by decide +kernel
theorem d_M_classOf_31 : decode (zb m_M_classOf) 31 = .ok (.bipush 45, 2) := by decide +kernel
theorem d_M_classOf_33 : decode (zb m_M_classOf) 33 = .ok (.if_icmp .eq 9, 3) := by decide +kernel
theorem d_M_classOf_36 : decode (zb m_M_classOf) 36 = .ok (.iload_n 0, 1) := by decide +kernel
theorem d_M_classOf_37 : decode (zb m_M_classOf) 37 = .ok (.bipush 46, 2) := by decide +kernel
theorem d_M_classOf_39 : decode (zb m_M_classOf) 39 = .ok (.if_icmp .ne 7, 3) := by decide +kernel
theorem d_M_classOf_42 : decode (zb m_M_classOf) 42 = .ok (.iconst 2, 1) := by decide +kernel
theorem d_M_classOf_43 : decode (zb m_M_classOf) 43 = .ok (.goto 5, 3) := by decide +kernel
theorem d_M_classOf_46 : decode (zb m_M_classOf) 46 = .ok (.bipush (-6), 2) := by decide +kernel
theorem d_M_classOf_48 : decode (zb m_M_classOf) 48 = .ok (.ireturn, 1) := by decide +kernel
theorem d_M_say_0 : decode (zb m_M_say) 0 = .ok (.iload_n 1, 1) := by decide +kernel
theorem d_M_say_1 : decode (zb m_M_say) 1 = .ok (.bipush 33, 2) := by decide +kernel
theorem d_M_say_3 : decode (zb m_M_say) 3 = .ok (.bipush 126, 2) := by decide +kernel
theorem d_M_say_5 : decode (zb m_M_say) 5 = .ok (.invokestatic 79, 3) := by decide +kernel
theorem d_M_say_8 : decode (zb m_M_say) 8 = .ok (.ifCond .ne 6, 3) := by decide +kernel
theorem d_M_say_11 : decode (zb m_M_say) 11 = .ok (.bipush (-2), 2) := by decide +kernel
theorem d_M_say_13 : decode (zb m_M_say) 13 = .ok (.ireturn, 1) := by decide +kernel
theorem d_M_say_14 : decode (zb m_M_say) 14 = .ok (.aload_n 0, 1) := by decide +kernel
theorem d_M_say_15 : decode (zb m_M_say) 15 = .ok (.getfield 83, 3) := by decide +kernel
theorem d_M_say_18 : decode (zb m_M_say) 18 = .ok (.bipush 18, 2) := by decide +kernel
theorem d_M_say_20 : decode (zb m_M_say) 20 = .ok (.if_icmp .ne 6, 3) := by decide +kernel
theorem d_M_say_23 : decode (zb m_M_say) 23 = .ok (.bipush (-4), 2) := by decide +kernel
theorem d_M_say_25 : decode (zb m_M_say) 25 = .ok (.ireturn, 1) := by decide +kernel
theorem d_M_say_26 : decode (zb m_M_say) 26 = .ok (.aload_n 0, 1) := by decide +kernel
theorem d_M_say_27 : decode (zb m_M_say) 27 = .ok (.getfield 28, 3) := by decide +kernel
theorem d_M_say_30 : decode (zb m_M_say) 30 = .ok (.aload_n 0, 1) := by decide +kernel
theorem d_M_say_31 : decode (zb m_M_say) 31 = .ok (.getfield 83, 3) := by decide +kernel
theorem d_M_say_34 : decode (zb m_M_say) 34 = .ok (.iload_n 1, 1) := by decide +kernel
theorem d_M_say_35 : decode (zb m_M_say) 35 = .ok (.iastore, 1) := by decide +kernel
theorem d_M_say_36 : decode (zb m_M_say) 36 = .ok (.aload_n 0, 1) := by decide +kernel
theorem d_M_say_37 : decode (zb m_M_say) 37 = .ok (.dup, 1) := by decide +kernel
theorem d_M_say_38 : decode (zb m_M_say) 38 = .ok (.getfield 83, 3) := by decide +kernel
theorem d_M_say_41 : decode (zb m_M_say) 41 = .ok (.iconst 1, 1) := by decide +kernel
theorem d_M_say_42 : decode (zb m_M_say) 42 = .ok (.iadd, 1) := by decide +kernel
theorem d_M_say_43 : decode (zb m_M_say) 43 = .ok (.putfield 83, 3) := by decide +kernel
theorem d_M_say_46 : decode (zb m_M_say) 46 = .ok (.aload_n 0, 1) := by decide +kernel
theorem d_M_say_47 : decode (zb m_M_say) 47 = .ok (.getfield 83, 3) := by decide +kernel
theorem d_M_say_50 : decode (zb m_M_say) 50 = .ok (.ireturn, 1) := by decide +kernel
theorem d_M_wipe_0 : decode (zb m_M_wipe) 0 = .ok (.aload_n 0, 1) := by decide +kernel
theorem d_M_wipe_1 : decode (zb m_M_wipe) 1 = .ok (.getfield 83, 3) := by decide +kernel
theorem d_M_wipe_4 : decode (zb m_M_wipe) 4 = .ok (.istore_n 1, 1) := by decide +kernel
theorem d_M_wipe_5 : decode (zb m_M_wipe) 5 = .ok (.aload_n 0, 1) := by decide +kernel
theorem d_M_wipe_6 : decode (zb m_M_wipe) 6 = .ok (.iconst 0, 1) := by decide +kernel
theorem d_M_wipe_7 : decode (zb m_M_wipe) 7 = .ok (.putfield 83, 3) := by decide +kernel
theorem d_M_wipe_10 : decode (zb m_M_wipe) 10 = .ok (.iload_n 1, 1) := by decide +kernel
theorem d_M_wipe_11 : decode (zb m_M_wipe) 11 = .ok (.ireturn, 1) := by decide +kernel
theorem d_M_exampleFault_0 : decode (zb m_M_exampleFault) 0 = .ok (.bipush (-6), 2) := by decide +kernel
theorem d_M_exampleFault_2 : decode (zb m_M_exampleFault) 2 = .ok (.istore_n 1, 1) := by decide +kernel
theorem d_M_exampleFault_3 : decode (zb m_M_exampleFault) 3 = .ok (.iconst 0, 1) := by decide +kernel
theorem d_M_exampleFault_4 : decode (zb m_M_exampleFault) 4 = .ok (.istore_n 2, 1) := by decide +kernel
theorem d_M_exampleFault_5 : decode (zb m_M_exampleFault) 5 = .ok (.iload_n 2, 1) := by decide +kernel
theorem d_M_exampleFault_6 : decode (zb m_M_exampleFault) 6 = .ok (.aload_n 0, 1) := by decide +kernel
theorem d_M_exampleFault_7 : decode (zb m_M_exampleFault) 7 = .ok (.getfield 83, 3) := by decide +kernel
theorem d_M_exampleFault_10 : decode (zb m_M_exampleFault) 10 = .ok (.if_icmp .ge 110, 3) := by decide +kernel
theorem d_M_exampleFault_13 : decode (zb m_M_exampleFault) 13 = .ok (.aload_n 0, 1) := by decide +kernel
theorem d_M_exampleFault_14 : decode (zb m_M_exampleFault) 14 = .ok (.getfield 28, 3) := by decide +kernel
theorem d_M_exampleFault_17 : decode (zb m_M_exampleFault) 17 = .ok (.iload_n 2, 1) := by decide +kernel
theorem d_M_exampleFault_18 : decode (zb m_M_exampleFault) 18 = .ok (.iaload, 1) := by decide +kernel
theorem d_M_exampleFault_19 : decode (zb m_M_exampleFault) 19 = .ok (.invokestatic 87, 3) := by decide +kernel
theorem d_M_exampleFault_22 : decode (zb m_M_exampleFault) 22 = .ok (.ifCond .lt 7, 3) := by decide +kernel
theorem d_M_exampleFault_25 : decode (zb m_M_exampleFault) 25 = .ok (.iconst 1, 1) := by decide +kernel
theorem d_M_exampleFault_26 : decode (zb m_M_exampleFault) 26 = .ok (.goto 4, 3) := by decide +kernel
theorem d_M_exampleFault_29 : decode (zb m_M_exampleFault) 29 = .ok (.iconst 0, 1) := by decide +kernel
theorem d_M_exampleFault_30 : decode (zb m_M_exampleFault) 30 = .ok (.istore_n 3, 1) := by decide +kernel
theorem d_M_exampleFault_31 : decode (zb m_M_exampleFault) 31 = .ok (.iload_n 1, 1) := by decide +kernel
theorem d_M_exampleFault_32 : decode (zb m_M_exampleFault) 32 = .ok (.ifCond .ge 40, 3) := by decide +kernel
theorem d_M_exampleFault_35 : decode (zb m_M_exampleFault) 35 = .ok (.iload_n 3, 1) := by decide +kernel
theorem d_M_exampleFault_36 : decode (zb m_M_exampleFault) 36 = .ok (.ifCond .eq 17, 3) := by decide +kernel
theorem d_M_exampleFault_39 : decode (zb m_M_exampleFault) 39 = .ok (.iload_n 2, 1) := by decide +kernel
theorem d_M_exampleFault_40 : decode (zb m_M_exampleFault) 40 = .ok (.bipush 12, 2) := by decide +kernel
theorem d_M_exampleFault_42 : decode (zb m_M_exampleFault) 42 = .ok (.if_icmp .ge 7, 3) := by decide +kernel
theorem d_M_exampleFault_45 : decode (zb m_M_exampleFault) 45 = .ok (.iconst 1, 1) := by decide +kernel
theorem d_M_exampleFault_46 : decode (zb m_M_exampleFault) 46 = .ok (.goto 42, 3) := by decide +kernel
theorem d_M_exampleFault_49 : decode (zb m_M_exampleFault) 49 = .ok (.iconst 0, 1) := by decide +kernel
theorem d_M_exampleFault_50 : decode (zb m_M_exampleFault) 50 = .ok (.goto 38, 3) := by decide +kernel
theorem d_M_exampleFault_53 : decode (zb m_M_exampleFault) 53 = .ok (.aload_n 0, 1) := by decide +kernel
theorem d_M_exampleFault_54 : decode (zb m_M_exampleFault) 54 = .ok (.getfield 28, 3) := by decide +kernel
theorem d_M_exampleFault_57 : decode (zb m_M_exampleFault) 57 = .ok (.iload_n 2, 1) := by decide +kernel
theorem d_M_exampleFault_58 : decode (zb m_M_exampleFault) 58 = .ok (.iaload, 1) := by decide +kernel
theorem d_M_exampleFault_59 : decode (zb m_M_exampleFault) 59 = .ok (.bipush 62, 2) := by decide +kernel
theorem d_M_exampleFault_61 : decode (zb m_M_exampleFault) 61 = .ok (.if_icmp .ne 7, 3) := by decide +kernel
theorem d_M_exampleFault_64 : decode (zb m_M_exampleFault) 64 = .ok (.iconst 1, 1) := by decide +kernel
theorem d_M_exampleFault_65 : decode (zb m_M_exampleFault) 65 = .ok (.goto 23, 3) := by decide +kernel
theorem d_M_exampleFault_68 : decode (zb m_M_exampleFault) 68 = .ok (.iconst 0, 1) := by decide +kernel
theorem d_M_exampleFault_69 : decode (zb m_M_exampleFault) 69 = .ok (.goto 19, 3) := by decide +kernel
theorem d_M_exampleFault_72 : decode (zb m_M_exampleFault) 72 = .ok (.iload_n 3, 1) := by decide +kernel
theorem d_M_exampleFault_73 : decode (zb m_M_exampleFault) 73 = .ok (.ifCond .eq 14, 3) := by decide +kernel
theorem d_M_exampleFault_76 : decode (zb m_M_exampleFault) 76 = .ok (.iload_n 2, 1) := by decide +kernel
theorem d_M_exampleFault_77 : decode (zb m_M_exampleFault) 77 = .ok (.iload_n 1, 1) := by decide +kernel
theorem d_M_exampleFault_78 : decode (zb m_M_exampleFault) 78 = .ok (.isub, 1) := by decide +kernel
theorem d_M_exampleFault_79 : decode (zb m_M_exampleFault) 79 = .ok (.iconst 5, 1) := by decide +kernel
theorem d_M_exampleFault_80 : decode (zb m_M_exampleFault) 80 = .ok (.if_icmp .gt 7, 3) := by decide +kernel
theorem d_M_exampleFault_83 : decode (zb m_M_exampleFault) 83 = .ok (.iconst 1, 1) := by decide +kernel
theorem d_M_exampleFault_84 : decode (zb m_M_exampleFault) 84 = .ok (.goto 4, 3) := by decide +kernel
theorem d_M_exampleFault_87 : decode (zb m_M_exampleFault) 87 = .ok (.iconst 0, 1) := by decide +kernel
theorem d_M_exampleFault_88 : decode (zb m_M_exampleFault) 88 = .ok (.istore 4, 2) := by decide +kernel
theorem d_M_exampleFault_90 : decode (zb m_M_exampleFault) 90 = .ok (.iload 4, 2) := by decide +kernel
theorem d_M_exampleFault_92 : decode (zb m_M_exampleFault) 92 = .ok (.ifCond .ne 5, 3) := by decide +kernel
theorem d_M_exampleFault_95 : decode (zb m_M_exampleFault) 95 = .ok (.iload_n 2, 1) := by decide +kernel
theorem d_M_exampleFault_96 : decode (zb m_M_exampleFault) 96 = .ok (.ireturn, 1) := by decide +kernel
theorem d_M_exampleFault_97 : decode (zb m_M_exampleFault) 97 = .ok (.aload_n 0, 1) := by decide +kernel
theorem d_M_exampleFault_98 : decode (zb m_M_exampleFault) 98 = .ok (.getfield 28, 3) := by decide +kernel
theorem d_M_exampleFault_101 : decode (zb m_M_exampleFault) 101 = .ok (.iload_n 2, 1) := by decide +kernel
theorem d_M_exampleFault_102 : decode (zb m_M_exampleFault) 102 = .ok (.iaload, 1) := by decide +kernel
theorem d_M_exampleFault_103 : decode (zb m_M_exampleFault) 103 = .ok (.bipush 62, 2) := by decide +kernel
theorem d_M_exampleFault_105 : decode (zb m_M_exampleFault) 105 = .ok (.if_icmp .ne 7, 3) := by decide +kernel
theorem d_M_exampleFault_108 : decode (zb m_M_exampleFault) 108 = .ok (.iload_n 2, 1) := by decide +kernel
theorem d_M_exampleFault_109 : decode (zb m_M_exampleFault) 109 = .ok (.goto 4, 3) := by decide +kernel
theorem d_M_exampleFault_112 : decode (zb m_M_exampleFault) 112 = .ok (.iload_n 1, 1) := by decide +kernel
theorem d_M_exampleFault_113 : decode (zb m_M_exampleFault) 113 = .ok (.istore_n 1, 1) := by decide +kernel
theorem d_M_exampleFault_114 : decode (zb m_M_exampleFault) 114 = .ok (.iinc 2 1, 3) := by decide +kernel
theorem d_M_exampleFault_117 : decode (zb m_M_exampleFault) 117 = .ok (.goto (-112), 3) := by decide +kernel
theorem d_M_exampleFault_120 : decode (zb m_M_exampleFault) 120 = .ok (.iload_n 1, 1) := by decide +kernel
theorem d_M_exampleFault_121 : decode (zb m_M_exampleFault) 121 = .ok (.ifCond .lt 13, 3) := by decide +kernel
theorem d_M_exampleFault_124 : decode (zb m_M_exampleFault) 124 = .ok (.iload_n 1, 1) := by decide +kernel
theorem d_M_exampleFault_125 : decode (zb m_M_exampleFault) 125 = .ok (.aload_n 0, 1) := by decide +kernel
theorem d_M_exampleFault_126 : decode (zb m_M_exampleFault) 126 = .ok (.getfield 83, 3) := by decide +kernel
theorem d_M_exampleFault_129 : decode (zb m_M_exampleFault) 129 = .ok (.iconst 1, 1) := by decide +kernel
theorem d_M_exampleFault_130 : decode (zb m_M_exampleFault) 130 = .ok (.isub, 1) := by decide +kernel
theorem d_M_exampleFault_131 : decode (zb m_M_exampleFault) 131 = .ok (.if_icmp .ne 10, 3) := by decide +kernel
theorem d_M_exampleFault_134 : decode (zb m_M_exampleFault) 134 = .ok (.aload_n 0, 1) := by decide +kernel
theorem d_M_exampleFault_135 : decode (zb m_M_exampleFault) 135 = .ok (.getfield 83, 3) := by decide +kernel
theorem d_M_exampleFault_138 : decode (zb m_M_exampleFault) 138 = .ok (.goto 5, 3) := by decide +kernel
theorem d_M_exampleFault_141 : decode (zb m_M_exampleFault) 141 = .ok (.bipush (-6), 2) := by decide +kernel
theorem d_M_exampleFault_143 : decode (zb m_M_exampleFault) 143 = .ok (.ireturn, 1) := by decide +kernel
theorem d_M_lineFault_0 : decode (zb m_M_lineFault) 0 = .ok (.iconst 0, 1) := by decide +kernel
theorem d_M_lineFault_1 : decode (zb m_M_lineFault) 1 = .ok (.istore_n 1, 1) := by decide +kernel
theorem d_M_lineFault_2 : decode (zb m_M_lineFault) 2 = .ok (.iload_n 1, 1) := by decide +kernel
theorem d_M_lineFault_3 : decode (zb m_M_lineFault) 3 = .ok (.aload_n 0, 1) := by decide +kernel
theorem d_M_lineFault_4 : decode (zb m_M_lineFault) 4 = .ok (.getfield 83, 3) := by decide +kernel
theorem d_M_lineFault_7 : decode (zb m_M_lineFault) 7 = .ok (.if_icmp .ge 29, 3) := by decide +kernel
theorem d_M_lineFault_10 : decode (zb m_M_lineFault) 10 = .ok (.aload_n 0, 1) := by decide +kernel
theorem d_M_lineFault_11 : decode (zb m_M_lineFault) 11 = .ok (.getfield 28, 3) := by decide +kernel
theorem d_M_lineFault_14 : decode (zb m_M_lineFault) 14 = .ok (.iload_n 1, 1) := by decide +kernel
theorem d_M_lineFault_15 : decode (zb m_M_lineFault) 15 = .ok (.iaload, 1) := by decide +kernel
theorem d_M_lineFault_16 : decode (zb m_M_lineFault) 16 = .ok (.invokestatic 87, 3) := by decide +kernel
theorem d_M_lineFault_19 : decode (zb m_M_lineFault) 19 = .ok (.ifCond .lt 9, 3) := by decide +kernel
theorem d_M_lineFault_22 : decode (zb m_M_lineFault) 22 = .ok (.iload_n 1, 1) := by decide +kernel
theorem d_M_lineFault_23 : decode (zb m_M_lineFault) 23 = .ok (.bipush 12, 2) := by decide +kernel
theorem d_M_lineFault_25 : decode (zb m_M_lineFault) 25 = .ok (.if_icmp .ne 5, 3) := by decide +kernel
theorem d_M_lineFault_28 : decode (zb m_M_lineFault) 28 = .ok (.iload_n 1, 1) := by decide +kernel
theorem d_M_lineFault_29 : decode (zb m_M_lineFault) 29 = .ok (.ireturn, 1) := by decide +kernel
theorem d_M_lineFault_30 : decode (zb m_M_lineFault) 30 = .ok (.iinc 1 1, 3) := by decide +kernel
theorem d_M_lineFault_33 : decode (zb m_M_lineFault) 33 = .ok (.goto (-31), 3) := by decide +kernel
theorem d_M_lineFault_36 : decode (zb m_M_lineFault) 36 = .ok (.bipush (-6), 2) := by decide +kernel
theorem d_M_lineFault_38 : decode (zb m_M_lineFault) 38 = .ok (.ireturn, 1) := by decide +kernel
theorem d_M_fault_0 : decode (zb m_M_fault) 0 = .ok (.iload_n 1, 1) := by decide +kernel
theorem d_M_fault_1 : decode (zb m_M_fault) 1 = .ok (.ifCond .ne 10, 3) := by decide +kernel
theorem d_M_fault_4 : decode (zb m_M_fault) 4 = .ok (.aload_n 0, 1) := by decide +kernel
theorem d_M_fault_5 : decode (zb m_M_fault) 5 = .ok (.invokevirtual 91, 3) := by decide +kernel
theorem d_M_fault_8 : decode (zb m_M_fault) 8 = .ok (.goto 17, 3) := by decide +kernel
theorem d_M_fault_11 : decode (zb m_M_fault) 11 = .ok (.iload_n 1, 1) := by decide +kernel
theorem d_M_fault_12 : decode (zb m_M_fault) 12 = .ok (.iconst 1, 1) := by decide +kernel
theorem d_M_fault_13 : decode (zb m_M_fault) 13 = .ok (.if_icmp .ne 10, 3) := by decide +kernel
theorem d_M_fault_16 : decode (zb m_M_fault) 16 = .ok (.aload_n 0, 1) := by decide +kernel
theorem d_M_fault_17 : decode (zb m_M_fault) 17 = .ok (.invokevirtual 95, 3) := by decide +kernel
theorem d_M_fault_20 : decode (zb m_M_fault) 20 = .ok (.goto 5, 3) := by decide +kernel
theorem d_M_fault_23 : decode (zb m_M_fault) 23 = .ok (.bipush (-2), 2) := by decide +kernel
theorem d_M_fault_25 : decode (zb m_M_fault) 25 = .ok (.ireturn, 1) := by decide +kernel
theorem d_M_example_0 : decode (zb m_M_example) 0 = .ok (.aload_n 0, 1) := by decide +kernel
theorem d_M_example_1 : decode (zb m_M_example) 1 = .ok (.invokevirtual 91, 3) := by decide +kernel
theorem d_M_example_4 : decode (zb m_M_example) 4 = .ok (.ifCond .lt 6, 3) := by decide +kernel
theorem d_M_example_7 : decode (zb m_M_example) 7 = .ok (.bipush (-5), 2) := by decide +kernel
theorem d_M_example_9 : decode (zb m_M_example) 9 = .ok (.ireturn, 1) := by decide +kernel
theorem d_M_example_10 : decode (zb m_M_example) 10 = .ok (.aload_n 0, 1) := by decide +kernel
theorem d_M_example_11 : decode (zb m_M_example) 11 = .ok (.getfield 98, 3) := by decide +kernel
theorem d_M_example_14 : decode (zb m_M_example) 14 = .ok (.iconst 3, 1) := by decide +kernel
theorem d_M_example_15 : decode (zb m_M_example) 15 = .ok (.if_icmp .ne 6, 3) := by decide +kernel
theorem d_M_example_18 : decode (zb m_M_example) 18 = .ok (.bipush (-4), 2) := by decide +kernel
theorem d_M_example_20 : decode (zb m_M_example) 20 = .ok (.ireturn, 1) := by decide +kernel
theorem d_M_example_21 : decode (zb m_M_example) 21 = .ok (.iconst 0, 1) := by decide +kernel
theorem d_M_example_22 : decode (zb m_M_example) 22 = .ok (.istore_n 1, 1) := by decide +kernel
theorem d_M_example_23 : decode (zb m_M_example) 23 = .ok (.aload_n 0, 1) := by decide +kernel
theorem d_M_example_24 : decode (zb m_M_example) 24 = .ok (.getfield 28, 3) := by decide +kernel
theorem d_M_example_27 : decode (zb m_M_example) 27 = .ok (.iload_n 1, 1) := by decide +kernel
theorem d_M_example_28 : decode (zb m_M_example) 28 = .ok (.iaload, 1) := by decide +kernel
theorem d_M_example_29 : decode (zb m_M_example) 29 = .ok (.bipush 62, 2) := by decide +kernel
theorem d_M_example_31 : decode (zb m_M_example) 31 = .ok (.if_icmp .eq 29, 3) := by decide +kernel
theorem d_M_example_34 : decode (zb m_M_example) 34 = .ok (.aload_n 0, 1) := by decide +kernel
theorem d_M_example_35 : decode (zb m_M_example) 35 = .ok (.getfield 7, 3) := by decide +kernel
theorem d_M_example_38 : decode (zb m_M_example) 38 = .ok (.bipush 12, 2) := by decide +kernel
theorem d_M_example_40 : decode (zb m_M_example) 40 = .ok (.aload_n 0, 1) := by decide +kernel
theorem d_M_example_41 : decode (zb m_M_example) 41 = .ok (.getfield 98, 3) := by decide +kernel
theorem d_M_example_44 : decode (zb m_M_example) 44 = .ok (.imul, 1) := by decide +kernel
theorem d_M_example_45 : decode (zb m_M_example) 45 = .ok (.iload_n 1, 1) := by decide +kernel
theorem d_M_example_46 : decode (zb m_M_example) 46 = .ok (.iadd, 1) := by decide +kernel
theorem d_M_example_47 : decode (zb m_M_example) 47 = .ok (.aload_n 0, 1) := by decide +kernel
theorem d_M_example_48 : decode (zb m_M_example) 48 = .ok (.getfield 28, 3) := by decide +kernel
theorem d_M_example_51 : decode (zb m_M_example) 51 = .ok (.iload_n 1, 1) := by decide +kernel
theorem d_M_example_52 : decode (zb m_M_example) 52 = .ok (.iaload, 1) := by decide +kernel
theorem d_M_example_53 : decode (zb m_M_example) 53 = .ok (.iastore, 1) := by decide +kernel
theorem d_M_example_54 : decode (zb m_M_example) 54 = .ok (.iinc 1 1, 3) := by decide +kernel
theorem d_M_example_57 : decode (zb m_M_example) 57 = .ok (.goto (-34), 3) := by decide +kernel
theorem d_M_example_60 : decode (zb m_M_example) 60 = .ok (.aload_n 0, 1) := by decide +kernel
theorem d_M_example_61 : decode (zb m_M_example) 61 = .ok (.getfield 13, 3) := by decide +kernel
theorem d_M_example_64 : decode (zb m_M_example) 64 = .ok (.aload_n 0, 1) := by decide +kernel
theorem d_M_example_65 : decode (zb m_M_example) 65 = .ok (.getfield 98, 3) := by decide +kernel
theorem d_M_example_68 : decode (zb m_M_example) 68 = .ok (.iload_n 1, 1) := by decide +kernel
theorem d_M_example_69 : decode (zb m_M_example) 69 = .ok (.iastore, 1) := by decide +kernel
theorem d_M_example_70 : decode (zb m_M_example) 70 = .ok (.aload_n 0, 1) := by decide +kernel
theorem d_M_example_71 : decode (zb m_M_example) 71 = .ok (.getfield 19, 3) := by decide +kernel
theorem d_M_example_74 : decode (zb m_M_example) 74 = .ok (.aload_n 0, 1) := by decide +kernel
theorem d_M_example_75 : decode (zb m_M_example) 75 = .ok (.getfield 98, 3) := by decide +kernel
theorem d_M_example_78 : decode (zb m_M_example) 78 = .ok (.aload_n 0, 1) := by decide +kernel
theorem d_M_example_79 : decode (zb m_M_example) 79 = .ok (.getfield 83, 3) := by decide +kernel
theorem d_M_example_82 : decode (zb m_M_example) 82 = .ok (.iload_n 1, 1) := by decide +kernel
theorem d_M_example_83 : decode (zb m_M_example) 83 = .ok (.isub, 1) := by decide +kernel
theorem d_M_example_84 : decode (zb m_M_example) 84 = .ok (.iconst 1, 1) := by decide +kernel
theorem d_M_example_85 : decode (zb m_M_example) 85 = .ok (.isub, 1) := by decide +kernel
theorem d_M_example_86 : decode (zb m_M_example) 86 = .ok (.iastore, 1) := by decide +kernel
theorem d_M_example_87 : decode (zb m_M_example) 87 = .ok (.iconst 0, 1) := by decide +kernel
theorem d_M_example_88 : decode (zb m_M_example) 88 = .ok (.istore_n 2, 1) := by decide +kernel
theorem d_M_example_89 : decode (zb m_M_example) 89 = .ok (.iload_n 2, 1) := by decide +kernel
theorem d_M_example_90 : decode (zb m_M_example) 90 = .ok (.aload_n 0, 1) := by decide +kernel
theorem d_M_example_91 : decode (zb m_M_example) 91 = .ok (.getfield 19, 3) := by decide +kernel
theorem d_M_example_94 : decode (zb m_M_example) 94 = .ok (.aload_n 0, 1) := by decide +kernel
theorem d_M_example_95 : decode (zb m_M_example) 95 = .ok (.getfield 98, 3) := by decide +kernel
theorem d_M_example_98 : decode (zb m_M_example) 98 = .ok (.iaload, 1) := by decide +kernel
theorem d_M_example_99 : decode (zb m_M_example) 99 = .ok (.if_icmp .ge 32, 3) := by decide +kernel
theorem d_M_example_102 : decode (zb m_M_example) 102 = .ok (.aload_n 0, 1) := by decide +kernel
theorem d_M_example_103 : decode (zb m_M_example) 103 = .ok (.getfield 16, 3) := by decide +kernel
theorem d_M_example_106 : decode (zb m_M_example) 106 = .ok (.iconst 5, 1) := by decide +kernel
theorem d_M_example_107 : decode (zb m_M_example) 107 = .ok (.aload_n 0, 1) := by decide +kernel
theorem d_M_example_108 : decode (zb m_M_example) 108 = .ok (.getfield 98, 3) := by decide +kernel
theorem d_M_example_111 : decode (zb m_M_example) 111 = .ok (.imul, 1) := by decide +kernel
theorem d_M_example_112 : decode (zb m_M_example) 112 = .ok (.iload_n 2, 1) := by decide +kernel
theorem d_M_example_113 : decode (zb m_M_example) 113 = .ok (.iadd, 1) := by decide +kernel
theorem d_M_example_114 : decode (zb m_M_example) 114 = .ok (.aload_n 0, 1) := by decide +kernel
theorem d_M_example_115 : decode (zb m_M_example) 115 = .ok (.getfield 28, 3) := by decide +kernel
theorem d_M_example_118 : decode (zb m_M_example) 118 = .ok (.iload_n 1, 1) := by decide +kernel
theorem d_M_example_119 : decode (zb m_M_example) 119 = .ok (.iconst 1, 1) := by decide +kernel
theorem d_M_example_120 : decode (zb m_M_example) 120 = .ok (.iadd, 1) := by decide +kernel
theorem d_M_example_121 : decode (zb m_M_example) 121 = .ok (.iload_n 2, 1) := by decide +kernel
theorem d_M_example_122 : decode (zb m_M_example) 122 = .ok (.iadd, 1) := by decide +kernel
theorem d_M_example_123 : decode (zb m_M_example) 123 = .ok (.iaload, 1) := by decide +kernel
theorem d_M_example_124 : decode (zb m_M_example) 124 = .ok (.iastore, 1) := by decide +kernel
theorem d_M_example_125 : decode (zb m_M_example) 125 = .ok (.iinc 2 1, 3) := by decide +kernel
theorem d_M_example_128 : decode (zb m_M_example) 128 = .ok (.goto (-39), 3) := by decide +kernel
theorem d_M_example_131 : decode (zb m_M_example) 131 = .ok (.aload_n 0, 1) := by decide +kernel
theorem d_M_example_132 : decode (zb m_M_example) 132 = .ok (.dup, 1) := by decide +kernel
theorem d_M_example_133 : decode (zb m_M_example) 133 = .ok (.getfield 98, 3) := by decide +kernel
theorem d_M_example_136 : decode (zb m_M_example) 136 = .ok (.iconst 1, 1) := by decide +kernel
theorem d_M_example_137 : decode (zb m_M_example) 137 = .ok (.iadd, 1) := by decide +kernel
theorem d_M_example_138 : decode (zb m_M_example) 138 = .ok (.putfield 98, 3) := by decide +kernel
theorem d_M_example_141 : decode (zb m_M_example) 141 = .ok (.aload_n 0, 1) := by decide +kernel
theorem d_M_example_142 : decode (zb m_M_example) 142 = .ok (.iconst 0, 1) := by decide +kernel
theorem d_M_example_143 : decode (zb m_M_example) 143 = .ok (.putfield 83, 3) := by decide +kernel
theorem d_M_example_146 : decode (zb m_M_example) 146 = .ok (.aload_n 0, 1) := by decide +kernel
theorem d_M_example_147 : decode (zb m_M_example) 147 = .ok (.getfield 98, 3) := by decide +kernel
theorem d_M_example_150 : decode (zb m_M_example) 150 = .ok (.ireturn, 1) := by decide +kernel
theorem d_M_forget_0 : decode (zb m_M_forget) 0 = .ok (.aload_n 0, 1) := by decide +kernel
theorem d_M_forget_1 : decode (zb m_M_forget) 1 = .ok (.getfield 98, 3) := by decide +kernel
theorem d_M_forget_4 : decode (zb m_M_forget) 4 = .ok (.ifCond .ne 6, 3) := by decide +kernel
theorem d_M_forget_7 : decode (zb m_M_forget) 7 = .ok (.bipush (-5), 2) := by decide +kernel
theorem d_M_forget_9 : decode (zb m_M_forget) 9 = .ok (.ireturn, 1) := by decide +kernel
theorem d_M_forget_10 : decode (zb m_M_forget) 10 = .ok (.aload_n 0, 1) := by decide +kernel
theorem d_M_forget_11 : decode (zb m_M_forget) 11 = .ok (.dup, 1) := by decide +kernel
theorem d_M_forget_12 : decode (zb m_M_forget) 12 = .ok (.getfield 98, 3) := by decide +kernel
theorem d_M_forget_15 : decode (zb m_M_forget) 15 = .ok (.iconst 1, 1) := by decide +kernel
theorem d_M_forget_16 : decode (zb m_M_forget) 16 = .ok (.isub, 1) := by decide +kernel
theorem d_M_forget_17 : decode (zb m_M_forget) 17 = .ok (.putfield 98, 3) := by decide +kernel
theorem d_M_forget_20 : decode (zb m_M_forget) 20 = .ok (.aload_n 0, 1) := by decide +kernel
theorem d_M_forget_21 : decode (zb m_M_forget) 21 = .ok (.getfield 98, 3) := by decide +kernel
theorem d_M_forget_24 : decode (zb m_M_forget) 24 = .ok (.ireturn, 1) := by decide +kernel
theorem d_M_pool_0 : decode (zb m_M_pool) 0 = .ok (.aload_n 0, 1) := by decide +kernel
theorem d_M_pool_1 : decode (zb m_M_pool) 1 = .ok (.invokevirtual 95, 3) := by decide +kernel
theorem d_M_pool_4 : decode (zb m_M_pool) 4 = .ok (.ifCond .lt 6, 3) := by decide +kernel
theorem d_M_pool_7 : decode (zb m_M_pool) 7 = .ok (.bipush (-5), 2) := by decide +kernel
theorem d_M_pool_9 : decode (zb m_M_pool) 9 = .ok (.ireturn, 1) := by decide +kernel
theorem d_M_pool_10 : decode (zb m_M_pool) 10 = .ok (.aload_n 0, 1) := by decide +kernel
theorem d_M_pool_11 : decode (zb m_M_pool) 11 = .ok (.getfield 101, 3) := by decide +kernel
theorem d_M_pool_14 : decode (zb m_M_pool) 14 = .ok (.bipush 6, 2) := by decide +kernel
theorem d_M_pool_16 : decode (zb m_M_pool) 16 = .ok (.if_icmp .ne 6, 3) := by decide +kernel
theorem d_M_pool_19 : decode (zb m_M_pool) 19 = .ok (.bipush (-4), 2) := by decide +kernel
theorem d_M_pool_21 : decode (zb m_M_pool) 21 = .ok (.ireturn, 1) := by decide +kernel
theorem d_M_pool_22 : decode (zb m_M_pool) 22 = .ok (.iconst 0, 1) := by decide +kernel
theorem d_M_pool_23 : decode (zb m_M_pool) 23 = .ok (.istore_n 1, 1) := by decide +kernel
theorem d_M_pool_24 : decode (zb m_M_pool) 24 = .ok (.iload_n 1, 1) := by decide +kernel
theorem d_M_pool_25 : decode (zb m_M_pool) 25 = .ok (.aload_n 0, 1) := by decide +kernel
theorem d_M_pool_26 : decode (zb m_M_pool) 26 = .ok (.getfield 83, 3) := by decide +kernel
theorem d_M_pool_29 : decode (zb m_M_pool) 29 = .ok (.if_icmp .ge 29, 3) := by decide +kernel
theorem d_M_pool_32 : decode (zb m_M_pool) 32 = .ok (.aload_n 0, 1) := by decide +kernel
theorem d_M_pool_33 : decode (zb m_M_pool) 33 = .ok (.getfield 22, 3) := by decide +kernel
theorem d_M_pool_36 : decode (zb m_M_pool) 36 = .ok (.bipush 12, 2) := by decide +kernel
theorem d_M_pool_38 : decode (zb m_M_pool) 38 = .ok (.aload_n 0, 1) := by decide +kernel
theorem d_M_pool_39 : decode (zb m_M_pool) 39 = .ok (.getfield 101, 3) := by decide +kernel
theorem d_M_pool_42 : decode (zb m_M_pool) 42 = .ok (.imul, 1) := by decide +kernel
theorem d_M_pool_43 : decode (zb m_M_pool) 43 = .ok (.iload_n 1, 1) := by decide +kernel
theorem d_M_pool_44 : decode (zb m_M_pool) 44 = .ok (.iadd, 1) := by decide +kernel
theorem d_M_pool_45 : decode (zb m_M_pool) 45 = .ok (.aload_n 0, 1) := by decide +kernel
theorem d_M_pool_46 : decode (zb m_M_pool) 46 = .ok (.getfield 28, 3) := by decide +kernel
theorem d_M_pool_49 : decode (zb m_M_pool) 49 = .ok (.iload_n 1, 1) := by decide +kernel
theorem d_M_pool_50 : decode (zb m_M_pool) 50 = .ok (.iaload, 1) := by decide +kernel
theorem d_M_pool_51 : decode (zb m_M_pool) 51 = .ok (.iastore, 1) := by decide +kernel
theorem d_M_pool_52 : decode (zb m_M_pool) 52 = .ok (.iinc 1 1, 3) := by decide +kernel
theorem d_M_pool_55 : decode (zb m_M_pool) 55 = .ok (.goto (-31), 3) := by decide +kernel
theorem d_M_pool_58 : decode (zb m_M_pool) 58 = .ok (.aload_n 0, 1) := by decide +kernel
theorem d_M_pool_59 : decode (zb m_M_pool) 59 = .ok (.getfield 25, 3) := by decide +kernel
theorem d_M_pool_62 : decode (zb m_M_pool) 62 = .ok (.aload_n 0, 1) := by decide +kernel
theorem d_M_pool_63 : decode (zb m_M_pool) 63 = .ok (.getfield 101, 3) := by decide +kernel
theorem d_M_pool_66 : decode (zb m_M_pool) 66 = .ok (.aload_n 0, 1) := by decide +kernel
theorem d_M_pool_67 : decode (zb m_M_pool) 67 = .ok (.getfield 83, 3) := by decide +kernel
theorem d_M_pool_70 : decode (zb m_M_pool) 70 = .ok (.iastore, 1) := by decide +kernel
theorem d_M_pool_71 : decode (zb m_M_pool) 71 = .ok (.aload_n 0, 1) := by decide +kernel
theorem d_M_pool_72 : decode (zb m_M_pool) 72 = .ok (.dup, 1) := by decide +kernel
theorem d_M_pool_73 : decode (zb m_M_pool) 73 = .ok (.getfield 101, 3) := by decide +kernel
theorem d_M_pool_76 : decode (zb m_M_pool) 76 = .ok (.iconst 1, 1) := by decide +kernel
theorem d_M_pool_77 : decode (zb m_M_pool) 77 = .ok (.iadd, 1) := by decide +kernel
theorem d_M_pool_78 : decode (zb m_M_pool) 78 = .ok (.putfield 101, 3) := by decide +kernel
theorem d_M_pool_81 : decode (zb m_M_pool) 81 = .ok (.aload_n 0, 1) := by decide +kernel
theorem d_M_pool_82 : decode (zb m_M_pool) 82 = .ok (.iconst 0, 1) := by decide +kernel
theorem d_M_pool_83 : decode (zb m_M_pool) 83 = .ok (.putfield 83, 3) := by decide +kernel
theorem d_M_pool_86 : decode (zb m_M_pool) 86 = .ok (.aload_n 0, 1) := by decide +kernel
theorem d_M_pool_87 : decode (zb m_M_pool) 87 = .ok (.getfield 101, 3) := by decide +kernel
theorem d_M_pool_90 : decode (zb m_M_pool) 90 = .ok (.ireturn, 1) := by decide +kernel
theorem d_M_goFrom_0 : decode (zb m_M_goFrom) 0 = .ok (.aload_n 0, 1) := by decide +kernel
theorem d_M_goFrom_1 : decode (zb m_M_goFrom) 1 = .ok (.dup, 1) := by decide +kernel
theorem d_M_goFrom_2 : decode (zb m_M_goFrom) 2 = .ok (.getfield 101, 3) := by decide +kernel
theorem d_M_goFrom_5 : decode (zb m_M_goFrom) 5 = .ok (.iconst 1, 1) := by decide +kernel
theorem d_M_goFrom_6 : decode (zb m_M_goFrom) 6 = .ok (.isub, 1) := by decide +kernel
theorem d_M_goFrom_7 : decode (zb m_M_goFrom) 7 = .ok (.putfield 101, 3) := by decide +kernel
theorem d_M_goFrom_10 : decode (zb m_M_goFrom) 10 = .ok (.iload_n 1, 1) := by decide +kernel
theorem d_M_goFrom_11 : decode (zb m_M_goFrom) 11 = .ok (.istore_n 2, 1) := by decide +kernel
theorem d_M_goFrom_12 : decode (zb m_M_goFrom) 12 = .ok (.iload_n 2, 1) := by decide +kernel
theorem d_M_goFrom_13 : decode (zb m_M_goFrom) 13 = .ok (.aload_n 0, 1) := by decide +kernel
theorem d_M_goFrom_14 : decode (zb m_M_goFrom) 14 = .ok (.getfield 101, 3) := by decide +kernel
theorem d_M_goFrom_17 : decode (zb m_M_goFrom) 17 = .ok (.if_icmp .ge 62, 3) := by decide +kernel
theorem d_M_goFrom_20 : decode (zb m_M_goFrom) 20 = .ok (.aload_n 0, 1) := by decide +kernel
theorem d_M_goFrom_21 : decode (zb m_M_goFrom) 21 = .ok (.getfield 25, 3) := by decide +kernel
theorem d_M_goFrom_24 : decode (zb m_M_goFrom) 24 = .ok (.iload_n 2, 1) := by decide +kernel
theorem d_M_goFrom_25 : decode (zb m_M_goFrom) 25 = .ok (.aload_n 0, 1) := by decide +kernel
theorem d_M_goFrom_26 : decode (zb m_M_goFrom) 26 = .ok (.getfield 25, 3) := by decide +kernel
theorem d_M_goFrom_29 : decode (zb m_M_goFrom) 29 = .ok (.iload_n 2, 1) := by decide +kernel
theorem d_M_goFrom_30 : decode (zb m_M_goFrom) 30 = .ok (.iconst 1, 1) := by decide +kernel
theorem d_M_goFrom_31 : decode (zb m_M_goFrom) 31 = .ok (.iadd, 1) := by decide +kernel
theorem d_M_goFrom_32 : decode (zb m_M_goFrom) 32 = .ok (.iaload, 1) := by decide +kernel
theorem d_M_goFrom_33 : decode (zb m_M_goFrom) 33 = .ok (.iastore, 1) := by decide +kernel
theorem d_M_goFrom_34 : decode (zb m_M_goFrom) 34 = .ok (.iconst 0, 1) := by decide +kernel
theorem d_M_goFrom_35 : decode (zb m_M_goFrom) 35 = .ok (.istore_n 3, 1) := by decide +kernel
theorem d_M_goFrom_36 : decode (zb m_M_goFrom) 36 = .ok (.iload_n 3, 1) := by decide +kernel
theorem d_M_goFrom_37 : decode (zb m_M_goFrom) 37 = .ok (.bipush 12, 2) := by decide +kernel
theorem d_M_goFrom_39 : decode (zb m_M_goFrom) 39 = .ok (.if_icmp .ge 34, 3) := by decide +kernel
theorem d_M_goFrom_42 : decode (zb m_M_goFrom) 42 = .ok (.aload_n 0, 1) := by decide +kernel
theorem d_M_goFrom_43 : decode (zb m_M_goFrom) 43 = .ok (.getfield 22, 3) := by decide +kernel
theorem d_M_goFrom_46 : decode (zb m_M_goFrom) 46 = .ok (.bipush 12, 2) := by decide +kernel
theorem d_M_goFrom_48 : decode (zb m_M_goFrom) 48 = .ok (.iload_n 2, 1) := by decide +kernel
theorem d_M_goFrom_49 : decode (zb m_M_goFrom) 49 = .ok (.imul, 1) := by decide +kernel
theorem d_M_goFrom_50 : decode (zb m_M_goFrom) 50 = .ok (.iload_n 3, 1) := by decide +kernel
theorem d_M_goFrom_51 : decode (zb m_M_goFrom) 51 = .ok (.iadd, 1) := by decide +kernel
theorem d_M_goFrom_52 : decode (zb m_M_goFrom) 52 = .ok (.aload_n 0, 1) := by decide +kernel
theorem d_M_goFrom_53 : decode (zb m_M_goFrom) 53 = .ok (.getfield 22, 3) := by decide +kernel
theorem d_M_goFrom_56 : decode (zb m_M_goFrom) 56 = .ok (.bipush 12, 2) := by decide +kernel
theorem d_M_goFrom_58 : decode (zb m_M_goFrom) 58 = .ok (.iload_n 2, 1) := by decide +kernel
theorem d_M_goFrom_59 : decode (zb m_M_goFrom) 59 = .ok (.imul, 1) := by decide +kernel
theorem d_M_goFrom_60 : decode (zb m_M_goFrom) 60 = .ok (.bipush 12, 2) := by decide +kernel
theorem d_M_goFrom_62 : decode (zb m_M_goFrom) 62 = .ok (.iadd, 1) := by decide +kernel
theorem d_M_goFrom_63 : decode (zb m_M_goFrom) 63 = .ok (.iload_n 3, 1) := by decide +kernel
theorem d_M_goFrom_64 : decode (zb m_M_goFrom) 64 = .ok (.iadd, 1) := by decide +kernel
theorem d_M_goFrom_65 : decode (zb m_M_goFrom) 65 = .ok (.iaload, 1) := by decide +kernel
theorem d_M_goFrom_66 : decode (zb m_M_goFrom) 66 = .ok (.iastore, 1) := by decide +kernel
theorem d_M_goFrom_67 : decode (zb m_M_goFrom) 67 = .ok (.iinc 3 1, 3) := by decide +kernel
theorem d_M_goFrom_70 : decode (zb m_M_goFrom) 70 = .ok (.goto (-34), 3) := by decide +kernel
theorem d_M_goFrom_73 : decode (zb m_M_goFrom) 73 = .ok (.iinc 2 1, 3) := by decide +kernel
theorem d_M_goFrom_76 : decode (zb m_M_goFrom) 76 = .ok (.goto (-64), 3) := by decide +kernel
theorem d_M_goFrom_79 : decode (zb m_M_goFrom) 79 = .ok (.return_, 1) := by decide +kernel
theorem d_M_drain_0 : decode (zb m_M_drain) 0 = .ok (.iload_n 1, 1) := by decide +kernel
theorem d_M_drain_1 : decode (zb m_M_drain) 1 = .ok (.iconst 0, 1) := by decide +kernel
theorem d_M_drain_2 : decode (zb m_M_drain) 2 = .ok (.aload_n 0, 1) := by decide +kernel
theorem d_M_drain_3 : decode (zb m_M_drain) 3 = .ok (.getfield 101, 3) := by decide +kernel
theorem d_M_drain_6 : decode (zb m_M_drain) 6 = .ok (.iconst 1, 1) := by decide +kernel
theorem d_M_drain_7 : decode (zb m_M_drain) 7 = .ok (.isub, 1) := by decide +kernel
theorem d_M_drain_8 : decode (zb m_M_drain) 8 = .ok (.invokestatic 79, 3) := by decide +kernel
theorem d_M_drain_11 : decode (zb m_M_drain) 11 = .ok (.ifCond .ne 5, 3) := by decide +kernel
theorem d_M_drain_14 : decode (zb m_M_drain) 14 = .ok (.iconst (-1), 1) := by decide +kernel
theorem d_M_drain_15 : decode (zb m_M_drain) 15 = .ok (.ireturn, 1) := by decide +kernel
theorem d_M_drain_16 : decode (zb m_M_drain) 16 = .ok (.aload_n 0, 1) := by decide +kernel
theorem d_M_drain_17 : decode (zb m_M_drain) 17 = .ok (.iload_n 1, 1) := by decide +kernel
theorem d_M_drain_18 : decode (zb m_M_drain) 18 = .ok (.invokevirtual 104, 3) := by decide +kernel
theorem d_M_drain_21 : decode (zb m_M_drain) 21 = .ok (.aload_n 0, 1) := by decide +kernel
theorem d_M_drain_22 : decode (zb m_M_drain) 22 = .ok (.getfield 101, 3) := by decide +kernel
theorem d_M_drain_25 : decode (zb m_M_drain) 25 = .ok (.ireturn, 1) := by decide +kernel
theorem d_M_lookAtPad_0 : decode (zb m_M_lookAtPad) 0 = .ok (.aload_n 0, 1) := by decide +kernel
theorem d_M_lookAtPad_1 : decode (zb m_M_lookAtPad) 1 = .ok (.aload_n 0, 1) := by decide +kernel
theorem d_M_lookAtPad_2 : decode (zb m_M_lookAtPad) 2 = .ok (.getfield 83, 3) := by decide +kernel
theorem d_M_lookAtPad_5 : decode (zb m_M_lookAtPad) 5 = .ok (.putfield 108, 3) := by decide +kernel
theorem d_M_lookAtPad_8 : decode (zb m_M_lookAtPad) 8 = .ok (.iconst 0, 1) := by decide +kernel
theorem d_M_lookAtPad_9 : decode (zb m_M_lookAtPad) 9 = .ok (.istore_n 1, 1) := by decide +kernel
theorem d_M_lookAtPad_10 : decode (zb m_M_lookAtPad) 10 = .ok (.iload_n 1, 1) := by decide +kernel
theorem d_M_lookAtPad_11 : decode (zb m_M_lookAtPad) 11 = .ok (.aload_n 0, 1) := by decide +kernel
theorem d_M_lookAtPad_12 : decode (zb m_M_lookAtPad) 12 = .ok (.getfield 83, 3) := by decide +kernel
theorem d_M_lookAtPad_15 : decode (zb m_M_lookAtPad) 15 = .ok (.if_icmp .ge 21, 3) := by decide +kernel
theorem d_M_lookAtPad_18 : decode (zb m_M_lookAtPad) 18 = .ok (.aload_n 0, 1) := by decide +kernel
theorem d_M_lookAtPad_19 : decode (zb m_M_lookAtPad) 19 = .ok (.getfield 34, 3) := by decide +kernel
theorem d_M_lookAtPad_22 : decode (zb m_M_lookAtPad) 22 = .ok (.iload_n 1, 1) := by decide +kernel
theorem d_M_lookAtPad_23 : decode (zb m_M_lookAtPad) 23 = .ok (.aload_n 0, 1) := by decide +kernel
theorem d_M_lookAtPad_24 : decode (zb m_M_lookAtPad) 24 = .ok (.getfield 28, 3) := by decide +kernel
theorem d_M_lookAtPad_27 : decode (zb m_M_lookAtPad) 27 = .ok (.iload_n 1, 1) := by decide +kernel
theorem d_M_lookAtPad_28 : decode (zb m_M_lookAtPad) 28 = .ok (.iaload, 1) := by decide +kernel
theorem d_M_lookAtPad_29 : decode (zb m_M_lookAtPad) 29 = .ok (.iastore, 1) := by decide +kernel
theorem d_M_lookAtPad_30 : decode (zb m_M_lookAtPad) 30 = .ok (.iinc 1 1, 3) := by decide +kernel
theorem d_M_lookAtPad_33 : decode (zb m_M_lookAtPad) 33 = .ok (.goto (-23), 3) := by decide +kernel
theorem d_M_lookAtPad_36 : decode (zb m_M_lookAtPad) 36 = .ok (.return_, 1) := by decide +kernel
theorem d_M_lookAtPool_0 : decode (zb m_M_lookAtPool) 0 = .ok (.aload_n 0, 1) := by decide +kernel
theorem d_M_lookAtPool_1 : decode (zb m_M_lookAtPool) 1 = .ok (.aload_n 0, 1) := by decide +kernel
theorem d_M_lookAtPool_2 : decode (zb m_M_lookAtPool) 2 = .ok (.getfield 25, 3) := by decide +kernel
theorem d_M_lookAtPool_5 : decode (zb m_M_lookAtPool) 5 = .ok (.iload_n 1, 1) := by decide +kernel
theorem d_M_lookAtPool_6 : decode (zb m_M_lookAtPool) 6 = .ok (.iaload, 1) := by decide +kernel
theorem d_M_lookAtPool_7 : decode (zb m_M_lookAtPool) 7 = .ok (.putfield 108, 3) := by decide +kernel
theorem d_M_lookAtPool_10 : decode (zb m_M_lookAtPool) 10 = .ok (.iconst 0, 1) := by decide +kernel
theorem d_M_lookAtPool_11 : decode (zb m_M_lookAtPool) 11 = .ok (.istore_n 2, 1) := by decide +kernel
theorem d_M_lookAtPool_12 : decode (zb m_M_lookAtPool) 12 = .ok (.iload_n 2, 1) := by decide +kernel
theorem d_M_lookAtPool_13 : decode (zb m_M_lookAtPool) 13 = .ok (.aload_n 0, 1) := by decide +kernel
theorem d_M_lookAtPool_14 : decode (zb m_M_lookAtPool) 14 = .ok (.getfield 108, 3) := by decide +kernel
theorem d_M_lookAtPool_17 : decode (zb m_M_lookAtPool) 17 = .ok (.if_icmp .ge 26, 3) := by decide +kernel
theorem d_M_lookAtPool_20 : decode (zb m_M_lookAtPool) 20 = .ok (.aload_n 0, 1) := by decide +kernel
theorem d_M_lookAtPool_21 : decode (zb m_M_lookAtPool) 21 = .ok (.getfield 34, 3) := by decide +kernel
theorem d_M_lookAtPool_24 : decode (zb m_M_lookAtPool) 24 = .ok (.iload_n 2, 1) := by decide +kernel
theorem d_M_lookAtPool_25 : decode (zb m_M_lookAtPool) 25 = .ok (.aload_n 0, 1) := by decide +kernel
theorem d_M_lookAtPool_26 : decode (zb m_M_lookAtPool) 26 = .ok (.getfield 22, 3) := by decide +kernel
theorem d_M_lookAtPool_29 : decode (zb m_M_lookAtPool) 29 = .ok (.bipush 12, 2) := by decide +kernel
theorem d_M_lookAtPool_31 : decode (zb m_M_lookAtPool) 31 = .ok (.iload_n 1, 1) := by decide +kernel
theorem d_M_lookAtPool_32 : decode (zb m_M_lookAtPool) 32 = .ok (.imul, 1) := by decide +kernel
theorem d_M_lookAtPool_33 : decode (zb m_M_lookAtPool) 33 = .ok (.iload_n 2, 1) := by decide +kernel
theorem d_M_lookAtPool_34 : decode (zb m_M_lookAtPool) 34 = .ok (.iadd, 1) := by decide +kernel
theorem d_M_lookAtPool_35 : decode (zb m_M_lookAtPool) 35 = .ok (.iaload, 1) := by decide +kernel
theorem d_M_lookAtPool_36 : decode (zb m_M_lookAtPool) 36 = .ok (.iastore, 1) := by decide +kernel
theorem d_M_lookAtPool_37 : decode (zb m_M_lookAtPool) 37 = .ok (.iinc 2 1, 3) := by decide +kernel
theorem d_M_lookAtPool_40 : decode (zb m_M_lookAtPool) 40 = .ok (.goto (-28), 3) := by decide +kernel
theorem d_M_lookAtPool_43 : decode (zb m_M_lookAtPool) 43 = .ok (.return_, 1) := by decide +kernel
theorem d_M_runAt_0 : decode (zb m_M_runAt) 0 = .ok (.iconst 0, 1) := by decide +kernel
theorem d_M_runAt_1 : decode (zb m_M_runAt) 1 = .ok (.istore 4, 2) := by decide +kernel
theorem d_M_runAt_3 : decode (zb m_M_runAt) 3 = .ok (.iconst 0, 1) := by decide +kernel
theorem d_M_runAt_4 : decode (zb m_M_runAt) 4 = .ok (.istore 5, 2) := by decide +kernel
theorem d_M_runAt_6 : decode (zb m_M_runAt) 6 = .ok (.iload 5, 2) := by decide +kernel
theorem d_M_runAt_8 : decode (zb m_M_runAt) 8 = .ok (.aload_n 0, 1) := by decide +kernel
theorem d_M_runAt_9 : decode (zb m_M_runAt) 9 = .ok (.getfield 108, 3) := by decide +kernel
theorem d_M_runAt_12 : decode (zb m_M_runAt) 12 = .ok (.if_icmp .ge 213, 3) := by decide +kernel
theorem d_M_runAt_15 : decode (zb m_M_runAt) 15 = .ok (.iload_n 2, 1) := by decide +kernel
theorem d_M_runAt_16 : decode (zb m_M_runAt) 16 = .ok (.ifCond .le 8, 3) := by decide +kernel
theorem d_M_runAt_19 : decode (zb m_M_runAt) 19 = .ok (.iload 5, 2) := by decide +kernel
theorem d_M_runAt_21 : decode (zb m_M_runAt) 21 = .ok (.goto 12, 3) := by decide +kernel
theorem d_M_runAt_24 : decode (zb m_M_runAt) 24 = .ok (.aload_n 0, 1) := by decide +kernel
theorem d_M_runAt_25 : decode (zb m_M_runAt) 25 = .ok (.getfield 108, 3) := by decide +kernel
theorem d_M_runAt_28 : decode (zb m_M_runAt) 28 = .ok (.iconst 1, 1) := by decide +kernel
theorem d_M_runAt_29 : decode (zb m_M_runAt) 29 = .ok (.isub, 1) := by decide +kernel
theorem d_M_runAt_30 : decode (zb m_M_runAt) 30 = .ok (.iload 5, 2) := by decide +kernel
theorem d_M_runAt_32 : decode (zb m_M_runAt) 32 = .ok (.isub, 1) := by decide +kernel
theorem d_M_runAt_33 : decode (zb m_M_runAt) 33 = .ok (.istore 6, 2) := by decide +kernel
theorem d_M_runAt_35 : decode (zb m_M_runAt) 35 = .ok (.iload_n 2, 1) := by decide +kernel
theorem d_M_runAt_36 : decode (zb m_M_runAt) 36 = .ok (.ifCond .le 10, 3) := by decide +kernel
theorem d_M_runAt_39 : decode (zb m_M_runAt) 39 = .ok (.iload 6, 2) := by decide +kernel
theorem d_M_runAt_41 : decode (zb m_M_runAt) 41 = .ok (.iconst 1, 1) := by decide +kernel
theorem d_M_runAt_42 : decode (zb m_M_runAt) 42 = .ok (.isub, 1) := by decide +kernel
theorem d_M_runAt_43 : decode (zb m_M_runAt) 43 = .ok (.goto 7, 3) := by decide +kernel
theorem d_M_runAt_46 : decode (zb m_M_runAt) 46 = .ok (.iload 6, 2) := by decide +kernel
theorem d_M_runAt_48 : decode (zb m_M_runAt) 48 = .ok (.iconst 1, 1) := by decide +kernel
theorem d_M_runAt_49 : decode (zb m_M_runAt) 49 = .ok (.iadd, 1) := by decide +kernel
theorem d_M_runAt_50 : decode (zb m_M_runAt) 50 = .ok (.istore 7, 2) := by decide +kernel
theorem d_M_runAt_52 : decode (zb m_M_runAt) 52 = .ok (.aload_n 0, 1) := by decide +kernel
theorem d_M_runAt_53 : decode (zb m_M_runAt) 53 = .ok (.getfield 34, 3) := by decide +kernel
theorem d_M_runAt_56 : decode (zb m_M_runAt) 56 = .ok (.iload 6, 2) := by decide +kernel
theorem d_M_runAt_58 : decode (zb m_M_runAt) 58 = .ok (.iaload, 1) := by decide +kernel
theorem d_M_runAt_59 : decode (zb m_M_runAt) 59 = .ok (.invokestatic 87, 3) := by decide +kernel
theorem d_M_runAt_62 : decode (zb m_M_runAt) 62 = .ok (.iload_n 1, 1) := by decide +kernel
theorem d_M_runAt_63 : decode (zb m_M_runAt) 63 = .ok (.if_icmp .ne 36, 3) := by decide +kernel
theorem d_M_runAt_66 : decode (zb m_M_runAt) 66 = .ok (.iload 7, 2) := by decide +kernel
theorem d_M_runAt_68 : decode (zb m_M_runAt) 68 = .ok (.iconst 0, 1) := by decide +kernel
theorem d_M_runAt_69 : decode (zb m_M_runAt) 69 = .ok (.aload_n 0, 1) := by decide +kernel
theorem d_M_runAt_70 : decode (zb m_M_runAt) 70 = .ok (.getfield 108, 3) := by decide +kernel
theorem d_M_runAt_73 : decode (zb m_M_runAt) 73 = .ok (.iconst 1, 1) := by decide +kernel
theorem d_M_runAt_74 : decode (zb m_M_runAt) 74 = .ok (.isub, 1) := by decide +kernel
theorem d_M_runAt_75 : decode (zb m_M_runAt) 75 = .ok (.invokestatic 79, 3) := by decide +kernel
theorem d_M_runAt_78 : decode (zb m_M_runAt) 78 = .ok (.ifCond .eq 17, 3) := by decide +kernel
theorem d_M_runAt_81 : decode (zb m_M_runAt) 81 = .ok (.aload_n 0, 1) := by decide +kernel
theorem d_M_runAt_82 : decode (zb m_M_runAt) 82 = .ok (.getfield 34, 3) := by decide +kernel
theorem d_M_runAt_85 : decode (zb m_M_runAt) 85 = .ok (.iload 7, 2) := by decide +kernel
theorem d_M_runAt_87 : decode (zb m_M_runAt) 87 = .ok (.iaload, 1) := by decide +kernel
theorem d_M_runAt_88 : decode (zb m_M_runAt) 88 = .ok (.invokestatic 87, 3) := by decide +kernel
theorem d_M_runAt_91 : decode (zb m_M_runAt) 91 = .ok (.iload_n 1, 1) := by decide +kernel
theorem d_M_runAt_92 : decode (zb m_M_runAt) 92 = .ok (.if_icmp .eq 7, 3) := by decide +kernel
theorem d_M_runAt_95 : decode (zb m_M_runAt) 95 = .ok (.iconst 1, 1) := by decide +kernel
theorem d_M_runAt_96 : decode (zb m_M_runAt) 96 = .ok (.goto 4, 3) := by decide +kernel
theorem d_M_runAt_99 : decode (zb m_M_runAt) 99 = .ok (.iconst 0, 1) := by decide +kernel
theorem d_M_runAt_100 : decode (zb m_M_runAt) 100 = .ok (.istore 8, 2) := by decide +kernel
theorem d_M_runAt_102 : decode (zb m_M_runAt) 102 = .ok (.iload 4, 2) := by decide +kernel
theorem d_M_runAt_104 : decode (zb m_M_runAt) 104 = .ok (.iload 8, 2) := by decide +kernel
theorem d_M_runAt_106 : decode (zb m_M_runAt) 106 = .ok (.ifCond .eq 7, 3) := by decide +kernel
theorem d_M_runAt_109 : decode (zb m_M_runAt) 109 = .ok (.iconst 1, 1) := by decide +kernel
theorem d_M_runAt_110 : decode (zb m_M_runAt) 110 = .ok (.goto 4, 3) := by decide +kernel
theorem d_M_runAt_113 : decode (zb m_M_runAt) 113 = .ok (.iconst 0, 1) := by decide +kernel
theorem d_M_runAt_114 : decode (zb m_M_runAt) 114 = .ok (.iadd, 1) := by decide +kernel
theorem d_M_runAt_115 : decode (zb m_M_runAt) 115 = .ok (.istore 4, 2) := by decide +kernel
theorem d_M_runAt_117 : decode (zb m_M_runAt) 117 = .ok (.iload 8, 2) := by decide +kernel
theorem d_M_runAt_119 : decode (zb m_M_runAt) 119 = .ok (.ifCond .eq 100, 3) := by decide +kernel
theorem d_M_runAt_122 : decode (zb m_M_runAt) 122 = .ok (.iload 4, 2) := by decide +kernel
theorem d_M_runAt_124 : decode (zb m_M_runAt) 124 = .ok (.iload_n 2, 1) := by decide +kernel
theorem d_M_runAt_125 : decode (zb m_M_runAt) 125 = .ok (.ifCond .le 7, 3) := by decide +kernel
theorem d_M_runAt_128 : decode (zb m_M_runAt) 128 = .ok (.iload_n 2, 1) := by decide +kernel
theorem d_M_runAt_129 : decode (zb m_M_runAt) 129 = .ok (.goto 5, 3) := by decide +kernel
theorem d_M_runAt_132 : decode (zb m_M_runAt) 132 = .ok (.iload_n 2, 1) := by decide +kernel
theorem d_M_runAt_133 : decode (zb m_M_runAt) 133 = .ok (.ineg, 1) := by decide +kernel
theorem d_M_runAt_134 : decode (zb m_M_runAt) 134 = .ok (.if_icmp .ne 85, 3) := by decide +kernel
theorem d_M_runAt_137 : decode (zb m_M_runAt) 137 = .ok (.iload 6, 2) := by decide +kernel
theorem d_M_runAt_139 : decode (zb m_M_runAt) 139 = .ok (.istore 9, 2) := by decide +kernel
theorem d_M_runAt_141 : decode (zb m_M_runAt) 141 = .ok (.iload 6, 2) := by decide +kernel
theorem d_M_runAt_143 : decode (zb m_M_runAt) 143 = .ok (.istore 10, 2) := by decide +kernel
theorem d_M_runAt_145 : decode (zb m_M_runAt) 145 = .ok (.iload 9, 2) := by decide +kernel
theorem d_M_runAt_147 : decode (zb m_M_runAt) 147 = .ok (.ifCond .le 25, 3) := by decide +kernel
theorem d_M_runAt_150 : decode (zb m_M_runAt) 150 = .ok (.aload_n 0, 1) := by decide +kernel
theorem d_M_runAt_151 : decode (zb m_M_runAt) 151 = .ok (.getfield 34, 3) := by decide +kernel
theorem d_M_runAt_154 : decode (zb m_M_runAt) 154 = .ok (.iload 9, 2) := by decide +kernel
theorem d_M_runAt_156 : decode (zb m_M_runAt) 156 = .ok (.iconst 1, 1) := by decide +kernel
theorem d_M_runAt_157 : decode (zb m_M_runAt) 157 = .ok (.isub, 1) := by decide +kernel
theorem d_M_runAt_158 : decode (zb m_M_runAt) 158 = .ok (.iaload, 1) := by decide +kernel
theorem d_M_runAt_159 : decode (zb m_M_runAt) 159 = .ok (.invokestatic 87, 3) := by decide +kernel
theorem d_M_runAt_162 : decode (zb m_M_runAt) 162 = .ok (.iload_n 1, 1) := by decide +kernel
theorem d_M_runAt_163 : decode (zb m_M_runAt) 163 = .ok (.if_icmp .ne 9, 3) := by decide +kernel
theorem d_M_runAt_166 : decode (zb m_M_runAt) 166 = .ok (.iinc 9 (-1), 3) := by decide +kernel
theorem d_M_runAt_169 : decode (zb m_M_runAt) 169 = .ok (.goto (-24), 3) := by decide +kernel
theorem d_M_runAt_172 : decode (zb m_M_runAt) 172 = .ok (.iload 10, 2) := by decide +kernel
theorem d_M_runAt_174 : decode (zb m_M_runAt) 174 = .ok (.iconst 1, 1) := by decide +kernel
theorem d_M_runAt_175 : decode (zb m_M_runAt) 175 = .ok (.iadd, 1) := by decide +kernel
theorem d_M_runAt_176 : decode (zb m_M_runAt) 176 = .ok (.aload_n 0, 1) := by decide +kernel
theorem d_M_runAt_177 : decode (zb m_M_runAt) 177 = .ok (.getfield 108, 3) := by decide +kernel
theorem d_M_runAt_180 : decode (zb m_M_runAt) 180 = .ok (.if_icmp .ge 25, 3) := by decide +kernel
theorem d_M_runAt_183 : decode (zb m_M_runAt) 183 = .ok (.aload_n 0, 1) := by decide +kernel
theorem d_M_runAt_184 : decode (zb m_M_runAt) 184 = .ok (.getfield 34, 3) := by decide +kernel
theorem d_M_runAt_187 : decode (zb m_M_runAt) 187 = .ok (.iload 10, 2) := by decide +kernel
theorem d_M_runAt_189 : decode (zb m_M_runAt) 189 = .ok (.iconst 1, 1) := by decide +kernel
theorem d_M_runAt_190 : decode (zb m_M_runAt) 190 = .ok (.iadd, 1) := by decide +kernel
theorem d_M_runAt_191 : decode (zb m_M_runAt) 191 = .ok (.iaload, 1) := by decide +kernel
theorem d_M_runAt_192 : decode (zb m_M_runAt) 192 = .ok (.invokestatic 87, 3) := by decide +kernel
theorem d_M_runAt_195 : decode (zb m_M_runAt) 195 = .ok (.iload_n 1, 1) := by decide +kernel
theorem d_M_runAt_196 : decode (zb m_M_runAt) 196 = .ok (.if_icmp .ne 9, 3) := by decide +kernel
theorem d_M_runAt_199 : decode (zb m_M_runAt) 199 = .ok (.iinc 10 1, 3) := by decide +kernel
theorem d_M_runAt_202 : decode (zb m_M_runAt) 202 = .ok (.goto (-30), 3) := by decide +kernel
theorem d_M_runAt_205 : decode (zb m_M_runAt) 205 = .ok (.iload_n 3, 1) := by decide +kernel
theorem d_M_runAt_206 : decode (zb m_M_runAt) 206 = .ok (.ifCond .eq 10, 3) := by decide +kernel
theorem d_M_runAt_209 : decode (zb m_M_runAt) 209 = .ok (.iload 10, 2) := by decide +kernel
theorem d_M_runAt_211 : decode (zb m_M_runAt) 211 = .ok (.iconst 1, 1) := by decide +kernel
theorem d_M_runAt_212 : decode (zb m_M_runAt) 212 = .ok (.iadd, 1) := by decide +kernel
theorem d_M_runAt_213 : decode (zb m_M_runAt) 213 = .ok (.goto 5, 3) := by decide +kernel
theorem d_M_runAt_216 : decode (zb m_M_runAt) 216 = .ok (.iload 9, 2) := by decide +kernel
theorem d_M_runAt_218 : decode (zb m_M_runAt) 218 = .ok (.ireturn, 1) := by decide +kernel
theorem d_M_runAt_219 : decode (zb m_M_runAt) 219 = .ok (.iinc 5 1, 3) := by decide +kernel
theorem d_M_runAt_222 : decode (zb m_M_runAt) 222 = .ok (.goto (-216), 3) := by decide +kernel
theorem d_M_runAt_225 : decode (zb m_M_runAt) 225 = .ok (.bipush (-6), 2) := by decide +kernel
theorem d_M_runAt_227 : decode (zb m_M_runAt) 227 = .ok (.ireturn, 1) := by decide +kernel
theorem d_M_placeOf_0 : decode (zb m_M_placeOf) 0 = .ok (.iload_n 1, 1) := by decide +kernel
theorem d_M_placeOf_1 : decode (zb m_M_placeOf) 1 = .ok (.bipush 20, 2) := by decide +kernel
theorem d_M_placeOf_3 : decode (zb m_M_placeOf) 3 = .ok (.if_icmp .ge 18, 3) := by decide +kernel
theorem d_M_placeOf_6 : decode (zb m_M_placeOf) 6 = .ok (.iload_n 1, 1) := by decide +kernel
theorem d_M_placeOf_7 : decode (zb m_M_placeOf) 7 = .ok (.aload_n 0, 1) := by decide +kernel
theorem d_M_placeOf_8 : decode (zb m_M_placeOf) 8 = .ok (.getfield 108, 3) := by decide +kernel
theorem d_M_placeOf_11 : decode (zb m_M_placeOf) 11 = .ok (.if_icmp .gt 7, 3) := by decide +kernel
theorem d_M_placeOf_14 : decode (zb m_M_placeOf) 14 = .ok (.iload_n 1, 1) := by decide +kernel
theorem d_M_placeOf_15 : decode (zb m_M_placeOf) 15 = .ok (.goto 5, 3) := by decide +kernel
theorem d_M_placeOf_18 : decode (zb m_M_placeOf) 18 = .ok (.bipush (-6), 2) := by decide +kernel
theorem d_M_placeOf_20 : decode (zb m_M_placeOf) 20 = .ok (.ireturn, 1) := by decide +kernel
theorem d_M_placeOf_21 : decode (zb m_M_placeOf) 21 = .ok (.iload_n 1, 1) := by decide +kernel
theorem d_M_placeOf_22 : decode (zb m_M_placeOf) 22 = .ok (.bipush 100, 2) := by decide +kernel
theorem d_M_placeOf_24 : decode (zb m_M_placeOf) 24 = .ok (.if_icmp .ge 29, 3) := by decide +kernel
theorem d_M_placeOf_27 : decode (zb m_M_placeOf) 27 = .ok (.iload_n 1, 1) := by decide +kernel
theorem d_M_placeOf_28 : decode (zb m_M_placeOf) 28 = .ok (.bipush 20, 2) := by decide +kernel
theorem d_M_placeOf_30 : decode (zb m_M_placeOf) 30 = .ok (.isub, 1) := by decide +kernel
theorem d_M_placeOf_31 : decode (zb m_M_placeOf) 31 = .ok (.aload_n 0, 1) := by decide +kernel
theorem d_M_placeOf_32 : decode (zb m_M_placeOf) 32 = .ok (.getfield 108, 3) := by decide +kernel
theorem d_M_placeOf_35 : decode (zb m_M_placeOf) 35 = .ok (.if_icmp .gt 15, 3) := by decide +kernel
theorem d_M_placeOf_38 : decode (zb m_M_placeOf) 38 = .ok (.aload_n 0, 1) := by decide +kernel
theorem d_M_placeOf_39 : decode (zb m_M_placeOf) 39 = .ok (.getfield 108, 3) := by decide +kernel
theorem d_M_placeOf_42 : decode (zb m_M_placeOf) 42 = .ok (.iload_n 1, 1) := by decide +kernel
theorem d_M_placeOf_43 : decode (zb m_M_placeOf) 43 = .ok (.isub, 1) := by decide +kernel
theorem d_M_placeOf_44 : decode (zb m_M_placeOf) 44 = .ok (.bipush 20, 2) := by decide +kernel
theorem d_M_placeOf_46 : decode (zb m_M_placeOf) 46 = .ok (.iadd, 1) := by decide +kernel
theorem d_M_placeOf_47 : decode (zb m_M_placeOf) 47 = .ok (.goto 5, 3) := by decide +kernel
theorem d_M_placeOf_50 : decode (zb m_M_placeOf) 50 = .ok (.bipush (-6), 2) := by decide +kernel
theorem d_M_placeOf_52 : decode (zb m_M_placeOf) 52 = .ok (.ireturn, 1) := by decide +kernel
theorem d_M_placeOf_53 : decode (zb m_M_placeOf) 53 = .ok (.aload_n 0, 1) := by decide +kernel
theorem d_M_placeOf_54 : decode (zb m_M_placeOf) 54 = .ok (.iload_n 1, 1) := by decide +kernel
theorem d_M_placeOf_55 : decode (zb m_M_placeOf) 55 = .ok (.bipush 100, 2) := by decide +kernel
theorem d_M_placeOf_57 : decode (zb m_M_placeOf) 57 = .ok (.irem, 1) := by decide +kernel
theorem d_M_placeOf_58 : decode (zb m_M_placeOf) 58 = .ok (.bipush 20, 2) := by decide +kernel
theorem d_M_placeOf_60 : decode (zb m_M_placeOf) 60 = .ok (.idiv, 1) := by decide +kernel
theorem d_M_placeOf_61 : decode (zb m_M_placeOf) 61 = .ok (.iload_n 1, 1) := by decide +kernel
theorem d_M_placeOf_62 : decode (zb m_M_placeOf) 62 = .ok (.bipush 20, 2) := by decide +kernel
theorem d_M_placeOf_64 : decode (zb m_M_placeOf) 64 = .ok (.irem, 1) := by decide +kernel
theorem d_M_placeOf_65 : decode (zb m_M_placeOf) 65 = .ok (.iconst 3, 1) := by decide +kernel
theorem d_M_placeOf_66 : decode (zb m_M_placeOf) 66 = .ok (.isub, 1) := by decide +kernel
theorem d_M_placeOf_67 : decode (zb m_M_placeOf) 67 = .ok (.iload_n 1, 1) := by decide +kernel
theorem d_M_placeOf_68 : decode (zb m_M_placeOf) 68 = .ok (.sipush 200, 3) := by decide +kernel
theorem d_M_placeOf_71 : decode (zb m_M_placeOf) 71 = .ok (.if_icmp .lt 7, 3) := by decide +kernel
theorem d_M_placeOf_74 : decode (zb m_M_placeOf) 74 = .ok (.iconst 1, 1) := by decide +kernel
theorem d_M_placeOf_75 : decode (zb m_M_placeOf) 75 = .ok (.goto 4, 3) := by decide +kernel
theorem d_M_placeOf_78 : decode (zb m_M_placeOf) 78 = .ok (.iconst 0, 1) := by decide +kernel
theorem d_M_placeOf_79 : decode (zb m_M_placeOf) 79 = .ok (.invokevirtual 111, 3) := by decide +kernel
theorem d_M_placeOf_82 : decode (zb m_M_placeOf) 82 = .ok (.ireturn, 1) := by decide +kernel
theorem d_M_place_0 : decode (zb m_M_place) 0 = .ok (.aload_n 0, 1) := by decide +kernel
theorem d_M_place_1 : decode (zb m_M_place) 1 = .ok (.invokevirtual 95, 3) := by decide +kernel
theorem d_M_place_4 : decode (zb m_M_place) 4 = .ok (.ifCond .lt 6, 3) := by decide +kernel
theorem d_M_place_7 : decode (zb m_M_place) 7 = .ok (.bipush (-5), 2) := by decide +kernel
theorem d_M_place_9 : decode (zb m_M_place) 9 = .ok (.ireturn, 1) := by decide +kernel
theorem d_M_place_10 : decode (zb m_M_place) 10 = .ok (.iload_n 1, 1) := by decide +kernel
theorem d_M_place_11 : decode (zb m_M_place) 11 = .ok (.invokestatic 75, 3) := by decide +kernel
theorem d_M_place_14 : decode (zb m_M_place) 14 = .ok (.ifCond .ne 6, 3) := by decide +kernel
theorem d_M_place_17 : decode (zb m_M_place) 17 = .ok (.bipush (-2), 2) := by decide +kernel
theorem d_M_place_19 : decode (zb m_M_place) 19 = .ok (.ireturn, 1) := by decide +kernel
theorem d_M_place_20 : decode (zb m_M_place) 20 = .ok (.aload_n 0, 1) := by decide +kernel
theorem d_M_place_21 : decode (zb m_M_place) 21 = .ok (.invokevirtual 115, 3) := by decide +kernel
theorem d_M_place_24 : decode (zb m_M_place) 24 = .ok (.aload_n 0, 1) := by decide +kernel
theorem d_M_place_25 : decode (zb m_M_place) 25 = .ok (.iload_n 1, 1) := by decide +kernel
theorem d_M_place_26 : decode (zb m_M_place) 26 = .ok (.invokevirtual 118, 3) := by decide +kernel
theorem d_M_place_29 : decode (zb m_M_place) 29 = .ok (.ireturn, 1) := by decide +kernel
theorem d_M_power_0 : decode (zb m_M_power) 0 = .ok (.iload_n 0, 1) := by decide +kernel
theorem d_M_power_1 : decode (zb m_M_power) 1 = .ok (.ifCond .ne 7, 3) := by decide +kernel
theorem d_M_power_4 : decode (zb m_M_power) 4 = .ok (.iconst 1, 1) := by decide +kernel
theorem d_M_power_5 : decode (zb m_M_power) 5 = .ok (.goto 26, 3) := by decide +kernel
theorem d_M_power_8 : decode (zb m_M_power) 8 = .ok (.iload_n 0, 1) := by decide +kernel
theorem d_M_power_9 : decode (zb m_M_power) 9 = .ok (.iconst 1, 1) := by decide +kernel
theorem d_M_power_10 : decode (zb m_M_power) 10 = .ok (.if_icmp .ne 8, 3) := by decide +kernel
theorem d_M_power_13 : decode (zb m_M_power) 13 = .ok (.bipush 6, 2) := by decide +kernel
theorem d_M_power_15 : decode (zb m_M_power) 15 = .ok (.goto 16, 3) := by decide +kernel
theorem d_M_power_18 : decode (zb m_M_power) 18 = .ok (.iload_n 0, 1) := by decide +kernel
theorem d_M_power_19 : decode (zb m_M_power) 19 = .ok (.iconst 2, 1) := by decide +kernel
theorem d_M_power_20 : decode (zb m_M_power) 20 = .ok (.if_icmp .ne 8, 3) := by decide +kernel
theorem d_M_power_23 : decode (zb m_M_power) 23 = .ok (.bipush 36, 2) := by decide +kernel
theorem d_M_power_25 : decode (zb m_M_power) 25 = .ok (.goto 6, 3) := by decide +kernel
theorem d_M_power_28 : decode (zb m_M_power) 28 = .ok (.sipush 216, 3) := by decide +kernel
theorem d_M_power_31 : decode (zb m_M_power) 31 = .ok (.ireturn, 1) := by decide +kernel
theorem d_M_at_0 : decode (zb m_M_at) 0 = .ok (.iload_n 0, 1) := by decide +kernel
theorem d_M_at_1 : decode (zb m_M_at) 1 = .ok (.iload_n 1, 1) := by decide +kernel
theorem d_M_at_2 : decode (zb m_M_at) 2 = .ok (.invokestatic 121, 3) := by decide +kernel
theorem d_M_at_5 : decode (zb m_M_at) 5 = .ok (.idiv, 1) := by decide +kernel
theorem d_M_at_6 : decode (zb m_M_at) 6 = .ok (.bipush 6, 2) := by decide +kernel
theorem d_M_at_8 : decode (zb m_M_at) 8 = .ok (.irem, 1) := by decide +kernel
theorem d_M_at_9 : decode (zb m_M_at) 9 = .ok (.ireturn, 1) := by decide +kernel
theorem d_M_addWork_0 : decode (zb m_M_addWork) 0 = .ok (.iconst 0, 1) := by decide +kernel
theorem d_M_addWork_1 : decode (zb m_M_addWork) 1 = .ok (.istore_n 1, 1) := by decide +kernel
theorem d_M_addWork_2 : decode (zb m_M_addWork) 2 = .ok (.iload_n 1, 1) := by decide +kernel
theorem d_M_addWork_3 : decode (zb m_M_addWork) 3 = .ok (.aload_n 0, 1) := by decide +kernel
theorem d_M_addWork_4 : decode (zb m_M_addWork) 4 = .ok (.getfield 108, 3) := by decide +kernel
theorem d_M_addWork_7 : decode (zb m_M_addWork) 7 = .ok (.if_icmp .ge 29, 3) := by decide +kernel
theorem d_M_addWork_10 : decode (zb m_M_addWork) 10 = .ok (.aload_n 0, 1) := by decide +kernel
theorem d_M_addWork_11 : decode (zb m_M_addWork) 11 = .ok (.getfield 37, 3) := by decide +kernel
theorem d_M_addWork_14 : decode (zb m_M_addWork) 14 = .ok (.bipush 12, 2) := by decide +kernel
theorem d_M_addWork_16 : decode (zb m_M_addWork) 16 = .ok (.aload_n 0, 1) := by decide +kernel
theorem d_M_addWork_17 : decode (zb m_M_addWork) 17 = .ok (.getfield 124, 3) := by decide +kernel
theorem d_M_addWork_20 : decode (zb m_M_addWork) 20 = .ok (.imul, 1) := by decide +kernel
theorem d_M_addWork_21 : decode (zb m_M_addWork) 21 = .ok (.iload_n 1, 1) := by decide +kernel
theorem d_M_addWork_22 : decode (zb m_M_addWork) 22 = .ok (.iadd, 1) := by decide +kernel
theorem d_M_addWork_23 : decode (zb m_M_addWork) 23 = .ok (.aload_n 0, 1) := by decide +kernel
theorem d_M_addWork_24 : decode (zb m_M_addWork) 24 = .ok (.getfield 34, 3) := by decide +kernel
theorem d_M_addWork_27 : decode (zb m_M_addWork) 27 = .ok (.iload_n 1, 1) := by decide +kernel
theorem d_M_addWork_28 : decode (zb m_M_addWork) 28 = .ok (.iaload, 1) := by decide +kernel
theorem d_M_addWork_29 : decode (zb m_M_addWork) 29 = .ok (.iastore, 1) := by decide +kernel
theorem d_M_addWork_30 : decode (zb m_M_addWork) 30 = .ok (.iinc 1 1, 3) := by decide +kernel
theorem d_M_addWork_33 : decode (zb m_M_addWork) 33 = .ok (.goto (-31), 3) := by decide +kernel
theorem d_M_addWork_36 : decode (zb m_M_addWork) 36 = .ok (.iconst 0, 1) := by decide +kernel
theorem d_M_addWork_37 : decode (zb m_M_addWork) 37 = .ok (.istore_n 1, 1) := by decide +kernel
theorem d_M_addWork_38 : decode (zb m_M_addWork) 38 = .ok (.iload_n 1, 1) := by decide +kernel
theorem d_M_addWork_39 : decode (zb m_M_addWork) 39 = .ok (.bipush 62, 2) := by decide +kernel
theorem d_M_addWork_41 : decode (zb m_M_addWork) 41 = .ok (.if_icmp .ge 33, 3) := by decide +kernel
theorem d_M_addWork_44 : decode (zb m_M_addWork) 44 = .ok (.aload_n 0, 1) := by decide +kernel
theorem d_M_addWork_45 : decode (zb m_M_addWork) 45 = .ok (.getfield 46, 3) := by decide +kernel
theorem d_M_addWork_48 : decode (zb m_M_addWork) 48 = .ok (.bipush 62, 2) := by decide +kernel
theorem d_M_addWork_50 : decode (zb m_M_addWork) 50 = .ok (.aload_n 0, 1) := by decide +kernel
theorem d_M_addWork_51 : decode (zb m_M_addWork) 51 = .ok (.getfield 124, 3) := by decide +kernel
theorem d_M_addWork_54 : decode (zb m_M_addWork) 54 = .ok (.imul, 1) := by decide +kernel
theorem d_M_addWork_55 : decode (zb m_M_addWork) 55 = .ok (.iload_n 1, 1) := by decide +kernel
theorem d_M_addWork_56 : decode (zb m_M_addWork) 56 = .ok (.iadd, 1) := by decide +kernel
theorem d_M_addWork_57 : decode (zb m_M_addWork) 57 = .ok (.aload_n 0, 1) := by decide +kernel
theorem d_M_addWork_58 : decode (zb m_M_addWork) 58 = .ok (.aload_n 0, 1) := by decide +kernel
theorem d_M_addWork_59 : decode (zb m_M_addWork) 59 = .ok (.getfield 31, 3) := by decide +kernel
theorem d_M_addWork_62 : decode (zb m_M_addWork) 62 = .ok (.iload_n 1, 1) := by decide +kernel
theorem d_M_addWork_63 : decode (zb m_M_addWork) 63 = .ok (.iaload, 1) := by decide +kernel
theorem d_M_addWork_64 : decode (zb m_M_addWork) 64 = .ok (.invokevirtual 118, 3) := by decide +kernel
theorem d_M_addWork_67 : decode (zb m_M_addWork) 67 = .ok (.iastore, 1) := by decide +kernel
theorem d_M_addWork_68 : decode (zb m_M_addWork) 68 = .ok (.iinc 1 1, 3) := by decide +kernel
theorem d_M_addWork_71 : decode (zb m_M_addWork) 71 = .ok (.goto (-33), 3) := by decide +kernel
theorem d_M_addWork_74 : decode (zb m_M_addWork) 74 = .ok (.aload_n 0, 1) := by decide +kernel
theorem d_M_addWork_75 : decode (zb m_M_addWork) 75 = .ok (.dup, 1) := by decide +kernel
theorem d_M_addWork_76 : decode (zb m_M_addWork) 76 = .ok (.getfield 124, 3) := by decide +kernel
theorem d_M_addWork_79 : decode (zb m_M_addWork) 79 = .ok (.iconst 1, 1) := by decide +kernel
theorem d_M_addWork_80 : decode (zb m_M_addWork) 80 = .ok (.iadd, 1) := by decide +kernel
theorem d_M_addWork_81 : decode (zb m_M_addWork) 81 = .ok (.putfield 124, 3) := by decide +kernel
theorem d_M_addWork_84 : decode (zb m_M_addWork) 84 = .ok (.return_, 1) := by decide +kernel
theorem d_M_layExamples_0 : decode (zb m_M_layExamples) 0 = .ok (.aload_n 0, 1) := by decide +kernel
theorem d_M_layExamples_1 : decode (zb m_M_layExamples) 1 = .ok (.iconst 0, 1) := by decide +kernel
theorem d_M_layExamples_2 : decode (zb m_M_layExamples) 2 = .ok (.putfield 124, 3) := by decide +kernel
theorem d_M_layExamples_5 : decode (zb m_M_layExamples) 5 = .ok (.iconst 0, 1) := by decide +kernel
theorem d_M_layExamples_6 : decode (zb m_M_layExamples) 6 = .ok (.istore_n 1, 1) := by decide +kernel
theorem d_M_layExamples_7 : decode (zb m_M_layExamples) 7 = .ok (.iload_n 1, 1) := by decide +kernel
theorem d_M_layExamples_8 : decode (zb m_M_layExamples) 8 = .ok (.aload_n 0, 1) := by decide +kernel
theorem d_M_layExamples_9 : decode (zb m_M_layExamples) 9 = .ok (.getfield 98, 3) := by decide +kernel
theorem d_M_layExamples_12 : decode (zb m_M_layExamples) 12 = .ok (.if_icmp .ge 106, 3) := by decide +kernel
theorem d_M_layExamples_15 : decode (zb m_M_layExamples) 15 = .ok (.aload_n 0, 1) := by decide +kernel
theorem d_M_layExamples_16 : decode (zb m_M_layExamples) 16 = .ok (.aload_n 0, 1) := by decide +kernel
theorem d_M_layExamples_17 : decode (zb m_M_layExamples) 17 = .ok (.getfield 13, 3) := by decide +kernel
theorem d_M_layExamples_20 : decode (zb m_M_layExamples) 20 = .ok (.iload_n 1, 1) := by decide +kernel
theorem d_M_layExamples_21 : decode (zb m_M_layExamples) 21 = .ok (.iaload, 1) := by decide +kernel
theorem d_M_layExamples_22 : decode (zb m_M_layExamples) 22 = .ok (.putfield 108, 3) := by decide +kernel
theorem d_M_layExamples_25 : decode (zb m_M_layExamples) 25 = .ok (.iconst 0, 1) := by decide +kernel
theorem d_M_layExamples_26 : decode (zb m_M_layExamples) 26 = .ok (.istore_n 2, 1) := by decide +kernel
theorem d_M_layExamples_27 : decode (zb m_M_layExamples) 27 = .ok (.iload_n 2, 1) := by decide +kernel
theorem d_M_layExamples_28 : decode (zb m_M_layExamples) 28 = .ok (.aload_n 0, 1) := by decide +kernel
theorem d_M_layExamples_29 : decode (zb m_M_layExamples) 29 = .ok (.getfield 108, 3) := by decide +kernel
theorem d_M_layExamples_32 : decode (zb m_M_layExamples) 32 = .ok (.if_icmp .ge 26, 3) := by decide +kernel
theorem d_M_layExamples_35 : decode (zb m_M_layExamples) 35 = .ok (.aload_n 0, 1) := by decide +kernel
theorem d_M_layExamples_36 : decode (zb m_M_layExamples) 36 = .ok (.getfield 34, 3) := by decide +kernel
theorem d_M_layExamples_39 : decode (zb m_M_layExamples) 39 = .ok (.iload_n 2, 1) := by decide +kernel
theorem d_M_layExamples_40 : decode (zb m_M_layExamples) 40 = .ok (.aload_n 0, 1) := by decide +kernel
theorem d_M_layExamples_41 : decode (zb m_M_layExamples) 41 = .ok (.getfield 7, 3) := by decide +kernel
theorem d_M_layExamples_44 : decode (zb m_M_layExamples) 44 = .ok (.bipush 12, 2) := by decide +kernel
theorem d_M_layExamples_46 : decode (zb m_M_layExamples) 46 = .ok (.iload_n 1, 1) := by decide +kernel
theorem d_M_layExamples_47 : decode (zb m_M_layExamples) 47 = .ok (.imul, 1) := by decide +kernel
theorem d_M_layExamples_48 : decode (zb m_M_layExamples) 48 = .ok (.iload_n 2, 1) := by decide +kernel
theorem d_M_layExamples_49 : decode (zb m_M_layExamples) 49 = .ok (.iadd, 1) := by decide +kernel
theorem d_M_layExamples_50 : decode (zb m_M_layExamples) 50 = .ok (.iaload, 1) := by decide +kernel
theorem d_M_layExamples_51 : decode (zb m_M_layExamples) 51 = .ok (.iastore, 1) := by decide +kernel
theorem d_M_layExamples_52 : decode (zb m_M_layExamples) 52 = .ok (.iinc 2 1, 3) := by decide +kernel
theorem d_M_layExamples_55 : decode (zb m_M_layExamples) 55 = .ok (.goto (-28), 3) := by decide +kernel
theorem d_M_layExamples_58 : decode (zb m_M_layExamples) 58 = .ok (.iconst 0, 1) := by decide +kernel
theorem d_M_layExamples_59 : decode (zb m_M_layExamples) 59 = .ok (.istore_n 2, 1) := by decide +kernel
theorem d_M_layExamples_60 : decode (zb m_M_layExamples) 60 = .ok (.iload_n 2, 1) := by decide +kernel
theorem d_M_layExamples_61 : decode (zb m_M_layExamples) 61 = .ok (.aload_n 0, 1) := by decide +kernel
theorem d_M_layExamples_62 : decode (zb m_M_layExamples) 62 = .ok (.getfield 19, 3) := by decide +kernel
theorem d_M_layExamples_65 : decode (zb m_M_layExamples) 65 = .ok (.iload_n 1, 1) := by decide +kernel
theorem d_M_layExamples_66 : decode (zb m_M_layExamples) 66 = .ok (.iaload, 1) := by decide +kernel
theorem d_M_layExamples_67 : decode (zb m_M_layExamples) 67 = .ok (.if_icmp .ge 29, 3) := by decide +kernel
theorem d_M_layExamples_70 : decode (zb m_M_layExamples) 70 = .ok (.aload_n 0, 1) := by decide +kernel
theorem d_M_layExamples_71 : decode (zb m_M_layExamples) 71 = .ok (.getfield 40, 3) := by decide +kernel
theorem d_M_layExamples_74 : decode (zb m_M_layExamples) 74 = .ok (.iconst 5, 1) := by decide +kernel
theorem d_M_layExamples_75 : decode (zb m_M_layExamples) 75 = .ok (.iload_n 1, 1) := by decide +kernel
theorem d_M_layExamples_76 : decode (zb m_M_layExamples) 76 = .ok (.imul, 1) := by decide +kernel
theorem d_M_layExamples_77 : decode (zb m_M_layExamples) 77 = .ok (.iload_n 2, 1) := by decide +kernel
theorem d_M_layExamples_78 : decode (zb m_M_layExamples) 78 = .ok (.iadd, 1) := by decide +kernel
theorem d_M_layExamples_79 : decode (zb m_M_layExamples) 79 = .ok (.aload_n 0, 1) := by decide +kernel
theorem d_M_layExamples_80 : decode (zb m_M_layExamples) 80 = .ok (.getfield 16, 3) := by decide +kernel
theorem d_M_layExamples_83 : decode (zb m_M_layExamples) 83 = .ok (.iconst 5, 1) := by decide +kernel
theorem d_M_layExamples_84 : decode (zb m_M_layExamples) 84 = .ok (.iload_n 1, 1) := by decide +kernel
theorem d_M_layExamples_85 : decode (zb m_M_layExamples) 85 = .ok (.imul, 1) := by decide +kernel
theorem d_M_layExamples_86 : decode (zb m_M_layExamples) 86 = .ok (.iload_n 2, 1) := by decide +kernel
theorem d_M_layExamples_87 : decode (zb m_M_layExamples) 87 = .ok (.iadd, 1) := by decide +kernel
theorem d_M_layExamples_88 : decode (zb m_M_layExamples) 88 = .ok (.iaload, 1) := by decide +kernel
theorem d_M_layExamples_89 : decode (zb m_M_layExamples) 89 = .ok (.iastore, 1) := by decide +kernel
theorem d_M_layExamples_90 : decode (zb m_M_layExamples) 90 = .ok (.iinc 2 1, 3) := by decide +kernel
theorem d_M_layExamples_93 : decode (zb m_M_layExamples) 93 = .ok (.goto (-33), 3) := by decide +kernel
theorem d_M_layExamples_96 : decode (zb m_M_layExamples) 96 = .ok (.aload_n 0, 1) := by decide +kernel
theorem d_M_layExamples_97 : decode (zb m_M_layExamples) 97 = .ok (.getfield 43, 3) := by decide +kernel
theorem d_M_layExamples_100 : decode (zb m_M_layExamples) 100 = .ok (.iload_n 1, 1) := by decide +kernel
theorem d_M_layExamples_101 : decode (zb m_M_layExamples) 101 = .ok (.aload_n 0, 1) := by decide +kernel
theorem d_M_layExamples_102 : decode (zb m_M_layExamples) 102 = .ok (.getfield 19, 3) := by decide +kernel
theorem d_M_layExamples_105 : decode (zb m_M_layExamples) 105 = .ok (.iload_n 1, 1) := by decide +kernel
theorem d_M_layExamples_106 : decode (zb m_M_layExamples) 106 = .ok (.iaload, 1) := by decide +kernel
theorem d_M_layExamples_107 : decode (zb m_M_layExamples) 107 = .ok (.iastore, 1) := by decide +kernel
theorem d_M_layExamples_108 : decode (zb m_M_layExamples) 108 = .ok (.aload_n 0, 1) := by decide +kernel
theorem d_M_layExamples_109 : decode (zb m_M_layExamples) 109 = .ok (.invokevirtual 127, 3) := by decide +kernel
theorem d_M_layExamples_112 : decode (zb m_M_layExamples) 112 = .ok (.iinc 1 1, 3) := by decide +kernel
theorem d_M_layExamples_115 : decode (zb m_M_layExamples) 115 = .ok (.goto (-108), 3) := by decide +kernel
theorem d_M_layExamples_118 : decode (zb m_M_layExamples) 118 = .ok (.return_, 1) := by decide +kernel
theorem d_M_cut_0 : decode (zb m_M_cut) 0 = .ok (.iload_n 1, 1) := by decide +kernel
theorem d_M_cut_1 : decode (zb m_M_cut) 1 = .ok (.istore 4, 2) := by decide +kernel
theorem d_M_cut_3 : decode (zb m_M_cut) 3 = .ok (.iconst 0, 1) := by decide +kernel
theorem d_M_cut_4 : decode (zb m_M_cut) 4 = .ok (.istore 5, 2) := by decide +kernel
theorem d_M_cut_6 : decode (zb m_M_cut) 6 = .ok (.iload 5, 2) := by decide +kernel
theorem d_M_cut_8 : decode (zb m_M_cut) 8 = .ok (.aload_n 0, 1) := by decide +kernel
theorem d_M_cut_9 : decode (zb m_M_cut) 9 = .ok (.getfield 124, 3) := by decide +kernel
theorem d_M_cut_12 : decode (zb m_M_cut) 12 = .ok (.if_icmp .ge 148, 3) := by decide +kernel
theorem d_M_cut_15 : decode (zb m_M_cut) 15 = .ok (.aload_n 0, 1) := by decide +kernel
theorem d_M_cut_16 : decode (zb m_M_cut) 16 = .ok (.getfield 46, 3) := by decide +kernel
theorem d_M_cut_19 : decode (zb m_M_cut) 19 = .ok (.bipush 62, 2) := by decide +kernel
theorem d_M_cut_21 : decode (zb m_M_cut) 21 = .ok (.iload 5, 2) := by decide +kernel
theorem d_M_cut_23 : decode (zb m_M_cut) 23 = .ok (.imul, 1) := by decide +kernel
theorem d_M_cut_24 : decode (zb m_M_cut) 24 = .ok (.iload_n 2, 1) := by decide +kernel
theorem d_M_cut_25 : decode (zb m_M_cut) 25 = .ok (.iadd, 1) := by decide +kernel
theorem d_M_cut_26 : decode (zb m_M_cut) 26 = .ok (.iaload, 1) := by decide +kernel
theorem d_M_cut_27 : decode (zb m_M_cut) 27 = .ok (.istore 6, 2) := by decide +kernel
theorem d_M_cut_29 : decode (zb m_M_cut) 29 = .ok (.aload_n 0, 1) := by decide +kernel
theorem d_M_cut_30 : decode (zb m_M_cut) 30 = .ok (.getfield 46, 3) := by decide +kernel
theorem d_M_cut_33 : decode (zb m_M_cut) 33 = .ok (.bipush 62, 2) := by decide +kernel
theorem d_M_cut_35 : decode (zb m_M_cut) 35 = .ok (.iload 5, 2) := by decide +kernel
theorem d_M_cut_37 : decode (zb m_M_cut) 37 = .ok (.imul, 1) := by decide +kernel
theorem d_M_cut_38 : decode (zb m_M_cut) 38 = .ok (.iload_n 3, 1) := by decide +kernel
theorem d_M_cut_39 : decode (zb m_M_cut) 39 = .ok (.iadd, 1) := by decide +kernel
theorem d_M_cut_40 : decode (zb m_M_cut) 40 = .ok (.iaload, 1) := by decide +kernel
theorem d_M_cut_41 : decode (zb m_M_cut) 41 = .ok (.istore 7, 2) := by decide +kernel
theorem d_M_cut_43 : decode (zb m_M_cut) 43 = .ok (.iload_n 1, 1) := by decide +kernel
theorem d_M_cut_44 : decode (zb m_M_cut) 44 = .ok (.iload 5, 2) := by decide +kernel
theorem d_M_cut_46 : decode (zb m_M_cut) 46 = .ok (.invokestatic 130, 3) := by decide +kernel
theorem d_M_cut_49 : decode (zb m_M_cut) 49 = .ok (.istore 8, 2) := by decide +kernel
theorem d_M_cut_51 : decode (zb m_M_cut) 51 = .ok (.iload 6, 2) := by decide +kernel
theorem d_M_cut_53 : decode (zb m_M_cut) 53 = .ok (.ifCond .lt 28, 3) := by decide +kernel
theorem d_M_cut_56 : decode (zb m_M_cut) 56 = .ok (.iload 6, 2) := by decide +kernel
theorem d_M_cut_58 : decode (zb m_M_cut) 58 = .ok (.iload 7, 2) := by decide +kernel
theorem d_M_cut_60 : decode (zb m_M_cut) 60 = .ok (.if_icmp .ge 21, 3) := by decide +kernel
theorem d_M_cut_63 : decode (zb m_M_cut) 63 = .ok (.iload 8, 2) := by decide +kernel
theorem d_M_cut_65 : decode (zb m_M_cut) 65 = .ok (.iload 7, 2) := by decide +kernel
theorem d_M_cut_67 : decode (zb m_M_cut) 67 = .ok (.iadd, 1) := by decide +kernel
theorem d_M_cut_68 : decode (zb m_M_cut) 68 = .ok (.iload 6, 2) := by decide +kernel
theorem d_M_cut_70 : decode (zb m_M_cut) 70 = .ok (.isub, 1) := by decide +kernel
theorem d_M_cut_71 : decode (zb m_M_cut) 71 = .ok (.aload_n 0, 1) := by decide +kernel
theorem d_M_cut_72 : decode (zb m_M_cut) 72 = .ok (.getfield 43, 3) := by decide +kernel
theorem d_M_cut_75 : decode (zb m_M_cut) 75 = .ok (.iload 5, 2) := by decide +kernel
theorem d_M_cut_77 : decode (zb m_M_cut) 77 = .ok (.iaload, 1) := by decide +kernel
theorem d_M_cut_78 : decode (zb m_M_cut) 78 = .ok (.if_icmp .le 6, 3) := by decide +kernel
theorem d_M_cut_81 : decode (zb m_M_cut) 81 = .ok (.bipush (-6), 2) := by decide +kernel
theorem d_M_cut_83 : decode (zb m_M_cut) 83 = .ok (.ireturn, 1) := by decide +kernel
theorem d_M_cut_84 : decode (zb m_M_cut) 84 = .ok (.iload 6, 2) := by decide +kernel
theorem d_M_cut_86 : decode (zb m_M_cut) 86 = .ok (.istore 9, 2) := by decide +kernel
theorem d_M_cut_88 : decode (zb m_M_cut) 88 = .ok (.iload 9, 2) := by decide +kernel
theorem d_M_cut_90 : decode (zb m_M_cut) 90 = .ok (.iload 7, 2) := by decide +kernel
theorem d_M_cut_92 : decode (zb m_M_cut) 92 = .ok (.if_icmp .ge 46, 3) := by decide +kernel
theorem d_M_cut_95 : decode (zb m_M_cut) 95 = .ok (.aload_n 0, 1) := by decide +kernel
theorem d_M_cut_96 : decode (zb m_M_cut) 96 = .ok (.getfield 37, 3) := by decide +kernel
theorem d_M_cut_99 : decode (zb m_M_cut) 99 = .ok (.bipush 12, 2) := by decide +kernel
theorem d_M_cut_101 : decode (zb m_M_cut) 101 = .ok (.iload 5, 2) := by decide +kernel
theorem d_M_cut_103 : decode (zb m_M_cut) 103 = .ok (.imul, 1) := by decide +kernel
theorem d_M_cut_104 : decode (zb m_M_cut) 104 = .ok (.iload 9, 2) := by decide +kernel
theorem d_M_cut_106 : decode (zb m_M_cut) 106 = .ok (.iadd, 1) := by decide +kernel
theorem d_M_cut_107 : decode (zb m_M_cut) 107 = .ok (.iaload, 1) := by decide +kernel
theorem d_M_cut_108 : decode (zb m_M_cut) 108 = .ok (.aload_n 0, 1) := by decide +kernel
theorem d_M_cut_109 : decode (zb m_M_cut) 109 = .ok (.getfield 40, 3) := by decide +kernel
theorem d_M_cut_112 : decode (zb m_M_cut) 112 = .ok (.iconst 5, 1) := by decide +kernel
theorem d_M_cut_113 : decode (zb m_M_cut) 113 = .ok (.iload 5, 2) := by decide +kernel
theorem d_M_cut_115 : decode (zb m_M_cut) 115 = .ok (.imul, 1) := by decide +kernel
theorem d_M_cut_116 : decode (zb m_M_cut) 116 = .ok (.iload 8, 2) := by decide +kernel
theorem d_M_cut_118 : decode (zb m_M_cut) 118 = .ok (.iadd, 1) := by decide +kernel
theorem d_M_cut_119 : decode (zb m_M_cut) 119 = .ok (.iload 9, 2) := by decide +kernel
theorem d_M_cut_121 : decode (zb m_M_cut) 121 = .ok (.iadd, 1) := by decide +kernel
theorem d_M_cut_122 : decode (zb m_M_cut) 122 = .ok (.iload 6, 2) := by decide +kernel
theorem d_M_cut_124 : decode (zb m_M_cut) 124 = .ok (.isub, 1) := by decide +kernel
theorem d_M_cut_125 : decode (zb m_M_cut) 125 = .ok (.iaload, 1) := by decide +kernel
theorem d_M_cut_126 : decode (zb m_M_cut) 126 = .ok (.if_icmp .eq 6, 3) := by decide +kernel
theorem d_M_cut_129 : decode (zb m_M_cut) 129 = .ok (.bipush (-6), 2) := by decide +kernel
theorem d_M_cut_131 : decode (zb m_M_cut) 131 = .ok (.ireturn, 1) := by decide +kernel
theorem d_M_cut_132 : decode (zb m_M_cut) 132 = .ok (.iinc 9 1, 3) := by decide +kernel
theorem d_M_cut_135 : decode (zb m_M_cut) 135 = .ok (.goto (-47), 3) := by decide +kernel
theorem d_M_cut_138 : decode (zb m_M_cut) 138 = .ok (.iload 4, 2) := by decide +kernel
theorem d_M_cut_140 : decode (zb m_M_cut) 140 = .ok (.iload 7, 2) := by decide +kernel
theorem d_M_cut_142 : decode (zb m_M_cut) 142 = .ok (.iload 6, 2) := by decide +kernel
theorem d_M_cut_144 : decode (zb m_M_cut) 144 = .ok (.isub, 1) := by decide +kernel
theorem d_M_cut_145 : decode (zb m_M_cut) 145 = .ok (.iload 5, 2) := by decide +kernel
theorem d_M_cut_147 : decode (zb m_M_cut) 147 = .ok (.invokestatic 121, 3) := by decide +kernel
theorem d_M_cut_150 : decode (zb m_M_cut) 150 = .ok (.imul, 1) := by decide +kernel
theorem d_M_cut_151 : decode (zb m_M_cut) 151 = .ok (.iadd, 1) := by decide +kernel
theorem d_M_cut_152 : decode (zb m_M_cut) 152 = .ok (.istore 4, 2) := by decide +kernel
theorem d_M_cut_154 : decode (zb m_M_cut) 154 = .ok (.iinc 5 1, 3) := by decide +kernel
theorem d_M_cut_157 : decode (zb m_M_cut) 157 = .ok (.goto (-151), 3) := by decide +kernel
theorem d_M_cut_160 : decode (zb m_M_cut) 160 = .ok (.iload 4, 2) := by decide +kernel
theorem d_M_cut_162 : decode (zb m_M_cut) 162 = .ok (.ireturn, 1) := by decide +kernel
theorem d_M_text_0 : decode (zb m_M_text) 0 = .ok (.iload_n 1, 1) := by decide +kernel
theorem d_M_text_1 : decode (zb m_M_text) 1 = .ok (.istore_n 3, 1) := by decide +kernel
theorem d_M_text_2 : decode (zb m_M_text) 2 = .ok (.iconst 0, 1) := by decide +kernel
theorem d_M_text_3 : decode (zb m_M_text) 3 = .ok (.istore 4, 2) := by decide +kernel
theorem d_M_text_5 : decode (zb m_M_text) 5 = .ok (.iload 4, 2) := by decide +kernel
theorem d_M_text_7 : decode (zb m_M_text) 7 = .ok (.aload_n 0, 1) := by decide +kernel
theorem d_M_text_8 : decode (zb m_M_text) 8 = .ok (.getfield 124, 3) := by decide +kernel
theorem d_M_text_11 : decode (zb m_M_text) 11 = .ok (.if_icmp .ge 93, 3) := by decide +kernel
theorem d_M_text_14 : decode (zb m_M_text) 14 = .ok (.iload_n 1, 1) := by decide +kernel
theorem d_M_text_15 : decode (zb m_M_text) 15 = .ok (.iload 4, 2) := by decide +kernel
theorem d_M_text_17 : decode (zb m_M_text) 17 = .ok (.invokestatic 130, 3) := by decide +kernel
theorem d_M_text_20 : decode (zb m_M_text) 20 = .ok (.istore 5, 2) := by decide +kernel
theorem d_M_text_22 : decode (zb m_M_text) 22 = .ok (.iload 5, 2) := by decide +kernel
theorem d_M_text_24 : decode (zb m_M_text) 24 = .ok (.iload_n 2, 1) := by decide +kernel
theorem d_M_text_25 : decode (zb m_M_text) 25 = .ok (.iadd, 1) := by decide +kernel
theorem d_M_text_26 : decode (zb m_M_text) 26 = .ok (.aload_n 0, 1) := by decide +kernel
theorem d_M_text_27 : decode (zb m_M_text) 27 = .ok (.getfield 43, 3) := by decide +kernel
theorem d_M_text_30 : decode (zb m_M_text) 30 = .ok (.iload 4, 2) := by decide +kernel
theorem d_M_text_32 : decode (zb m_M_text) 32 = .ok (.iaload, 1) := by decide +kernel
theorem d_M_text_33 : decode (zb m_M_text) 33 = .ok (.if_icmp .le 6, 3) := by decide +kernel
theorem d_M_text_36 : decode (zb m_M_text) 36 = .ok (.bipush (-6), 2) := by decide +kernel
theorem d_M_text_38 : decode (zb m_M_text) 38 = .ok (.ireturn, 1) := by decide +kernel
theorem d_M_text_39 : decode (zb m_M_text) 39 = .ok (.iconst 0, 1) := by decide +kernel
theorem d_M_text_40 : decode (zb m_M_text) 40 = .ok (.istore 6, 2) := by decide +kernel
theorem d_M_text_42 : decode (zb m_M_text) 42 = .ok (.iload 6, 2) := by decide +kernel
theorem d_M_text_44 : decode (zb m_M_text) 44 = .ok (.iload_n 2, 1) := by decide +kernel
theorem d_M_text_45 : decode (zb m_M_text) 45 = .ok (.if_icmp .ge 43, 3) := by decide +kernel
theorem d_M_text_48 : decode (zb m_M_text) 48 = .ok (.aload_n 0, 1) := by decide +kernel
theorem d_M_text_49 : decode (zb m_M_text) 49 = .ok (.getfield 40, 3) := by decide +kernel
theorem d_M_text_52 : decode (zb m_M_text) 52 = .ok (.iconst 5, 1) := by decide +kernel
theorem d_M_text_53 : decode (zb m_M_text) 53 = .ok (.iload 4, 2) := by decide +kernel
theorem d_M_text_55 : decode (zb m_M_text) 55 = .ok (.imul, 1) := by decide +kernel
theorem d_M_text_56 : decode (zb m_M_text) 56 = .ok (.iload 5, 2) := by decide +kernel
theorem d_M_text_58 : decode (zb m_M_text) 58 = .ok (.iadd, 1) := by decide +kernel
theorem d_M_text_59 : decode (zb m_M_text) 59 = .ok (.iload 6, 2) := by decide +kernel
theorem d_M_text_61 : decode (zb m_M_text) 61 = .ok (.iadd, 1) := by decide +kernel
theorem d_M_text_62 : decode (zb m_M_text) 62 = .ok (.iaload, 1) := by decide +kernel
theorem d_M_text_63 : decode (zb m_M_text) 63 = .ok (.aload_n 0, 1) := by decide +kernel
theorem d_M_text_64 : decode (zb m_M_text) 64 = .ok (.getfield 40, 3) := by decide +kernel
theorem d_M_text_67 : decode (zb m_M_text) 67 = .ok (.iload_n 1, 1) := by decide +kernel
theorem d_M_text_68 : decode (zb m_M_text) 68 = .ok (.iconst 0, 1) := by decide +kernel
theorem d_M_text_69 : decode (zb m_M_text) 69 = .ok (.invokestatic 130, 3) := by decide +kernel
theorem d_M_text_72 : decode (zb m_M_text) 72 = .ok (.iload 6, 2) := by decide +kernel
theorem d_M_text_74 : decode (zb m_M_text) 74 = .ok (.iadd, 1) := by decide +kernel
theorem d_M_text_75 : decode (zb m_M_text) 75 = .ok (.iaload, 1) := by decide +kernel
theorem d_M_text_76 : decode (zb m_M_text) 76 = .ok (.if_icmp .eq 6, 3) := by decide +kernel
theorem d_M_text_79 : decode (zb m_M_text) 79 = .ok (.bipush (-6), 2) := by decide +kernel
theorem d_M_text_81 : decode (zb m_M_text) 81 = .ok (.ireturn, 1) := by decide +kernel
theorem d_M_text_82 : decode (zb m_M_text) 82 = .ok (.iinc 6 1, 3) := by decide +kernel
theorem d_M_text_85 : decode (zb m_M_text) 85 = .ok (.goto (-43), 3) := by decide +kernel
theorem d_M_text_88 : decode (zb m_M_text) 88 = .ok (.iload_n 3, 1) := by decide +kernel
theorem d_M_text_89 : decode (zb m_M_text) 89 = .ok (.iload_n 2, 1) := by decide +kernel
theorem d_M_text_90 : decode (zb m_M_text) 90 = .ok (.iload 4, 2) := by decide +kernel
theorem d_M_text_92 : decode (zb m_M_text) 92 = .ok (.invokestatic 121, 3) := by decide +kernel
theorem d_M_text_95 : decode (zb m_M_text) 95 = .ok (.imul, 1) := by decide +kernel
theorem d_M_text_96 : decode (zb m_M_text) 96 = .ok (.iadd, 1) := by decide +kernel
theorem d_M_text_97 : decode (zb m_M_text) 97 = .ok (.istore_n 3, 1) := by decide +kernel
theorem d_M_text_98 : decode (zb m_M_text) 98 = .ok (.iinc 4 1, 3) := by decide +kernel
theorem d_M_text_101 : decode (zb m_M_text) 101 = .ok (.goto (-96), 3) := by decide +kernel
theorem d_M_text_104 : decode (zb m_M_text) 104 = .ok (.iload_n 3, 1) := by decide +kernel
theorem d_M_text_105 : decode (zb m_M_text) 105 = .ok (.ireturn, 1) := by decide +kernel
theorem d_M_end_0 : decode (zb m_M_end) 0 = .ok (.iconst 0, 1) := by decide +kernel
theorem d_M_end_1 : decode (zb m_M_end) 1 = .ok (.istore_n 1, 1) := by decide +kernel
theorem d_M_end_2 : decode (zb m_M_end) 2 = .ok (.iconst 0, 1) := by decide +kernel
theorem d_M_end_3 : decode (zb m_M_end) 3 = .ok (.istore_n 2, 1) := by decide +kernel
theorem d_M_end_4 : decode (zb m_M_end) 4 = .ok (.iload_n 2, 1) := by decide +kernel
theorem d_M_end_5 : decode (zb m_M_end) 5 = .ok (.aload_n 0, 1) := by decide +kernel
theorem d_M_end_6 : decode (zb m_M_end) 6 = .ok (.getfield 124, 3) := by decide +kernel
theorem d_M_end_9 : decode (zb m_M_end) 9 = .ok (.if_icmp .ge 23, 3) := by decide +kernel
theorem d_M_end_12 : decode (zb m_M_end) 12 = .ok (.iload_n 1, 1) := by decide +kernel
theorem d_M_end_13 : decode (zb m_M_end) 13 = .ok (.aload_n 0, 1) := by decide +kernel
theorem d_M_end_14 : decode (zb m_M_end) 14 = .ok (.getfield 43, 3) := by decide +kernel
theorem d_M_end_17 : decode (zb m_M_end) 17 = .ok (.iload_n 2, 1) := by decide +kernel
theorem d_M_end_18 : decode (zb m_M_end) 18 = .ok (.iaload, 1) := by decide +kernel
theorem d_M_end_19 : decode (zb m_M_end) 19 = .ok (.iload_n 2, 1) := by decide +kernel
theorem d_M_end_20 : decode (zb m_M_end) 20 = .ok (.invokestatic 121, 3) := by decide +kernel
theorem d_M_end_23 : decode (zb m_M_end) 23 = .ok (.imul, 1) := by decide +kernel
theorem d_M_end_24 : decode (zb m_M_end) 24 = .ok (.iadd, 1) := by decide +kernel
theorem d_M_end_25 : decode (zb m_M_end) 25 = .ok (.istore_n 1, 1) := by decide +kernel
theorem d_M_end_26 : decode (zb m_M_end) 26 = .ok (.iinc 2 1, 3) := by decide +kernel
theorem d_M_end_29 : decode (zb m_M_end) 29 = .ok (.goto (-25), 3) := by decide +kernel
theorem d_M_end_32 : decode (zb m_M_end) 32 = .ok (.iload_n 1, 1) := by decide +kernel
theorem d_M_end_33 : decode (zb m_M_end) 33 = .ok (.ireturn, 1) := by decide +kernel
theorem d_M_rows_0 : decode (zb m_M_rows) 0 = .ok (.aload_n 0, 1) := by decide +kernel
theorem d_M_rows_1 : decode (zb m_M_rows) 1 = .ok (.getfield 124, 3) := by decide +kernel
theorem d_M_rows_4 : decode (zb m_M_rows) 4 = .ok (.iconst 4, 1) := by decide +kernel
theorem d_M_rows_5 : decode (zb m_M_rows) 5 = .ok (.if_icmp .ne 9, 3) := by decide +kernel
theorem d_M_rows_8 : decode (zb m_M_rows) 8 = .ok (.sipush 1296, 3) := by decide +kernel
theorem d_M_rows_11 : decode (zb m_M_rows) 11 = .ok (.goto 10, 3) := by decide +kernel
theorem d_M_rows_14 : decode (zb m_M_rows) 14 = .ok (.aload_n 0, 1) := by decide +kernel
theorem d_M_rows_15 : decode (zb m_M_rows) 15 = .ok (.getfield 124, 3) := by decide +kernel
theorem d_M_rows_18 : decode (zb m_M_rows) 18 = .ok (.invokestatic 121, 3) := by decide +kernel
theorem d_M_rows_21 : decode (zb m_M_rows) 21 = .ok (.ireturn, 1) := by decide +kernel
theorem d_M_count_0 : decode (zb m_M_count) 0 = .ok (.aload_n 0, 1) := by decide +kernel
theorem d_M_count_1 : decode (zb m_M_count) 1 = .ok (.invokevirtual 134, 3) := by decide +kernel
theorem d_M_count_4 : decode (zb m_M_count) 4 = .ok (.istore_n 1, 1) := by decide +kernel
theorem d_M_count_5 : decode (zb m_M_count) 5 = .ok (.iconst 0, 1) := by decide +kernel
theorem d_M_count_6 : decode (zb m_M_count) 6 = .ok (.istore_n 2, 1) := by decide +kernel
theorem d_M_count_7 : decode (zb m_M_count) 7 = .ok (.iload_n 2, 1) := by decide +kernel
theorem d_M_count_8 : decode (zb m_M_count) 8 = .ok (.iload_n 1, 1) := by decide +kernel
theorem d_M_count_9 : decode (zb m_M_count) 9 = .ok (.if_icmp .ge 24, 3) := by decide +kernel
theorem d_M_count_12 : decode (zb m_M_count) 12 = .ok (.aload_n 0, 1) := by decide +kernel
theorem d_M_count_13 : decode (zb m_M_count) 13 = .ok (.getfield 49, 3) := by decide +kernel
theorem d_M_count_16 : decode (zb m_M_count) 16 = .ok (.iload_n 2, 1) := by decide +kernel
theorem d_M_count_17 : decode (zb m_M_count) 17 = .ok (.iload_n 2, 1) := by decide +kernel
theorem d_M_count_18 : decode (zb m_M_count) 18 = .ok (.ifCond .ne 7, 3) := by decide +kernel
theorem d_M_count_21 : decode (zb m_M_count) 21 = .ok (.lconst 1, 1) := by decide +kernel
theorem d_M_count_22 : decode (zb m_M_count) 22 = .ok (.goto 4, 3) := by decide +kernel
theorem d_M_count_25 : decode (zb m_M_count) 25 = .ok (.lconst 0, 1) := by decide +kernel
theorem d_M_count_26 : decode (zb m_M_count) 26 = .ok (.lastore, 1) := by decide +kernel
theorem d_M_count_27 : decode (zb m_M_count) 27 = .ok (.iinc 2 1, 3) := by decide +kernel
theorem d_M_count_30 : decode (zb m_M_count) 30 = .ok (.goto (-23), 3) := by decide +kernel
theorem d_M_count_33 : decode (zb m_M_count) 33 = .ok (.iconst 0, 1) := by decide +kernel
theorem d_M_count_34 : decode (zb m_M_count) 34 = .ok (.istore_n 2, 1) := by decide +kernel
theorem d_M_count_35 : decode (zb m_M_count) 35 = .ok (.iload_n 2, 1) := by decide +kernel
theorem d_M_count_36 : decode (zb m_M_count) 36 = .ok (.iconst 5, 1) := by decide +kernel
theorem d_M_count_37 : decode (zb m_M_count) 37 = .ok (.if_icmp .gt 133, 3) := by decide +kernel
theorem d_M_count_40 : decode (zb m_M_count) 40 = .ok (.iload_n 2, 1) := by decide +kernel
theorem d_M_count_41 : decode (zb m_M_count) 41 = .ok (.istore_n 3, 1) := by decide +kernel
theorem d_M_count_42 : decode (zb m_M_count) 42 = .ok (.iload_n 3, 1) := by decide +kernel
theorem d_M_count_43 : decode (zb m_M_count) 43 = .ok (.iload_n 1, 1) := by decide +kernel
theorem d_M_count_44 : decode (zb m_M_count) 44 = .ok (.if_icmp .ge 120, 3) := by decide +kernel
theorem d_M_count_47 : decode (zb m_M_count) 47 = .ok (.aload_n 0, 1) := by decide +kernel
theorem d_M_count_48 : decode (zb m_M_count) 48 = .ok (.getfield 49, 3) := by decide +kernel
theorem d_M_count_51 : decode (zb m_M_count) 51 = .ok (.iload_n 3, 1) := by decide +kernel
theorem d_M_count_52 : decode (zb m_M_count) 52 = .ok (.laload, 1) := by decide +kernel
theorem d_M_count_53 : decode (zb m_M_count) 53 = .ok (.lconst 0, 1) := by decide +kernel
theorem d_M_count_54 : decode (zb m_M_count) 54 = .ok (.lcmp, 1) := by decide +kernel
theorem d_M_count_55 : decode (zb m_M_count) 55 = .ok (.ifCond .le 103, 3) := by decide +kernel
theorem d_M_count_58 : decode (zb m_M_count) 58 = .ok (.iconst 0, 1) := by decide +kernel
theorem d_M_count_59 : decode (zb m_M_count) 59 = .ok (.istore 4, 2) := by decide +kernel
theorem d_M_count_61 : decode (zb m_M_count) 61 = .ok (.iload 4, 2) := by decide +kernel
theorem d_M_count_63 : decode (zb m_M_count) 63 = .ok (.sipush 3844, 3) := by decide +kernel
theorem d_M_count_66 : decode (zb m_M_count) 66 = .ok (.if_icmp .ge 47, 3) := by decide +kernel
theorem d_M_count_69 : decode (zb m_M_count) 69 = .ok (.aload_n 0, 1) := by decide +kernel
theorem d_M_count_70 : decode (zb m_M_count) 70 = .ok (.iload_n 3, 1) := by decide +kernel
theorem d_M_count_71 : decode (zb m_M_count) 71 = .ok (.iload 4, 2) := by decide +kernel
theorem d_M_count_73 : decode (zb m_M_count) 73 = .ok (.bipush 62, 2) := by decide +kernel
theorem d_M_count_75 : decode (zb m_M_count) 75 = .ok (.idiv, 1) := by decide +kernel
theorem d_M_count_76 : decode (zb m_M_count) 76 = .ok (.iload 4, 2) := by decide +kernel
theorem d_M_count_78 : decode (zb m_M_count) 78 = .ok (.bipush 62, 2) := by decide +kernel
theorem d_M_count_80 : decode (zb m_M_count) 80 = .ok (.irem, 1) := by decide +kernel
theorem d_M_count_81 : decode (zb m_M_count) 81 = .ok (.invokevirtual 137, 3) := by decide +kernel
theorem d_M_count_84 : decode (zb m_M_count) 84 = .ok (.istore 5, 2) := by decide +kernel
theorem d_M_count_86 : decode (zb m_M_count) 86 = .ok (.iload 5, 2) := by decide +kernel
theorem d_M_count_88 : decode (zb m_M_count) 88 = .ok (.ifCond .lt 19, 3) := by decide +kernel
theorem d_M_count_91 : decode (zb m_M_count) 91 = .ok (.aload_n 0, 1) := by decide +kernel
theorem d_M_count_92 : decode (zb m_M_count) 92 = .ok (.getfield 49, 3) := by decide +kernel
theorem d_M_count_95 : decode (zb m_M_count) 95 = .ok (.iload 5, 2) := by decide +kernel
theorem d_M_count_97 : decode (zb m_M_count) 97 = .ok (.dup2, 1) := by decide +kernel
theorem d_M_count_98 : decode (zb m_M_count) 98 = .ok (.laload, 1) := by decide +kernel
theorem d_M_count_99 : decode (zb m_M_count) 99 = .ok (.aload_n 0, 1) := by decide +kernel
theorem d_M_count_100 : decode (zb m_M_count) 100 = .ok (.getfield 49, 3) := by decide +kernel
theorem d_M_count_103 : decode (zb m_M_count) 103 = .ok (.iload_n 3, 1) := by decide +kernel
theorem d_M_count_104 : decode (zb m_M_count) 104 = .ok (.laload, 1) := by decide +kernel
theorem d_M_count_105 : decode (zb m_M_count) 105 = .ok (.ladd, 1) := by decide +kernel
theorem d_M_count_106 : decode (zb m_M_count) 106 = .ok (.lastore, 1) := by decide +kernel
theorem d_M_count_107 : decode (zb m_M_count) 107 = .ok (.iinc 4 1, 3) := by decide +kernel
theorem d_M_count_110 : decode (zb m_M_count) 110 = .ok (.goto (-49), 3) := by decide +kernel
theorem d_M_count_113 : decode (zb m_M_count) 113 = .ok (.iconst 1, 1) := by decide +kernel
theorem d_M_count_114 : decode (zb m_M_count) 114 = .ok (.istore 4, 2) := by decide +kernel
theorem d_M_count_116 : decode (zb m_M_count) 116 = .ok (.iload 4, 2) := by decide +kernel
theorem d_M_count_118 : decode (zb m_M_count) 118 = .ok (.iconst 5, 1) := by decide +kernel
theorem d_M_count_119 : decode (zb m_M_count) 119 = .ok (.if_icmp .gt 39, 3) := by decide +kernel
theorem d_M_count_122 : decode (zb m_M_count) 122 = .ok (.aload_n 0, 1) := by decide +kernel
theorem d_M_count_123 : decode (zb m_M_count) 123 = .ok (.iload_n 3, 1) := by decide +kernel
theorem d_M_count_124 : decode (zb m_M_count) 124 = .ok (.iload 4, 2) := by decide +kernel
theorem d_M_count_126 : decode (zb m_M_count) 126 = .ok (.invokevirtual 141, 3) := by decide +kernel
theorem d_M_count_129 : decode (zb m_M_count) 129 = .ok (.istore 5, 2) := by decide +kernel
theorem d_M_count_131 : decode (zb m_M_count) 131 = .ok (.iload 5, 2) := by decide +kernel
theorem d_M_count_133 : decode (zb m_M_count) 133 = .ok (.ifCond .lt 19, 3) := by decide +kernel
theorem d_M_count_136 : decode (zb m_M_count) 136 = .ok (.aload_n 0, 1) := by decide +kernel
theorem d_M_count_137 : decode (zb m_M_count) 137 = .ok (.getfield 49, 3) := by decide +kernel
theorem d_M_count_140 : decode (zb m_M_count) 140 = .ok (.iload 5, 2) := by decide +kernel
theorem d_M_count_142 : decode (zb m_M_count) 142 = .ok (.dup2, 1) := by decide +kernel
theorem d_M_count_143 : decode (zb m_M_count) 143 = .ok (.laload, 1) := by decide +kernel
theorem d_M_count_144 : decode (zb m_M_count) 144 = .ok (.aload_n 0, 1) := by decide +kernel
theorem d_M_count_145 : decode (zb m_M_count) 145 = .ok (.getfield 49, 3) := by decide +kernel
theorem d_M_count_148 : decode (zb m_M_count) 148 = .ok (.iload_n 3, 1) := by decide +kernel
theorem d_M_count_149 : decode (zb m_M_count) 149 = .ok (.laload, 1) := by decide +kernel
theorem d_M_count_150 : decode (zb m_M_count) 150 = .ok (.ladd, 1) := by decide +kernel
theorem d_M_count_151 : decode (zb m_M_count) 151 = .ok (.lastore, 1) := by decide +kernel
theorem d_M_count_152 : decode (zb m_M_count) 152 = .ok (.iinc 4 1, 3) := by decide +kernel
theorem d_M_count_155 : decode (zb m_M_count) 155 = .ok (.goto (-39), 3) := by decide +kernel
theorem d_M_count_158 : decode (zb m_M_count) 158 = .ok (.iinc 3 6, 3) := by decide +kernel
theorem d_M_count_161 : decode (zb m_M_count) 161 = .ok (.goto (-119), 3) := by decide +kernel
theorem d_M_count_164 : decode (zb m_M_count) 164 = .ok (.iinc 2 1, 3) := by decide +kernel
theorem d_M_count_167 : decode (zb m_M_count) 167 = .ok (.goto (-132), 3) := by decide +kernel
theorem d_M_count_170 : decode (zb m_M_count) 170 = .ok (.aload_n 0, 1) := by decide +kernel
theorem d_M_count_171 : decode (zb m_M_count) 171 = .ok (.getfield 49, 3) := by decide +kernel
theorem d_M_count_174 : decode (zb m_M_count) 174 = .ok (.aload_n 0, 1) := by decide +kernel
theorem d_M_count_175 : decode (zb m_M_count) 175 = .ok (.invokevirtual 144, 3) := by decide +kernel
theorem d_M_count_178 : decode (zb m_M_count) 178 = .ok (.laload, 1) := by decide +kernel
theorem d_M_count_179 : decode (zb m_M_count) 179 = .ok (.lreturn, 1) := by decide +kernel
theorem d_M_costOfCut_0 : decode (zb m_M_costOfCut) 0 = .ok (.iconst 1, 1) := by decide +kernel
theorem d_M_costOfCut_1 : decode (zb m_M_costOfCut) 1 = .ok (.aload_n 0, 1) := by decide +kernel
theorem d_M_costOfCut_2 : decode (zb m_M_costOfCut) 2 = .ok (.getfield 31, 3) := by decide +kernel
theorem d_M_costOfCut_5 : decode (zb m_M_costOfCut) 5 = .ok (.iload_n 1, 1) := by decide +kernel
theorem d_M_costOfCut_6 : decode (zb m_M_costOfCut) 6 = .ok (.iaload, 1) := by decide +kernel
theorem d_M_costOfCut_7 : decode (zb m_M_costOfCut) 7 = .ok (.invokestatic 147, 3) := by decide +kernel
theorem d_M_costOfCut_10 : decode (zb m_M_costOfCut) 10 = .ok (.iadd, 1) := by decide +kernel
theorem d_M_costOfCut_11 : decode (zb m_M_costOfCut) 11 = .ok (.aload_n 0, 1) := by decide +kernel
theorem d_M_costOfCut_12 : decode (zb m_M_costOfCut) 12 = .ok (.getfield 31, 3) := by decide +kernel
theorem d_M_costOfCut_15 : decode (zb m_M_costOfCut) 15 = .ok (.iload_n 2, 1) := by decide +kernel
theorem d_M_costOfCut_16 : decode (zb m_M_costOfCut) 16 = .ok (.iaload, 1) := by decide +kernel
theorem d_M_costOfCut_17 : decode (zb m_M_costOfCut) 17 = .ok (.invokestatic 147, 3) := by decide +kernel
theorem d_M_costOfCut_20 : decode (zb m_M_costOfCut) 20 = .ok (.iadd, 1) := by decide +kernel
theorem d_M_costOfCut_21 : decode (zb m_M_costOfCut) 21 = .ok (.ireturn, 1) := by decide +kernel
theorem d_M_costOfPiece_0 : decode (zb m_M_costOfPiece) 0 = .ok (.aload_n 0, 1) := by decide +kernel
theorem d_M_costOfPiece_1 : decode (zb m_M_costOfPiece) 1 = .ok (.getfield 56, 3) := by decide +kernel
theorem d_M_costOfPiece_4 : decode (zb m_M_costOfPiece) 4 = .ok (.iload_n 1, 1) := by decide +kernel
theorem d_M_costOfPiece_5 : decode (zb m_M_costOfPiece) 5 = .ok (.iaload, 1) := by decide +kernel
theorem d_M_costOfPiece_6 : decode (zb m_M_costOfPiece) 6 = .ok (.ifCond .ne 27, 3) := by decide +kernel
theorem d_M_costOfPiece_9 : decode (zb m_M_costOfPiece) 9 = .ok (.iconst 1, 1) := by decide +kernel
theorem d_M_costOfPiece_10 : decode (zb m_M_costOfPiece) 10 = .ok (.aload_n 0, 1) := by decide +kernel
theorem d_M_costOfPiece_11 : decode (zb m_M_costOfPiece) 11 = .ok (.getfield 59, 3) := by decide +kernel
theorem d_M_costOfPiece_14 : decode (zb m_M_costOfPiece) 14 = .ok (.iload_n 1, 1) := by decide +kernel
theorem d_M_costOfPiece_15 : decode (zb m_M_costOfPiece) 15 = .ok (.iaload, 1) := by decide +kernel
theorem d_M_costOfPiece_16 : decode (zb m_M_costOfPiece) 16 = .ok (.invokestatic 147, 3) := by decide +kernel
theorem d_M_costOfPiece_19 : decode (zb m_M_costOfPiece) 19 = .ok (.iadd, 1) := by decide +kernel
theorem d_M_costOfPiece_20 : decode (zb m_M_costOfPiece) 20 = .ok (.aload_n 0, 1) := by decide +kernel
theorem d_M_costOfPiece_21 : decode (zb m_M_costOfPiece) 21 = .ok (.getfield 62, 3) := by decide +kernel
theorem d_M_costOfPiece_24 : decode (zb m_M_costOfPiece) 24 = .ok (.iload_n 1, 1) := by decide +kernel
theorem d_M_costOfPiece_25 : decode (zb m_M_costOfPiece) 25 = .ok (.iaload, 1) := by decide +kernel
theorem d_M_costOfPiece_26 : decode (zb m_M_costOfPiece) 26 = .ok (.invokestatic 147, 3) := by decide +kernel
theorem d_M_costOfPiece_29 : decode (zb m_M_costOfPiece) 29 = .ok (.iadd, 1) := by decide +kernel
theorem d_M_costOfPiece_30 : decode (zb m_M_costOfPiece) 30 = .ok (.goto 13, 3) := by decide +kernel
theorem d_M_costOfPiece_33 : decode (zb m_M_costOfPiece) 33 = .ok (.iconst 2, 1) := by decide +kernel
theorem d_M_costOfPiece_34 : decode (zb m_M_costOfPiece) 34 = .ok (.aload_n 0, 1) := by decide +kernel
theorem d_M_costOfPiece_35 : decode (zb m_M_costOfPiece) 35 = .ok (.getfield 59, 3) := by decide +kernel
theorem d_M_costOfPiece_38 : decode (zb m_M_costOfPiece) 38 = .ok (.iload_n 1, 1) := by decide +kernel
theorem d_M_costOfPiece_39 : decode (zb m_M_costOfPiece) 39 = .ok (.iaload, 1) := by decide +kernel
theorem d_M_costOfPiece_40 : decode (zb m_M_costOfPiece) 40 = .ok (.imul, 1) := by decide +kernel
theorem d_M_costOfPiece_41 : decode (zb m_M_costOfPiece) 41 = .ok (.iconst 2, 1) := by decide +kernel
theorem d_M_costOfPiece_42 : decode (zb m_M_costOfPiece) 42 = .ok (.iadd, 1) := by decide +kernel
theorem d_M_costOfPiece_43 : decode (zb m_M_costOfPiece) 43 = .ok (.ireturn, 1) := by decide +kernel
theorem d_M_layBest_0 : decode (zb m_M_layBest) 0 = .ok (.aload_n 0, 1) := by decide +kernel
theorem d_M_layBest_1 : decode (zb m_M_layBest) 1 = .ok (.invokevirtual 150, 3) := by decide +kernel
theorem d_M_layBest_4 : decode (zb m_M_layBest) 4 = .ok (.aload_n 0, 1) := by decide +kernel
theorem d_M_layBest_5 : decode (zb m_M_layBest) 5 = .ok (.invokevirtual 153, 3) := by decide +kernel
theorem d_M_layBest_8 : decode (zb m_M_layBest) 8 = .ok (.lconst 0, 1) := by decide +kernel
theorem d_M_layBest_9 : decode (zb m_M_layBest) 9 = .ok (.lcmp, 1) := by decide +kernel
theorem d_M_layBest_10 : decode (zb m_M_layBest) 10 = .ok (.ifCond .ne 5, 3) := by decide +kernel
theorem d_M_layBest_13 : decode (zb m_M_layBest) 13 = .ok (.iconst 0, 1) := by decide +kernel
theorem d_M_layBest_14 : decode (zb m_M_layBest) 14 = .ok (.ireturn, 1) := by decide +kernel
theorem d_M_layBest_15 : decode (zb m_M_layBest) 15 = .ok (.aload_n 0, 1) := by decide +kernel
theorem d_M_layBest_16 : decode (zb m_M_layBest) 16 = .ok (.invokevirtual 134, 3) := by decide +kernel
theorem d_M_layBest_19 : decode (zb m_M_layBest) 19 = .ok (.istore_n 1, 1) := by decide +kernel
theorem d_M_layBest_20 : decode (zb m_M_layBest) 20 = .ok (.aload_n 0, 1) := by decide +kernel
theorem d_M_layBest_21 : decode (zb m_M_layBest) 21 = .ok (.invokevirtual 144, 3) := by decide +kernel
theorem d_M_layBest_24 : decode (zb m_M_layBest) 24 = .ok (.istore_n 2, 1) := by decide +kernel
theorem d_M_layBest_25 : decode (zb m_M_layBest) 25 = .ok (.iconst 5, 1) := by decide +kernel
theorem d_M_layBest_26 : decode (zb m_M_layBest) 26 = .ok (.istore_n 3, 1) := by decide +kernel
theorem d_M_layBest_27 : decode (zb m_M_layBest) 27 = .ok (.iload_n 3, 1) := by decide +kernel
theorem d_M_layBest_28 : decode (zb m_M_layBest) 28 = .ok (.ifCond .lt 243, 3) := by decide +kernel
theorem d_M_layBest_31 : decode (zb m_M_layBest) 31 = .ok (.iload_n 3, 1) := by decide +kernel
theorem d_M_layBest_32 : decode (zb m_M_layBest) 32 = .ok (.istore 4, 2) := by decide +kernel
theorem d_M_layBest_34 : decode (zb m_M_layBest) 34 = .ok (.iload 4, 2) := by decide +kernel
theorem d_M_layBest_36 : decode (zb m_M_layBest) 36 = .ok (.iload_n 1, 1) := by decide +kernel
theorem d_M_layBest_37 : decode (zb m_M_layBest) 37 = .ok (.if_icmp .ge 228, 3) := by decide +kernel
theorem d_M_layBest_40 : decode (zb m_M_layBest) 40 = .ok (.aload_n 0, 1) := by decide +kernel
theorem d_M_layBest_41 : decode (zb m_M_layBest) 41 = .ok (.getfield 53, 3) := by decide +kernel
theorem d_M_layBest_44 : decode (zb m_M_layBest) 44 = .ok (.iload 4, 2) := by decide +kernel
theorem d_M_layBest_46 : decode (zb m_M_layBest) 46 = .ok (.iload 4, 2) := by decide +kernel
theorem d_M_layBest_48 : decode (zb m_M_layBest) 48 = .ok (.iload_n 2, 1) := by decide +kernel
theorem d_M_layBest_49 : decode (zb m_M_layBest) 49 = .ok (.if_icmp .ne 7, 3) := by decide +kernel
theorem d_M_layBest_52 : decode (zb m_M_layBest) 52 = .ok (.iconst 0, 1) := by decide +kernel
theorem d_M_layBest_53 : decode (zb m_M_layBest) 53 = .ok (.goto 5, 3) := by decide +kernel
theorem d_M_layBest_56 : decode (zb m_M_layBest) 56 = .ok (.ldc 157, 2) := by decide +kernel
theorem d_M_layBest_58 : decode (zb m_M_layBest) 58 = .ok (.iastore, 1) := by decide +kernel
theorem d_M_layBest_59 : decode (zb m_M_layBest) 59 = .ok (.iconst 0, 1) := by decide +kernel
theorem d_M_layBest_60 : decode (zb m_M_layBest) 60 = .ok (.istore 5, 2) := by decide +kernel
theorem d_M_layBest_62 : decode (zb m_M_layBest) 62 = .ok (.iload 5, 2) := by decide +kernel
theorem d_M_layBest_64 : decode (zb m_M_layBest) 64 = .ok (.sipush 3844, 3) := by decide +kernel
theorem d_M_layBest_67 : decode (zb m_M_layBest) 67 = .ok (.if_icmp .ge 105, 3) := by decide +kernel
theorem d_M_layBest_70 : decode (zb m_M_layBest) 70 = .ok (.aload_n 0, 1) := by decide +kernel
theorem d_M_layBest_71 : decode (zb m_M_layBest) 71 = .ok (.getfield 49, 3) := by decide +kernel
theorem d_M_layBest_74 : decode (zb m_M_layBest) 74 = .ok (.iload 4, 2) := by decide +kernel
theorem d_M_layBest_76 : decode (zb m_M_layBest) 76 = .ok (.laload, 1) := by decide +kernel
theorem d_M_layBest_77 : decode (zb m_M_layBest) 77 = .ok (.lconst 0, 1) := by decide +kernel
theorem d_M_layBest_78 : decode (zb m_M_layBest) 78 = .ok (.lcmp, 1) := by decide +kernel
theorem d_M_layBest_79 : decode (zb m_M_layBest) 79 = .ok (.ifCond .le 93, 3) := by decide +kernel
theorem d_M_layBest_82 : decode (zb m_M_layBest) 82 = .ok (.aload_n 0, 1) := by decide +kernel
theorem d_M_layBest_83 : decode (zb m_M_layBest) 83 = .ok (.iload 4, 2) := by decide +kernel
theorem d_M_layBest_85 : decode (zb m_M_layBest) 85 = .ok (.iload 5, 2) := by decide +kernel
theorem d_M_layBest_87 : decode (zb m_M_layBest) 87 = .ok (.bipush 62, 2) := by decide +kernel
theorem d_M_layBest_89 : decode (zb m_M_layBest) 89 = .ok (.idiv, 1) := by decide +kernel
theorem d_M_layBest_90 : decode (zb m_M_layBest) 90 = .ok (.iload 5, 2) := by decide +kernel
theorem d_M_layBest_92 : decode (zb m_M_layBest) 92 = .ok (.bipush 62, 2) := by decide +kernel
theorem d_M_layBest_94 : decode (zb m_M_layBest) 94 = .ok (.irem, 1) := by decide +kernel
theorem d_M_layBest_95 : decode (zb m_M_layBest) 95 = .ok (.invokevirtual 137, 3) := by decide +kernel
theorem d_M_layBest_98 : decode (zb m_M_layBest) 98 = .ok (.istore 6, 2) := by decide +kernel
theorem d_M_layBest_100 : decode (zb m_M_layBest) 100 = .ok (.iload 6, 2) := by decide +kernel
theorem d_M_layBest_102 : decode (zb m_M_layBest) 102 = .ok (.ifCond .lt 64, 3) := by decide +kernel
theorem d_M_layBest_105 : decode (zb m_M_layBest) 105 = .ok (.aload_n 0, 1) := by decide +kernel
theorem d_M_layBest_106 : decode (zb m_M_layBest) 106 = .ok (.getfield 53, 3) := by decide +kernel
theorem d_M_layBest_109 : decode (zb m_M_layBest) 109 = .ok (.iload 6, 2) := by decide +kernel
theorem d_M_layBest_111 : decode (zb m_M_layBest) 111 = .ok (.iaload, 1) := by decide +kernel
theorem d_M_layBest_112 : decode (zb m_M_layBest) 112 = .ok (.aload_n 0, 1) := by decide +kernel
theorem d_M_layBest_113 : decode (zb m_M_layBest) 113 = .ok (.iload 5, 2) := by decide +kernel
theorem d_M_layBest_115 : decode (zb m_M_layBest) 115 = .ok (.bipush 62, 2) := by decide +kernel
theorem d_M_layBest_117 : decode (zb m_M_layBest) 117 = .ok (.idiv, 1) := by decide +kernel
theorem d_M_layBest_118 : decode (zb m_M_layBest) 118 = .ok (.iload 5, 2) := by decide +kernel
theorem d_M_layBest_120 : decode (zb m_M_layBest) 120 = .ok (.bipush 62, 2) := by decide +kernel
theorem d_M_layBest_122 : decode (zb m_M_layBest) 122 = .ok (.irem, 1) := by decide +kernel
theorem d_M_layBest_123 : decode (zb m_M_layBest) 123 = .ok (.invokevirtual 158, 3) := by decide +kernel
theorem d_M_layBest_126 : decode (zb m_M_layBest) 126 = .ok (.iadd, 1) := by decide +kernel
theorem d_M_layBest_127 : decode (zb m_M_layBest) 127 = .ok (.aload_n 0, 1) := by decide +kernel
theorem d_M_layBest_128 : decode (zb m_M_layBest) 128 = .ok (.getfield 53, 3) := by decide +kernel
theorem d_M_layBest_131 : decode (zb m_M_layBest) 131 = .ok (.iload 4, 2) := by decide +kernel
theorem d_M_layBest_133 : decode (zb m_M_layBest) 133 = .ok (.iaload, 1) := by decide +kernel
theorem d_M_layBest_134 : decode (zb m_M_layBest) 134 = .ok (.if_icmp .ge 32, 3) := by decide +kernel
theorem d_M_layBest_137 : decode (zb m_M_layBest) 137 = .ok (.aload_n 0, 1) := by decide +kernel
theorem d_M_layBest_138 : decode (zb m_M_layBest) 138 = .ok (.getfield 53, 3) := by decide +kernel
theorem d_M_layBest_141 : decode (zb m_M_layBest) 141 = .ok (.iload 4, 2) := by decide +kernel
theorem d_M_layBest_143 : decode (zb m_M_layBest) 143 = .ok (.aload_n 0, 1) := by decide +kernel
theorem d_M_layBest_144 : decode (zb m_M_layBest) 144 = .ok (.getfield 53, 3) := by decide +kernel
theorem d_M_layBest_147 : decode (zb m_M_layBest) 147 = .ok (.iload 6, 2) := by decide +kernel
theorem d_M_layBest_149 : decode (zb m_M_layBest) 149 = .ok (.iaload, 1) := by decide +kernel
theorem d_M_layBest_150 : decode (zb m_M_layBest) 150 = .ok (.aload_n 0, 1) := by decide +kernel
theorem d_M_layBest_151 : decode (zb m_M_layBest) 151 = .ok (.iload 5, 2) := by decide +kernel
theorem d_M_layBest_153 : decode (zb m_M_layBest) 153 = .ok (.bipush 62, 2) := by decide +kernel
theorem d_M_layBest_155 : decode (zb m_M_layBest) 155 = .ok (.idiv, 1) := by decide +kernel
theorem d_M_layBest_156 : decode (zb m_M_layBest) 156 = .ok (.iload 5, 2) := by decide +kernel
theorem d_M_layBest_158 : decode (zb m_M_layBest) 158 = .ok (.bipush 62, 2) := by decide +kernel
theorem d_M_layBest_160 : decode (zb m_M_layBest) 160 = .ok (.irem, 1) := by decide +kernel
theorem d_M_layBest_161 : decode (zb m_M_layBest) 161 = .ok (.invokevirtual 158, 3) := by decide +kernel
theorem d_M_layBest_164 : decode (zb m_M_layBest) 164 = .ok (.iadd, 1) := by decide +kernel
theorem d_M_layBest_165 : decode (zb m_M_layBest) 165 = .ok (.iastore, 1) := by decide +kernel
theorem d_M_layBest_166 : decode (zb m_M_layBest) 166 = .ok (.iinc 5 1, 3) := by decide +kernel
theorem d_M_layBest_169 : decode (zb m_M_layBest) 169 = .ok (.goto (-107), 3) := by decide +kernel
theorem d_M_layBest_172 : decode (zb m_M_layBest) 172 = .ok (.iconst 1, 1) := by decide +kernel
theorem d_M_layBest_173 : decode (zb m_M_layBest) 173 = .ok (.istore 5, 2) := by decide +kernel
theorem d_M_layBest_175 : decode (zb m_M_layBest) 175 = .ok (.iload 5, 2) := by decide +kernel
theorem d_M_layBest_177 : decode (zb m_M_layBest) 177 = .ok (.iconst 5, 1) := by decide +kernel
theorem d_M_layBest_178 : decode (zb m_M_layBest) 178 = .ok (.if_icmp .gt 81, 3) := by decide +kernel
theorem d_M_layBest_181 : decode (zb m_M_layBest) 181 = .ok (.aload_n 0, 1) := by decide +kernel
theorem d_M_layBest_182 : decode (zb m_M_layBest) 182 = .ok (.getfield 49, 3) := by decide +kernel
theorem d_M_layBest_185 : decode (zb m_M_layBest) 185 = .ok (.iload 4, 2) := by decide +kernel
theorem d_M_layBest_187 : decode (zb m_M_layBest) 187 = .ok (.laload, 1) := by decide +kernel
theorem d_M_layBest_188 : decode (zb m_M_layBest) 188 = .ok (.lconst 0, 1) := by decide +kernel
theorem d_M_layBest_189 : decode (zb m_M_layBest) 189 = .ok (.lcmp, 1) := by decide +kernel
theorem d_M_layBest_190 : decode (zb m_M_layBest) 190 = .ok (.ifCond .le 69, 3) := by decide +kernel
theorem d_M_layBest_193 : decode (zb m_M_layBest) 193 = .ok (.aload_n 0, 1) := by decide +kernel
theorem d_M_layBest_194 : decode (zb m_M_layBest) 194 = .ok (.iload 4, 2) := by decide +kernel
theorem d_M_layBest_196 : decode (zb m_M_layBest) 196 = .ok (.iload 5, 2) := by decide +kernel
theorem d_M_layBest_198 : decode (zb m_M_layBest) 198 = .ok (.invokevirtual 141, 3) := by decide +kernel
theorem d_M_layBest_201 : decode (zb m_M_layBest) 201 = .ok (.istore 6, 2) := by decide +kernel
theorem d_M_layBest_203 : decode (zb m_M_layBest) 203 = .ok (.iload 6, 2) := by decide +kernel
theorem d_M_layBest_205 : decode (zb m_M_layBest) 205 = .ok (.ifCond .lt 48, 3) := by decide +kernel
theorem d_M_layBest_208 : decode (zb m_M_layBest) 208 = .ok (.aload_n 0, 1) := by decide +kernel
theorem d_M_layBest_209 : decode (zb m_M_layBest) 209 = .ok (.getfield 53, 3) := by decide +kernel
theorem d_M_layBest_212 : decode (zb m_M_layBest) 212 = .ok (.iload 6, 2) := by decide +kernel
theorem d_M_layBest_214 : decode (zb m_M_layBest) 214 = .ok (.iaload, 1) := by decide +kernel
theorem d_M_layBest_215 : decode (zb m_M_layBest) 215 = .ok (.iconst 2, 1) := by decide +kernel
theorem d_M_layBest_216 : decode (zb m_M_layBest) 216 = .ok (.iload 5, 2) := by decide +kernel
theorem d_M_layBest_218 : decode (zb m_M_layBest) 218 = .ok (.imul, 1) := by decide +kernel
theorem d_M_layBest_219 : decode (zb m_M_layBest) 219 = .ok (.iadd, 1) := by decide +kernel
theorem d_M_layBest_220 : decode (zb m_M_layBest) 220 = .ok (.iconst 2, 1) := by decide +kernel
theorem d_M_layBest_221 : decode (zb m_M_layBest) 221 = .ok (.iadd, 1) := by decide +kernel
theorem d_M_layBest_222 : decode (zb m_M_layBest) 222 = .ok (.aload_n 0, 1) := by decide +kernel
theorem d_M_layBest_223 : decode (zb m_M_layBest) 223 = .ok (.getfield 53, 3) := by decide +kernel
theorem d_M_layBest_226 : decode (zb m_M_layBest) 226 = .ok (.iload 4, 2) := by decide +kernel
theorem d_M_layBest_228 : decode (zb m_M_layBest) 228 = .ok (.iaload, 1) := by decide +kernel
theorem d_M_layBest_229 : decode (zb m_M_layBest) 229 = .ok (.if_icmp .ge 24, 3) := by decide +kernel
theorem d_M_layBest_232 : decode (zb m_M_layBest) 232 = .ok (.aload_n 0, 1) := by decide +kernel
theorem d_M_layBest_233 : decode (zb m_M_layBest) 233 = .ok (.getfield 53, 3) := by decide +kernel
theorem d_M_layBest_236 : decode (zb m_M_layBest) 236 = .ok (.iload 4, 2) := by decide +kernel
theorem d_M_layBest_238 : decode (zb m_M_layBest) 238 = .ok (.aload_n 0, 1) := by decide +kernel
theorem d_M_layBest_239 : decode (zb m_M_layBest) 239 = .ok (.getfield 53, 3) := by decide +kernel
theorem d_M_layBest_242 : decode (zb m_M_layBest) 242 = .ok (.iload 6, 2) := by decide +kernel
theorem d_M_layBest_244 : decode (zb m_M_layBest) 244 = .ok (.iaload, 1) := by decide +kernel
theorem d_M_layBest_245 : decode (zb m_M_layBest) 245 = .ok (.iconst 2, 1) := by decide +kernel
theorem d_M_layBest_246 : decode (zb m_M_layBest) 246 = .ok (.iload 5, 2) := by decide +kernel
theorem d_M_layBest_248 : decode (zb m_M_layBest) 248 = .ok (.imul, 1) := by decide +kernel
theorem d_M_layBest_249 : decode (zb m_M_layBest) 249 = .ok (.iadd, 1) := by decide +kernel
theorem d_M_layBest_250 : decode (zb m_M_layBest) 250 = .ok (.iconst 2, 1) := by decide +kernel
theorem d_M_layBest_251 : decode (zb m_M_layBest) 251 = .ok (.iadd, 1) := by decide +kernel
theorem d_M_layBest_252 : decode (zb m_M_layBest) 252 = .ok (.iastore, 1) := by decide +kernel
theorem d_M_layBest_253 : decode (zb m_M_layBest) 253 = .ok (.iinc 5 1, 3) := by decide +kernel
theorem d_M_layBest_256 : decode (zb m_M_layBest) 256 = .ok (.goto (-81), 3) := by decide +kernel
theorem d_M_layBest_259 : decode (zb m_M_layBest) 259 = .ok (.iinc 4 6, 3) := by decide +kernel
theorem d_M_layBest_262 : decode (zb m_M_layBest) 262 = .ok (.goto (-228), 3) := by decide +kernel
theorem d_M_layBest_265 : decode (zb m_M_layBest) 265 = .ok (.iinc 3 (-1), 3) := by decide +kernel
theorem d_M_layBest_268 : decode (zb m_M_layBest) 268 = .ok (.goto (-241), 3) := by decide +kernel
theorem d_M_layBest_271 : decode (zb m_M_layBest) 271 = .ok (.aload_n 0, 1) := by decide +kernel
theorem d_M_layBest_272 : decode (zb m_M_layBest) 272 = .ok (.aload_n 0, 1) := by decide +kernel
theorem d_M_layBest_273 : decode (zb m_M_layBest) 273 = .ok (.getfield 53, 3) := by decide +kernel
theorem d_M_layBest_276 : decode (zb m_M_layBest) 276 = .ok (.iconst 0, 1) := by decide +kernel
theorem d_M_layBest_277 : decode (zb m_M_layBest) 277 = .ok (.iaload, 1) := by decide +kernel
theorem d_M_layBest_278 : decode (zb m_M_layBest) 278 = .ok (.putfield 161, 3) := by decide +kernel
theorem d_M_layBest_281 : decode (zb m_M_layBest) 281 = .ok (.aload_n 0, 1) := by decide +kernel
theorem d_M_layBest_282 : decode (zb m_M_layBest) 282 = .ok (.iconst 0, 1) := by decide +kernel
theorem d_M_layBest_283 : decode (zb m_M_layBest) 283 = .ok (.putfield 164, 3) := by decide +kernel
theorem d_M_layBest_286 : decode (zb m_M_layBest) 286 = .ok (.iconst 0, 1) := by decide +kernel
theorem d_M_layBest_287 : decode (zb m_M_layBest) 287 = .ok (.istore_n 3, 1) := by decide +kernel
theorem d_M_layBest_288 : decode (zb m_M_layBest) 288 = .ok (.iload_n 3, 1) := by decide +kernel
theorem d_M_layBest_289 : decode (zb m_M_layBest) 289 = .ok (.iload_n 2, 1) := by decide +kernel
theorem d_M_layBest_290 : decode (zb m_M_layBest) 290 = .ok (.if_icmp .eq 12, 3) := by decide +kernel
theorem d_M_layBest_293 : decode (zb m_M_layBest) 293 = .ok (.aload_n 0, 1) := by decide +kernel
theorem d_M_layBest_294 : decode (zb m_M_layBest) 294 = .ok (.iload_n 3, 1) := by decide +kernel
theorem d_M_layBest_295 : decode (zb m_M_layBest) 295 = .ok (.invokevirtual 167, 3) := by decide +kernel
theorem d_M_layBest_298 : decode (zb m_M_layBest) 298 = .ok (.istore_n 3, 1) := by decide +kernel
theorem d_M_layBest_299 : decode (zb m_M_layBest) 299 = .ok (.goto (-11), 3) := by decide +kernel
theorem d_M_layBest_302 : decode (zb m_M_layBest) 302 = .ok (.iconst 1, 1) := by decide +kernel
theorem d_M_layBest_303 : decode (zb m_M_layBest) 303 = .ok (.ireturn, 1) := by decide +kernel
theorem d_M_goOn_0 : decode (zb m_M_goOn) 0 = .ok (.iconst 0, 1) := by decide +kernel
theorem d_M_goOn_1 : decode (zb m_M_goOn) 1 = .ok (.istore_n 2, 1) := by decide +kernel
theorem d_M_goOn_2 : decode (zb m_M_goOn) 2 = .ok (.iload_n 2, 1) := by decide +kernel
theorem d_M_goOn_3 : decode (zb m_M_goOn) 3 = .ok (.sipush 3844, 3) := by decide +kernel
theorem d_M_goOn_6 : decode (zb m_M_goOn) 6 = .ok (.if_icmp .ge 113, 3) := by decide +kernel
theorem d_M_goOn_9 : decode (zb m_M_goOn) 9 = .ok (.aload_n 0, 1) := by decide +kernel
theorem d_M_goOn_10 : decode (zb m_M_goOn) 10 = .ok (.iload_n 1, 1) := by decide +kernel
theorem d_M_goOn_11 : decode (zb m_M_goOn) 11 = .ok (.iload_n 2, 1) := by decide +kernel
theorem d_M_goOn_12 : decode (zb m_M_goOn) 12 = .ok (.bipush 62, 2) := by decide +kernel
theorem d_M_goOn_14 : decode (zb m_M_goOn) 14 = .ok (.idiv, 1) := by decide +kernel
theorem d_M_goOn_15 : decode (zb m_M_goOn) 15 = .ok (.iload_n 2, 1) := by decide +kernel
theorem d_M_goOn_16 : decode (zb m_M_goOn) 16 = .ok (.bipush 62, 2) := by decide +kernel
theorem d_M_goOn_18 : decode (zb m_M_goOn) 18 = .ok (.irem, 1) := by decide +kernel
theorem d_M_goOn_19 : decode (zb m_M_goOn) 19 = .ok (.invokevirtual 137, 3) := by decide +kernel
theorem d_M_goOn_22 : decode (zb m_M_goOn) 22 = .ok (.istore_n 3, 1) := by decide +kernel
theorem d_M_goOn_23 : decode (zb m_M_goOn) 23 = .ok (.iload_n 3, 1) := by decide +kernel
theorem d_M_goOn_24 : decode (zb m_M_goOn) 24 = .ok (.ifCond .lt 89, 3) := by decide +kernel
theorem d_M_goOn_27 : decode (zb m_M_goOn) 27 = .ok (.aload_n 0, 1) := by decide +kernel
theorem d_M_goOn_28 : decode (zb m_M_goOn) 28 = .ok (.getfield 53, 3) := by decide +kernel
theorem d_M_goOn_31 : decode (zb m_M_goOn) 31 = .ok (.iload_n 3, 1) := by decide +kernel
theorem d_M_goOn_32 : decode (zb m_M_goOn) 32 = .ok (.iaload, 1) := by decide +kernel
theorem d_M_goOn_33 : decode (zb m_M_goOn) 33 = .ok (.aload_n 0, 1) := by decide +kernel
theorem d_M_goOn_34 : decode (zb m_M_goOn) 34 = .ok (.iload_n 2, 1) := by decide +kernel
theorem d_M_goOn_35 : decode (zb m_M_goOn) 35 = .ok (.bipush 62, 2) := by decide +kernel
theorem d_M_goOn_37 : decode (zb m_M_goOn) 37 = .ok (.idiv, 1) := by decide +kernel
theorem d_M_goOn_38 : decode (zb m_M_goOn) 38 = .ok (.iload_n 2, 1) := by decide +kernel
theorem d_M_goOn_39 : decode (zb m_M_goOn) 39 = .ok (.bipush 62, 2) := by decide +kernel
theorem d_M_goOn_41 : decode (zb m_M_goOn) 41 = .ok (.irem, 1) := by decide +kernel
theorem d_M_goOn_42 : decode (zb m_M_goOn) 42 = .ok (.invokevirtual 158, 3) := by decide +kernel
theorem d_M_goOn_45 : decode (zb m_M_goOn) 45 = .ok (.iadd, 1) := by decide +kernel
theorem d_M_goOn_46 : decode (zb m_M_goOn) 46 = .ok (.aload_n 0, 1) := by decide +kernel
theorem d_M_goOn_47 : decode (zb m_M_goOn) 47 = .ok (.getfield 53, 3) := by decide +kernel
theorem d_M_goOn_50 : decode (zb m_M_goOn) 50 = .ok (.iload_n 1, 1) := by decide +kernel
theorem d_M_goOn_51 : decode (zb m_M_goOn) 51 = .ok (.iaload, 1) := by decide +kernel
theorem d_M_goOn_52 : decode (zb m_M_goOn) 52 = .ok (.if_icmp .ne 61, 3) := by decide +kernel
theorem d_M_goOn_55 : decode (zb m_M_goOn) 55 = .ok (.aload_n 0, 1) := by decide +kernel
theorem d_M_goOn_56 : decode (zb m_M_goOn) 56 = .ok (.getfield 56, 3) := by decide +kernel
theorem d_M_goOn_59 : decode (zb m_M_goOn) 59 = .ok (.aload_n 0, 1) := by decide +kernel
theorem d_M_goOn_60 : decode (zb m_M_goOn) 60 = .ok (.getfield 164, 3) := by decide +kernel
theorem d_M_goOn_63 : decode (zb m_M_goOn) 63 = .ok (.iconst 0, 1) := by decide +kernel
theorem d_M_goOn_64 : decode (zb m_M_goOn) 64 = .ok (.iastore, 1) := by decide +kernel
theorem d_M_goOn_65 : decode (zb m_M_goOn) 65 = .ok (.aload_n 0, 1) := by decide +kernel
theorem d_M_goOn_66 : decode (zb m_M_goOn) 66 = .ok (.getfield 59, 3) := by decide +kernel
theorem d_M_goOn_69 : decode (zb m_M_goOn) 69 = .ok (.aload_n 0, 1) := by decide +kernel
theorem d_M_goOn_70 : decode (zb m_M_goOn) 70 = .ok (.getfield 164, 3) := by decide +kernel
theorem d_M_goOn_73 : decode (zb m_M_goOn) 73 = .ok (.aload_n 0, 1) := by decide +kernel
theorem d_M_goOn_74 : decode (zb m_M_goOn) 74 = .ok (.getfield 31, 3) := by decide +kernel
theorem d_M_goOn_77 : decode (zb m_M_goOn) 77 = .ok (.iload_n 2, 1) := by decide +kernel
theorem d_M_goOn_78 : decode (zb m_M_goOn) 78 = .ok (.bipush 62, 2) := by decide +kernel
theorem d_M_goOn_80 : decode (zb m_M_goOn) 80 = .ok (.idiv, 1) := by decide +kernel
theorem d_M_goOn_81 : decode (zb m_M_goOn) 81 = .ok (.iaload, 1) := by decide +kernel
theorem d_M_goOn_82 : decode (zb m_M_goOn) 82 = .ok (.iastore, 1) := by decide +kernel
theorem d_M_goOn_83 : decode (zb m_M_goOn) 83 = .ok (.aload_n 0, 1) := by decide +kernel
theorem d_M_goOn_84 : decode (zb m_M_goOn) 84 = .ok (.getfield 62, 3) := by decide +kernel
theorem d_M_goOn_87 : decode (zb m_M_goOn) 87 = .ok (.aload_n 0, 1) := by decide +kernel
theorem d_M_goOn_88 : decode (zb m_M_goOn) 88 = .ok (.getfield 164, 3) := by decide +kernel
theorem d_M_goOn_91 : decode (zb m_M_goOn) 91 = .ok (.aload_n 0, 1) := by decide +kernel
theorem d_M_goOn_92 : decode (zb m_M_goOn) 92 = .ok (.getfield 31, 3) := by decide +kernel
theorem d_M_goOn_95 : decode (zb m_M_goOn) 95 = .ok (.iload_n 2, 1) := by decide +kernel
theorem d_M_goOn_96 : decode (zb m_M_goOn) 96 = .ok (.bipush 62, 2) := by decide +kernel
theorem d_M_goOn_98 : decode (zb m_M_goOn) 98 = .ok (.irem, 1) := by decide +kernel
theorem d_M_goOn_99 : decode (zb m_M_goOn) 99 = .ok (.iaload, 1) := by decide +kernel
theorem d_M_goOn_100 : decode (zb m_M_goOn) 100 = .ok (.iastore, 1) := by decide +kernel
theorem d_M_goOn_101 : decode (zb m_M_goOn) 101 = .ok (.aload_n 0, 1) := by decide +kernel
theorem d_M_goOn_102 : decode (zb m_M_goOn) 102 = .ok (.dup, 1) := by decide +kernel
theorem d_M_goOn_103 : decode (zb m_M_goOn) 103 = .ok (.getfield 164, 3) := by decide +kernel
theorem d_M_goOn_106 : decode (zb m_M_goOn) 106 = .ok (.iconst 1, 1) := by decide +kernel
theorem d_M_goOn_107 : decode (zb m_M_goOn) 107 = .ok (.iadd, 1) := by decide +kernel
theorem d_M_goOn_108 : decode (zb m_M_goOn) 108 = .ok (.putfield 164, 3) := by decide +kernel
theorem d_M_goOn_111 : decode (zb m_M_goOn) 111 = .ok (.iload_n 3, 1) := by decide +kernel
theorem d_M_goOn_112 : decode (zb m_M_goOn) 112 = .ok (.ireturn, 1) := by decide +kernel
theorem d_M_goOn_113 : decode (zb m_M_goOn) 113 = .ok (.iinc 2 1, 3) := by decide +kernel
theorem d_M_goOn_116 : decode (zb m_M_goOn) 116 = .ok (.goto (-114), 3) := by decide +kernel
theorem d_M_goOn_119 : decode (zb m_M_goOn) 119 = .ok (.iconst 1, 1) := by decide +kernel
theorem d_M_goOn_120 : decode (zb m_M_goOn) 120 = .ok (.istore_n 2, 1) := by decide +kernel
theorem d_M_goOn_121 : decode (zb m_M_goOn) 121 = .ok (.iload_n 2, 1) := by decide +kernel
theorem d_M_goOn_122 : decode (zb m_M_goOn) 122 = .ok (.iconst 5, 1) := by decide +kernel
theorem d_M_goOn_123 : decode (zb m_M_goOn) 123 = .ok (.if_icmp .gt 87, 3) := by decide +kernel
theorem d_M_goOn_126 : decode (zb m_M_goOn) 126 = .ok (.aload_n 0, 1) := by decide +kernel
theorem d_M_goOn_127 : decode (zb m_M_goOn) 127 = .ok (.iload_n 1, 1) := by decide +kernel
theorem d_M_goOn_128 : decode (zb m_M_goOn) 128 = .ok (.iload_n 2, 1) := by decide +kernel
theorem d_M_goOn_129 : decode (zb m_M_goOn) 129 = .ok (.invokevirtual 141, 3) := by decide +kernel
theorem d_M_goOn_132 : decode (zb m_M_goOn) 132 = .ok (.istore_n 3, 1) := by decide +kernel
theorem d_M_goOn_133 : decode (zb m_M_goOn) 133 = .ok (.iload_n 3, 1) := by decide +kernel
theorem d_M_goOn_134 : decode (zb m_M_goOn) 134 = .ok (.ifCond .lt 70, 3) := by decide +kernel
theorem d_M_goOn_137 : decode (zb m_M_goOn) 137 = .ok (.aload_n 0, 1) := by decide +kernel
theorem d_M_goOn_138 : decode (zb m_M_goOn) 138 = .ok (.getfield 53, 3) := by decide +kernel
theorem d_M_goOn_141 : decode (zb m_M_goOn) 141 = .ok (.iload_n 3, 1) := by decide +kernel
theorem d_M_goOn_142 : decode (zb m_M_goOn) 142 = .ok (.iaload, 1) := by decide +kernel
theorem d_M_goOn_143 : decode (zb m_M_goOn) 143 = .ok (.iconst 2, 1) := by decide +kernel
theorem d_M_goOn_144 : decode (zb m_M_goOn) 144 = .ok (.iload_n 2, 1) := by decide +kernel
theorem d_M_goOn_145 : decode (zb m_M_goOn) 145 = .ok (.imul, 1) := by decide +kernel
theorem d_M_goOn_146 : decode (zb m_M_goOn) 146 = .ok (.iadd, 1) := by decide +kernel
theorem d_M_goOn_147 : decode (zb m_M_goOn) 147 = .ok (.iconst 2, 1) := by decide +kernel
theorem d_M_goOn_148 : decode (zb m_M_goOn) 148 = .ok (.iadd, 1) := by decide +kernel
theorem d_M_goOn_149 : decode (zb m_M_goOn) 149 = .ok (.aload_n 0, 1) := by decide +kernel
theorem d_M_goOn_150 : decode (zb m_M_goOn) 150 = .ok (.getfield 53, 3) := by decide +kernel
theorem d_M_goOn_153 : decode (zb m_M_goOn) 153 = .ok (.iload_n 1, 1) := by decide +kernel
theorem d_M_goOn_154 : decode (zb m_M_goOn) 154 = .ok (.iaload, 1) := by decide +kernel
theorem d_M_goOn_155 : decode (zb m_M_goOn) 155 = .ok (.if_icmp .ne 49, 3) := by decide +kernel
theorem d_M_goOn_158 : decode (zb m_M_goOn) 158 = .ok (.aload_n 0, 1) := by decide +kernel
theorem d_M_goOn_159 : decode (zb m_M_goOn) 159 = .ok (.getfield 56, 3) := by decide +kernel
theorem d_M_goOn_162 : decode (zb m_M_goOn) 162 = .ok (.aload_n 0, 1) := by decide +kernel
theorem d_M_goOn_163 : decode (zb m_M_goOn) 163 = .ok (.getfield 164, 3) := by decide +kernel
theorem d_M_goOn_166 : decode (zb m_M_goOn) 166 = .ok (.iconst 1, 1) := by decide +kernel
theorem d_M_goOn_167 : decode (zb m_M_goOn) 167 = .ok (.iastore, 1) := by decide +kernel
theorem d_M_goOn_168 : decode (zb m_M_goOn) 168 = .ok (.aload_n 0, 1) := by decide +kernel
theorem d_M_goOn_169 : decode (zb m_M_goOn) 169 = .ok (.getfield 59, 3) := by decide +kernel
theorem d_M_goOn_172 : decode (zb m_M_goOn) 172 = .ok (.aload_n 0, 1) := by decide +kernel
theorem d_M_goOn_173 : decode (zb m_M_goOn) 173 = .ok (.getfield 164, 3) := by decide +kernel
theorem d_M_goOn_176 : decode (zb m_M_goOn) 176 = .ok (.iload_n 2, 1) := by decide +kernel
theorem d_M_goOn_177 : decode (zb m_M_goOn) 177 = .ok (.iastore, 1) := by decide +kernel
theorem d_M_goOn_178 : decode (zb m_M_goOn) 178 = .ok (.aload_n 0, 1) := by decide +kernel
theorem d_M_goOn_179 : decode (zb m_M_goOn) 179 = .ok (.getfield 62, 3) := by decide +kernel
theorem d_M_goOn_182 : decode (zb m_M_goOn) 182 = .ok (.aload_n 0, 1) := by decide +kernel
theorem d_M_goOn_183 : decode (zb m_M_goOn) 183 = .ok (.getfield 164, 3) := by decide +kernel
theorem d_M_goOn_186 : decode (zb m_M_goOn) 186 = .ok (.iload_n 1, 1) := by decide +kernel
theorem d_M_goOn_187 : decode (zb m_M_goOn) 187 = .ok (.iconst 0, 1) := by decide +kernel
theorem d_M_goOn_188 : decode (zb m_M_goOn) 188 = .ok (.invokestatic 130, 3) := by decide +kernel
theorem d_M_goOn_191 : decode (zb m_M_goOn) 191 = .ok (.iastore, 1) := by decide +kernel
theorem d_M_goOn_192 : decode (zb m_M_goOn) 192 = .ok (.aload_n 0, 1) := by decide +kernel
theorem d_M_goOn_193 : decode (zb m_M_goOn) 193 = .ok (.dup, 1) := by decide +kernel
theorem d_M_goOn_194 : decode (zb m_M_goOn) 194 = .ok (.getfield 164, 3) := by decide +kernel
theorem d_M_goOn_197 : decode (zb m_M_goOn) 197 = .ok (.iconst 1, 1) := by decide +kernel
theorem d_M_goOn_198 : decode (zb m_M_goOn) 198 = .ok (.iadd, 1) := by decide +kernel
theorem d_M_goOn_199 : decode (zb m_M_goOn) 199 = .ok (.putfield 164, 3) := by decide +kernel
theorem d_M_goOn_202 : decode (zb m_M_goOn) 202 = .ok (.iload_n 3, 1) := by decide +kernel
theorem d_M_goOn_203 : decode (zb m_M_goOn) 203 = .ok (.ireturn, 1) := by decide +kernel
theorem d_M_goOn_204 : decode (zb m_M_goOn) 204 = .ok (.iinc 2 1, 3) := by decide +kernel
theorem d_M_goOn_207 : decode (zb m_M_goOn) 207 = .ok (.goto (-86), 3) := by decide +kernel
theorem d_M_goOn_210 : decode (zb m_M_goOn) 210 = .ok (.iload_n 1, 1) := by decide +kernel
theorem d_M_goOn_211 : decode (zb m_M_goOn) 211 = .ok (.ireturn, 1) := by decide +kernel
theorem d_M_plans_0 : decode (zb m_M_plans) 0 = .ok (.aload_n 0, 1) := by decide +kernel
theorem d_M_plans_1 : decode (zb m_M_plans) 1 = .ok (.getfield 98, 3) := by decide +kernel
theorem d_M_plans_4 : decode (zb m_M_plans) 4 = .ok (.ifCond .ne 7, 3) := by decide +kernel
theorem d_M_plans_7 : decode (zb m_M_plans) 7 = .ok (.ldc2_w 170, 3) := by decide +kernel
theorem d_M_plans_10 : decode (zb m_M_plans) 10 = .ok (.lreturn, 1) := by decide +kernel
theorem d_M_plans_11 : decode (zb m_M_plans) 11 = .ok (.aload_n 0, 1) := by decide +kernel
theorem d_M_plans_12 : decode (zb m_M_plans) 12 = .ok (.invokevirtual 150, 3) := by decide +kernel
theorem d_M_plans_15 : decode (zb m_M_plans) 15 = .ok (.aload_n 0, 1) := by decide +kernel
theorem d_M_plans_16 : decode (zb m_M_plans) 16 = .ok (.invokevirtual 153, 3) := by decide +kernel
theorem d_M_plans_19 : decode (zb m_M_plans) 19 = .ok (.lreturn, 1) := by decide +kernel
theorem d_M_cost_0 : decode (zb m_M_cost) 0 = .ok (.iload_n 1, 1) := by decide +kernel
theorem d_M_cost_1 : decode (zb m_M_cost) 1 = .ok (.bipush (-2), 2) := by decide +kernel
theorem d_M_cost_3 : decode (zb m_M_cost) 3 = .ok (.if_icmp .ge 6, 3) := by decide +kernel
theorem d_M_cost_6 : decode (zb m_M_cost) 6 = .ok (.bipush (-2), 2) := by decide +kernel
theorem d_M_cost_8 : decode (zb m_M_cost) 8 = .ok (.ireturn, 1) := by decide +kernel
theorem d_M_cost_9 : decode (zb m_M_cost) 9 = .ok (.aload_n 0, 1) := by decide +kernel
theorem d_M_cost_10 : decode (zb m_M_cost) 10 = .ok (.getfield 98, 3) := by decide +kernel
theorem d_M_cost_13 : decode (zb m_M_cost) 13 = .ok (.ifCond .ne 6, 3) := by decide +kernel
theorem d_M_cost_16 : decode (zb m_M_cost) 16 = .ok (.bipush (-3), 2) := by decide +kernel
theorem d_M_cost_18 : decode (zb m_M_cost) 18 = .ok (.ireturn, 1) := by decide +kernel
theorem d_M_cost_19 : decode (zb m_M_cost) 19 = .ok (.aload_n 0, 1) := by decide +kernel
theorem d_M_cost_20 : decode (zb m_M_cost) 20 = .ok (.invokevirtual 172, 3) := by decide +kernel
theorem d_M_cost_23 : decode (zb m_M_cost) 23 = .ok (.ifCond .ne 6, 3) := by decide +kernel
theorem d_M_cost_26 : decode (zb m_M_cost) 26 = .ok (.bipush (-6), 2) := by decide +kernel
theorem d_M_cost_28 : decode (zb m_M_cost) 28 = .ok (.ireturn, 1) := by decide +kernel
theorem d_M_cost_29 : decode (zb m_M_cost) 29 = .ok (.iload_n 1, 1) := by decide +kernel
theorem d_M_cost_30 : decode (zb m_M_cost) 30 = .ok (.iconst (-1), 1) := by decide +kernel
theorem d_M_cost_31 : decode (zb m_M_cost) 31 = .ok (.if_icmp .ne 10, 3) := by decide +kernel
theorem d_M_cost_34 : decode (zb m_M_cost) 34 = .ok (.aload_n 0, 1) := by decide +kernel
theorem d_M_cost_35 : decode (zb m_M_cost) 35 = .ok (.getfield 161, 3) := by decide +kernel
theorem d_M_cost_38 : decode (zb m_M_cost) 38 = .ok (.goto 34, 3) := by decide +kernel
theorem d_M_cost_41 : decode (zb m_M_cost) 41 = .ok (.iload_n 1, 1) := by decide +kernel
theorem d_M_cost_42 : decode (zb m_M_cost) 42 = .ok (.bipush (-2), 2) := by decide +kernel
theorem d_M_cost_44 : decode (zb m_M_cost) 44 = .ok (.if_icmp .ne 10, 3) := by decide +kernel
theorem d_M_cost_47 : decode (zb m_M_cost) 47 = .ok (.aload_n 0, 1) := by decide +kernel
theorem d_M_cost_48 : decode (zb m_M_cost) 48 = .ok (.getfield 164, 3) := by decide +kernel
theorem d_M_cost_51 : decode (zb m_M_cost) 51 = .ok (.goto 21, 3) := by decide +kernel
theorem d_M_cost_54 : decode (zb m_M_cost) 54 = .ok (.iload_n 1, 1) := by decide +kernel
theorem d_M_cost_55 : decode (zb m_M_cost) 55 = .ok (.aload_n 0, 1) := by decide +kernel
theorem d_M_cost_56 : decode (zb m_M_cost) 56 = .ok (.getfield 164, 3) := by decide +kernel
theorem d_M_cost_59 : decode (zb m_M_cost) 59 = .ok (.if_icmp .ge 11, 3) := by decide +kernel
theorem d_M_cost_62 : decode (zb m_M_cost) 62 = .ok (.aload_n 0, 1) := by decide +kernel
theorem d_M_cost_63 : decode (zb m_M_cost) 63 = .ok (.iload_n 1, 1) := by decide +kernel
theorem d_M_cost_64 : decode (zb m_M_cost) 64 = .ok (.invokevirtual 176, 3) := by decide +kernel
theorem d_M_cost_67 : decode (zb m_M_cost) 67 = .ok (.goto 5, 3) := by decide +kernel
theorem d_M_cost_70 : decode (zb m_M_cost) 70 = .ok (.bipush (-6), 2) := by decide +kernel
theorem d_M_cost_72 : decode (zb m_M_cost) 72 = .ok (.ireturn, 1) := by decide +kernel
theorem d_M_piece_0 : decode (zb m_M_piece) 0 = .ok (.aload_n 0, 1) := by decide +kernel
theorem d_M_piece_1 : decode (zb m_M_piece) 1 = .ok (.getfield 98, 3) := by decide +kernel
theorem d_M_piece_4 : decode (zb m_M_piece) 4 = .ok (.ifCond .ne 6, 3) := by decide +kernel
theorem d_M_piece_7 : decode (zb m_M_piece) 7 = .ok (.bipush (-3), 2) := by decide +kernel
theorem d_M_piece_9 : decode (zb m_M_piece) 9 = .ok (.ireturn, 1) := by decide +kernel
theorem d_M_piece_10 : decode (zb m_M_piece) 10 = .ok (.aload_n 0, 1) := by decide +kernel
theorem d_M_piece_11 : decode (zb m_M_piece) 11 = .ok (.invokevirtual 172, 3) := by decide +kernel
theorem d_M_piece_14 : decode (zb m_M_piece) 14 = .ok (.ifCond .eq 17, 3) := by decide +kernel
theorem d_M_piece_17 : decode (zb m_M_piece) 17 = .ok (.iload_n 1, 1) := by decide +kernel
theorem d_M_piece_18 : decode (zb m_M_piece) 18 = .ok (.iconst 0, 1) := by decide +kernel
theorem d_M_piece_19 : decode (zb m_M_piece) 19 = .ok (.aload_n 0, 1) := by decide +kernel
theorem d_M_piece_20 : decode (zb m_M_piece) 20 = .ok (.getfield 164, 3) := by decide +kernel
theorem d_M_piece_23 : decode (zb m_M_piece) 23 = .ok (.iconst 1, 1) := by decide +kernel
theorem d_M_piece_24 : decode (zb m_M_piece) 24 = .ok (.isub, 1) := by decide +kernel
theorem d_M_piece_25 : decode (zb m_M_piece) 25 = .ok (.invokestatic 79, 3) := by decide +kernel
theorem d_M_piece_28 : decode (zb m_M_piece) 28 = .ok (.ifCond .ne 5, 3) := by decide +kernel
theorem d_M_piece_31 : decode (zb m_M_piece) 31 = .ok (.iconst (-1), 1) := by decide +kernel
theorem d_M_piece_32 : decode (zb m_M_piece) 32 = .ok (.ireturn, 1) := by decide +kernel
theorem d_M_piece_33 : decode (zb m_M_piece) 33 = .ok (.iload_n 2, 1) := by decide +kernel
theorem d_M_piece_34 : decode (zb m_M_piece) 34 = .ok (.tableswitch 70 0 2 #[26, 33, 40], 26) := by decide +kernel
theorem d_M_piece_60 : decode (zb m_M_piece) 60 = .ok (.aload_n 0, 1) := by decide +kernel
theorem d_M_piece_61 : decode (zb m_M_piece) 61 = .ok (.getfield 56, 3) := by decide +kernel
theorem d_M_piece_64 : decode (zb m_M_piece) 64 = .ok (.iload_n 1, 1) := by decide +kernel
theorem d_M_piece_65 : decode (zb m_M_piece) 65 = .ok (.iaload, 1) := by decide +kernel
theorem d_M_piece_66 : decode (zb m_M_piece) 66 = .ok (.ireturn, 1) := by decide +kernel
theorem d_M_piece_67 : decode (zb m_M_piece) 67 = .ok (.aload_n 0, 1) := by decide +kernel
theorem d_M_piece_68 : decode (zb m_M_piece) 68 = .ok (.getfield 59, 3) := by decide +kernel
theorem d_M_piece_71 : decode (zb m_M_piece) 71 = .ok (.iload_n 1, 1) := by decide +kernel
theorem d_M_piece_72 : decode (zb m_M_piece) 72 = .ok (.iaload, 1) := by decide +kernel
theorem d_M_piece_73 : decode (zb m_M_piece) 73 = .ok (.ireturn, 1) := by decide +kernel
theorem d_M_piece_74 : decode (zb m_M_piece) 74 = .ok (.aload_n 0, 1) := by decide +kernel
theorem d_M_piece_75 : decode (zb m_M_piece) 75 = .ok (.getfield 56, 3) := by decide +kernel
theorem d_M_piece_78 : decode (zb m_M_piece) 78 = .ok (.iload_n 1, 1) := by decide +kernel
theorem d_M_piece_79 : decode (zb m_M_piece) 79 = .ok (.iaload, 1) := by decide +kernel
theorem d_M_piece_80 : decode (zb m_M_piece) 80 = .ok (.ifCond .ne 12, 3) := by decide +kernel
theorem d_M_piece_83 : decode (zb m_M_piece) 83 = .ok (.aload_n 0, 1) := by decide +kernel
theorem d_M_piece_84 : decode (zb m_M_piece) 84 = .ok (.getfield 62, 3) := by decide +kernel
theorem d_M_piece_87 : decode (zb m_M_piece) 87 = .ok (.iload_n 1, 1) := by decide +kernel
theorem d_M_piece_88 : decode (zb m_M_piece) 88 = .ok (.iaload, 1) := by decide +kernel
theorem d_M_piece_89 : decode (zb m_M_piece) 89 = .ok (.goto 14, 3) := by decide +kernel
theorem d_M_piece_92 : decode (zb m_M_piece) 92 = .ok (.aload_n 0, 1) := by decide +kernel
theorem d_M_piece_93 : decode (zb m_M_piece) 93 = .ok (.getfield 16, 3) := by decide +kernel
theorem d_M_piece_96 : decode (zb m_M_piece) 96 = .ok (.aload_n 0, 1) := by decide +kernel
theorem d_M_piece_97 : decode (zb m_M_piece) 97 = .ok (.getfield 62, 3) := by decide +kernel
theorem d_M_piece_100 : decode (zb m_M_piece) 100 = .ok (.iload_n 1, 1) := by decide +kernel
theorem d_M_piece_101 : decode (zb m_M_piece) 101 = .ok (.iaload, 1) := by decide +kernel
theorem d_M_piece_102 : decode (zb m_M_piece) 102 = .ok (.iaload, 1) := by decide +kernel
theorem d_M_piece_103 : decode (zb m_M_piece) 103 = .ok (.ireturn, 1) := by decide +kernel
theorem d_M_piece_104 : decode (zb m_M_piece) 104 = .ok (.bipush (-2), 2) := by decide +kernel
theorem d_M_piece_106 : decode (zb m_M_piece) 106 = .ok (.ireturn, 1) := by decide +kernel
theorem d_M_make_0 : decode (zb m_M_make) 0 = .ok (.iconst 0, 1) := by decide +kernel
theorem d_M_make_1 : decode (zb m_M_make) 1 = .ok (.istore_n 1, 1) := by decide +kernel
theorem d_M_make_2 : decode (zb m_M_make) 2 = .ok (.iconst 0, 1) := by decide +kernel
theorem d_M_make_3 : decode (zb m_M_make) 3 = .ok (.istore_n 2, 1) := by decide +kernel
theorem d_M_make_4 : decode (zb m_M_make) 4 = .ok (.iload_n 2, 1) := by decide +kernel
theorem d_M_make_5 : decode (zb m_M_make) 5 = .ok (.aload_n 0, 1) := by decide +kernel
theorem d_M_make_6 : decode (zb m_M_make) 6 = .ok (.getfield 164, 3) := by decide +kernel
theorem d_M_make_9 : decode (zb m_M_make) 9 = .ok (.if_icmp .ge 129, 3) := by decide +kernel
theorem d_M_make_12 : decode (zb m_M_make) 12 = .ok (.aload_n 0, 1) := by decide +kernel
theorem d_M_make_13 : decode (zb m_M_make) 13 = .ok (.getfield 56, 3) := by decide +kernel
theorem d_M_make_16 : decode (zb m_M_make) 16 = .ok (.iload_n 2, 1) := by decide +kernel
theorem d_M_make_17 : decode (zb m_M_make) 17 = .ok (.iaload, 1) := by decide +kernel
theorem d_M_make_18 : decode (zb m_M_make) 18 = .ok (.iconst 1, 1) := by decide +kernel
theorem d_M_make_19 : decode (zb m_M_make) 19 = .ok (.if_icmp .ne 46, 3) := by decide +kernel
theorem d_M_make_22 : decode (zb m_M_make) 22 = .ok (.iconst 0, 1) := by decide +kernel
theorem d_M_make_23 : decode (zb m_M_make) 23 = .ok (.istore_n 3, 1) := by decide +kernel
theorem d_M_make_24 : decode (zb m_M_make) 24 = .ok (.iload_n 3, 1) := by decide +kernel
theorem d_M_make_25 : decode (zb m_M_make) 25 = .ok (.aload_n 0, 1) := by decide +kernel
theorem d_M_make_26 : decode (zb m_M_make) 26 = .ok (.getfield 59, 3) := by decide +kernel
theorem d_M_make_29 : decode (zb m_M_make) 29 = .ok (.iload_n 2, 1) := by decide +kernel
theorem d_M_make_30 : decode (zb m_M_make) 30 = .ok (.iaload, 1) := by decide +kernel
theorem d_M_make_31 : decode (zb m_M_make) 31 = .ok (.if_icmp .ge 31, 3) := by decide +kernel
theorem d_M_make_34 : decode (zb m_M_make) 34 = .ok (.aload_n 0, 1) := by decide +kernel
theorem d_M_make_35 : decode (zb m_M_make) 35 = .ok (.getfield 65, 3) := by decide +kernel
theorem d_M_make_38 : decode (zb m_M_make) 38 = .ok (.iload_n 1, 1) := by decide +kernel
theorem d_M_make_39 : decode (zb m_M_make) 39 = .ok (.aload_n 0, 1) := by decide +kernel
theorem d_M_make_40 : decode (zb m_M_make) 40 = .ok (.getfield 16, 3) := by decide +kernel
theorem d_M_make_43 : decode (zb m_M_make) 43 = .ok (.aload_n 0, 1) := by decide +kernel
theorem d_M_make_44 : decode (zb m_M_make) 44 = .ok (.getfield 62, 3) := by decide +kernel
theorem d_M_make_47 : decode (zb m_M_make) 47 = .ok (.iload_n 2, 1) := by decide +kernel
theorem d_M_make_48 : decode (zb m_M_make) 48 = .ok (.iaload, 1) := by decide +kernel
theorem d_M_make_49 : decode (zb m_M_make) 49 = .ok (.iload_n 3, 1) := by decide +kernel
theorem d_M_make_50 : decode (zb m_M_make) 50 = .ok (.iadd, 1) := by decide +kernel
theorem d_M_make_51 : decode (zb m_M_make) 51 = .ok (.iaload, 1) := by decide +kernel
theorem d_M_make_52 : decode (zb m_M_make) 52 = .ok (.iastore, 1) := by decide +kernel
theorem d_M_make_53 : decode (zb m_M_make) 53 = .ok (.iinc 1 1, 3) := by decide +kernel
theorem d_M_make_56 : decode (zb m_M_make) 56 = .ok (.iinc 3 1, 3) := by decide +kernel
theorem d_M_make_59 : decode (zb m_M_make) 59 = .ok (.goto (-35), 3) := by decide +kernel
theorem d_M_make_62 : decode (zb m_M_make) 62 = .ok (.goto 70, 3) := by decide +kernel
theorem d_M_make_65 : decode (zb m_M_make) 65 = .ok (.aload_n 0, 1) := by decide +kernel
theorem d_M_make_66 : decode (zb m_M_make) 66 = .ok (.aload_n 0, 1) := by decide +kernel
theorem d_M_make_67 : decode (zb m_M_make) 67 = .ok (.getfield 59, 3) := by decide +kernel
theorem d_M_make_70 : decode (zb m_M_make) 70 = .ok (.iload_n 2, 1) := by decide +kernel
theorem d_M_make_71 : decode (zb m_M_make) 71 = .ok (.iaload, 1) := by decide +kernel
theorem d_M_make_72 : decode (zb m_M_make) 72 = .ok (.invokevirtual 118, 3) := by decide +kernel
theorem d_M_make_75 : decode (zb m_M_make) 75 = .ok (.istore_n 3, 1) := by decide +kernel
theorem d_M_make_76 : decode (zb m_M_make) 76 = .ok (.aload_n 0, 1) := by decide +kernel
theorem d_M_make_77 : decode (zb m_M_make) 77 = .ok (.aload_n 0, 1) := by decide +kernel
theorem d_M_make_78 : decode (zb m_M_make) 78 = .ok (.getfield 62, 3) := by decide +kernel
theorem d_M_make_81 : decode (zb m_M_make) 81 = .ok (.iload_n 2, 1) := by decide +kernel
theorem d_M_make_82 : decode (zb m_M_make) 82 = .ok (.iaload, 1) := by decide +kernel
theorem d_M_make_83 : decode (zb m_M_make) 83 = .ok (.invokevirtual 118, 3) := by decide +kernel
theorem d_M_make_86 : decode (zb m_M_make) 86 = .ok (.istore 4, 2) := by decide +kernel
theorem d_M_make_88 : decode (zb m_M_make) 88 = .ok (.iload_n 3, 1) := by decide +kernel
theorem d_M_make_89 : decode (zb m_M_make) 89 = .ok (.ifCond .lt 9, 3) := by decide +kernel
theorem d_M_make_92 : decode (zb m_M_make) 92 = .ok (.iload_n 3, 1) := by decide +kernel
theorem d_M_make_93 : decode (zb m_M_make) 93 = .ok (.iload 4, 2) := by decide +kernel
theorem d_M_make_95 : decode (zb m_M_make) 95 = .ok (.if_icmp .lt 5, 3) := by decide +kernel
theorem d_M_make_98 : decode (zb m_M_make) 98 = .ok (.iconst 0, 1) := by decide +kernel
theorem d_M_make_99 : decode (zb m_M_make) 99 = .ok (.ireturn, 1) := by decide +kernel
theorem d_M_make_100 : decode (zb m_M_make) 100 = .ok (.iload_n 3, 1) := by decide +kernel
theorem d_M_make_101 : decode (zb m_M_make) 101 = .ok (.istore 5, 2) := by decide +kernel
theorem d_M_make_103 : decode (zb m_M_make) 103 = .ok (.iload 5, 2) := by decide +kernel
theorem d_M_make_105 : decode (zb m_M_make) 105 = .ok (.iload 4, 2) := by decide +kernel
theorem d_M_make_107 : decode (zb m_M_make) 107 = .ok (.if_icmp .ge 25, 3) := by decide +kernel
theorem d_M_make_110 : decode (zb m_M_make) 110 = .ok (.aload_n 0, 1) := by decide +kernel
theorem d_M_make_111 : decode (zb m_M_make) 111 = .ok (.getfield 65, 3) := by decide +kernel
theorem d_M_make_114 : decode (zb m_M_make) 114 = .ok (.iload_n 1, 1) := by decide +kernel
theorem d_M_make_115 : decode (zb m_M_make) 115 = .ok (.aload_n 0, 1) := by decide +kernel
theorem d_M_make_116 : decode (zb m_M_make) 116 = .ok (.getfield 34, 3) := by decide +kernel
theorem d_M_make_119 : decode (zb m_M_make) 119 = .ok (.iload 5, 2) := by decide +kernel
theorem d_M_make_121 : decode (zb m_M_make) 121 = .ok (.iaload, 1) := by decide +kernel
theorem d_M_make_122 : decode (zb m_M_make) 122 = .ok (.iastore, 1) := by decide +kernel
theorem d_M_make_123 : decode (zb m_M_make) 123 = .ok (.iinc 1 1, 3) := by decide +kernel
theorem d_M_make_126 : decode (zb m_M_make) 126 = .ok (.iinc 5 1, 3) := by decide +kernel
theorem d_M_make_129 : decode (zb m_M_make) 129 = .ok (.goto (-26), 3) := by decide +kernel
theorem d_M_make_132 : decode (zb m_M_make) 132 = .ok (.iinc 2 1, 3) := by decide +kernel
theorem d_M_make_135 : decode (zb m_M_make) 135 = .ok (.goto (-131), 3) := by decide +kernel
theorem d_M_make_138 : decode (zb m_M_make) 138 = .ok (.iload_n 1, 1) := by decide +kernel
theorem d_M_make_139 : decode (zb m_M_make) 139 = .ok (.ireturn, 1) := by decide +kernel
theorem d_M_makes_0 : decode (zb m_M_makes) 0 = .ok (.aload_n 0, 1) := by decide +kernel
theorem d_M_makes_1 : decode (zb m_M_makes) 1 = .ok (.invokevirtual 95, 3) := by decide +kernel
theorem d_M_makes_4 : decode (zb m_M_makes) 4 = .ok (.ifCond .lt 6, 3) := by decide +kernel
theorem d_M_makes_7 : decode (zb m_M_makes) 7 = .ok (.bipush (-5), 2) := by decide +kernel
theorem d_M_makes_9 : decode (zb m_M_makes) 9 = .ok (.ireturn, 1) := by decide +kernel
theorem d_M_makes_10 : decode (zb m_M_makes) 10 = .ok (.aload_n 0, 1) := by decide +kernel
theorem d_M_makes_11 : decode (zb m_M_makes) 11 = .ok (.getfield 98, 3) := by decide +kernel
theorem d_M_makes_14 : decode (zb m_M_makes) 14 = .ok (.ifCond .ne 6, 3) := by decide +kernel
theorem d_M_makes_17 : decode (zb m_M_makes) 17 = .ok (.bipush (-3), 2) := by decide +kernel
theorem d_M_makes_19 : decode (zb m_M_makes) 19 = .ok (.ireturn, 1) := by decide +kernel
theorem d_M_makes_20 : decode (zb m_M_makes) 20 = .ok (.aload_n 0, 1) := by decide +kernel
theorem d_M_makes_21 : decode (zb m_M_makes) 21 = .ok (.invokevirtual 172, 3) := by decide +kernel
theorem d_M_makes_24 : decode (zb m_M_makes) 24 = .ok (.ifCond .ne 6, 3) := by decide +kernel
theorem d_M_makes_27 : decode (zb m_M_makes) 27 = .ok (.bipush (-6), 2) := by decide +kernel
theorem d_M_makes_29 : decode (zb m_M_makes) 29 = .ok (.ireturn, 1) := by decide +kernel
theorem d_M_makes_30 : decode (zb m_M_makes) 30 = .ok (.aload_n 0, 1) := by decide +kernel
theorem d_M_makes_31 : decode (zb m_M_makes) 31 = .ok (.invokevirtual 115, 3) := by decide +kernel
theorem d_M_makes_34 : decode (zb m_M_makes) 34 = .ok (.aload_n 0, 1) := by decide +kernel
theorem d_M_makes_35 : decode (zb m_M_makes) 35 = .ok (.invokevirtual 179, 3) := by decide +kernel
theorem d_M_makes_38 : decode (zb m_M_makes) 38 = .ok (.istore_n 2, 1) := by decide +kernel
theorem d_M_makes_39 : decode (zb m_M_makes) 39 = .ok (.iload_n 1, 1) := by decide +kernel
theorem d_M_makes_40 : decode (zb m_M_makes) 40 = .ok (.iconst (-1), 1) := by decide +kernel
theorem d_M_makes_41 : decode (zb m_M_makes) 41 = .ok (.if_icmp .ne 7, 3) := by decide +kernel
theorem d_M_makes_44 : decode (zb m_M_makes) 44 = .ok (.iload_n 2, 1) := by decide +kernel
theorem d_M_makes_45 : decode (zb m_M_makes) 45 = .ok (.goto 25, 3) := by decide +kernel
theorem d_M_makes_48 : decode (zb m_M_makes) 48 = .ok (.iload_n 1, 1) := by decide +kernel
theorem d_M_makes_49 : decode (zb m_M_makes) 49 = .ok (.iconst 0, 1) := by decide +kernel
theorem d_M_makes_50 : decode (zb m_M_makes) 50 = .ok (.iload_n 2, 1) := by decide +kernel
theorem d_M_makes_51 : decode (zb m_M_makes) 51 = .ok (.iconst 1, 1) := by decide +kernel
theorem d_M_makes_52 : decode (zb m_M_makes) 52 = .ok (.isub, 1) := by decide +kernel
theorem d_M_makes_53 : decode (zb m_M_makes) 53 = .ok (.invokestatic 79, 3) := by decide +kernel
theorem d_M_makes_56 : decode (zb m_M_makes) 56 = .ok (.ifCond .eq 12, 3) := by decide +kernel
theorem d_M_makes_59 : decode (zb m_M_makes) 59 = .ok (.aload_n 0, 1) := by decide +kernel
theorem d_M_makes_60 : decode (zb m_M_makes) 60 = .ok (.getfield 65, 3) := by decide +kernel
theorem d_M_makes_63 : decode (zb m_M_makes) 63 = .ok (.iload_n 1, 1) := by decide +kernel
theorem d_M_makes_64 : decode (zb m_M_makes) 64 = .ok (.iaload, 1) := by decide +kernel
theorem d_M_makes_65 : decode (zb m_M_makes) 65 = .ok (.goto 5, 3) := by decide +kernel
theorem d_M_makes_68 : decode (zb m_M_makes) 68 = .ok (.bipush (-6), 2) := by decide +kernel
theorem d_M_makes_70 : decode (zb m_M_makes) 70 = .ok (.ireturn, 1) := by decide +kernel
theorem d_M_accept_0 : decode (zb m_M_accept) 0 = .ok (.iload_n 1, 1) := by decide +kernel
theorem d_M_accept_1 : decode (zb m_M_accept) 1 = .ok (.iconst 0, 1) := by decide +kernel
theorem d_M_accept_2 : decode (zb m_M_accept) 2 = .ok (.aload_n 0, 1) := by decide +kernel
theorem d_M_accept_3 : decode (zb m_M_accept) 3 = .ok (.getfield 101, 3) := by decide +kernel
theorem d_M_accept_6 : decode (zb m_M_accept) 6 = .ok (.iconst 1, 1) := by decide +kernel
theorem d_M_accept_7 : decode (zb m_M_accept) 7 = .ok (.isub, 1) := by decide +kernel
theorem d_M_accept_8 : decode (zb m_M_accept) 8 = .ok (.invokestatic 79, 3) := by decide +kernel
theorem d_M_accept_11 : decode (zb m_M_accept) 11 = .ok (.ifCond .ne 5, 3) := by decide +kernel
theorem d_M_accept_14 : decode (zb m_M_accept) 14 = .ok (.iconst (-1), 1) := by decide +kernel
theorem d_M_accept_15 : decode (zb m_M_accept) 15 = .ok (.ireturn, 1) := by decide +kernel
theorem d_M_accept_16 : decode (zb m_M_accept) 16 = .ok (.aload_n 0, 1) := by decide +kernel
theorem d_M_accept_17 : decode (zb m_M_accept) 17 = .ok (.getfield 98, 3) := by decide +kernel
theorem d_M_accept_20 : decode (zb m_M_accept) 20 = .ok (.ifCond .ne 6, 3) := by decide +kernel
theorem d_M_accept_23 : decode (zb m_M_accept) 23 = .ok (.bipush (-3), 2) := by decide +kernel
theorem d_M_accept_25 : decode (zb m_M_accept) 25 = .ok (.ireturn, 1) := by decide +kernel
theorem d_M_accept_26 : decode (zb m_M_accept) 26 = .ok (.aload_n 0, 1) := by decide +kernel
theorem d_M_accept_27 : decode (zb m_M_accept) 27 = .ok (.invokevirtual 172, 3) := by decide +kernel
theorem d_M_accept_30 : decode (zb m_M_accept) 30 = .ok (.ifCond .ne 6, 3) := by decide +kernel
theorem d_M_accept_33 : decode (zb m_M_accept) 33 = .ok (.bipush (-5), 2) := by decide +kernel
theorem d_M_accept_35 : decode (zb m_M_accept) 35 = .ok (.ireturn, 1) := by decide +kernel
theorem d_M_accept_36 : decode (zb m_M_accept) 36 = .ok (.aload_n 0, 1) := by decide +kernel
theorem d_M_accept_37 : decode (zb m_M_accept) 37 = .ok (.iload_n 1, 1) := by decide +kernel
theorem d_M_accept_38 : decode (zb m_M_accept) 38 = .ok (.invokevirtual 182, 3) := by decide +kernel
theorem d_M_accept_41 : decode (zb m_M_accept) 41 = .ok (.aload_n 0, 1) := by decide +kernel
theorem d_M_accept_42 : decode (zb m_M_accept) 42 = .ok (.invokevirtual 179, 3) := by decide +kernel
theorem d_M_accept_45 : decode (zb m_M_accept) 45 = .ok (.istore_n 2, 1) := by decide +kernel
theorem d_M_accept_46 : decode (zb m_M_accept) 46 = .ok (.iload_n 2, 1) := by decide +kernel
theorem d_M_accept_47 : decode (zb m_M_accept) 47 = .ok (.iconst 1, 1) := by decide +kernel
theorem d_M_accept_48 : decode (zb m_M_accept) 48 = .ok (.iconst 5, 1) := by decide +kernel
theorem d_M_accept_49 : decode (zb m_M_accept) 49 = .ok (.invokestatic 79, 3) := by decide +kernel
theorem d_M_accept_52 : decode (zb m_M_accept) 52 = .ok (.ifCond .ne 6, 3) := by decide +kernel
theorem d_M_accept_55 : decode (zb m_M_accept) 55 = .ok (.bipush (-5), 2) := by decide +kernel
theorem d_M_accept_57 : decode (zb m_M_accept) 57 = .ok (.ireturn, 1) := by decide +kernel
theorem d_M_accept_58 : decode (zb m_M_accept) 58 = .ok (.aload_n 0, 1) := by decide +kernel
theorem d_M_accept_59 : decode (zb m_M_accept) 59 = .ok (.getfield 98, 3) := by decide +kernel
theorem d_M_accept_62 : decode (zb m_M_accept) 62 = .ok (.iconst 3, 1) := by decide +kernel
theorem d_M_accept_63 : decode (zb m_M_accept) 63 = .ok (.if_icmp .ne 6, 3) := by decide +kernel
theorem d_M_accept_66 : decode (zb m_M_accept) 66 = .ok (.bipush (-4), 2) := by decide +kernel
theorem d_M_accept_68 : decode (zb m_M_accept) 68 = .ok (.ireturn, 1) := by decide +kernel
theorem d_M_accept_69 : decode (zb m_M_accept) 69 = .ok (.iconst 0, 1) := by decide +kernel
theorem d_M_accept_70 : decode (zb m_M_accept) 70 = .ok (.istore_n 3, 1) := by decide +kernel
theorem d_M_accept_71 : decode (zb m_M_accept) 71 = .ok (.iload_n 3, 1) := by decide +kernel
theorem d_M_accept_72 : decode (zb m_M_accept) 72 = .ok (.aload_n 0, 1) := by decide +kernel
theorem d_M_accept_73 : decode (zb m_M_accept) 73 = .ok (.getfield 108, 3) := by decide +kernel
theorem d_M_accept_76 : decode (zb m_M_accept) 76 = .ok (.if_icmp .ge 29, 3) := by decide +kernel
theorem d_M_accept_79 : decode (zb m_M_accept) 79 = .ok (.aload_n 0, 1) := by decide +kernel
theorem d_M_accept_80 : decode (zb m_M_accept) 80 = .ok (.getfield 7, 3) := by decide +kernel
theorem d_M_accept_83 : decode (zb m_M_accept) 83 = .ok (.bipush 12, 2) := by decide +kernel
theorem d_M_accept_85 : decode (zb m_M_accept) 85 = .ok (.aload_n 0, 1) := by decide +kernel
theorem d_M_accept_86 : decode (zb m_M_accept) 86 = .ok (.getfield 98, 3) := by decide +kernel
theorem d_M_accept_89 : decode (zb m_M_accept) 89 = .ok (.imul, 1) := by decide +kernel
theorem d_M_accept_90 : decode (zb m_M_accept) 90 = .ok (.iload_n 3, 1) := by decide +kernel
theorem d_M_accept_91 : decode (zb m_M_accept) 91 = .ok (.iadd, 1) := by decide +kernel
theorem d_M_accept_92 : decode (zb m_M_accept) 92 = .ok (.aload_n 0, 1) := by decide +kernel
theorem d_M_accept_93 : decode (zb m_M_accept) 93 = .ok (.getfield 34, 3) := by decide +kernel
theorem d_M_accept_96 : decode (zb m_M_accept) 96 = .ok (.iload_n 3, 1) := by decide +kernel
theorem d_M_accept_97 : decode (zb m_M_accept) 97 = .ok (.iaload, 1) := by decide +kernel
theorem d_M_accept_98 : decode (zb m_M_accept) 98 = .ok (.iastore, 1) := by decide +kernel
theorem d_M_accept_99 : decode (zb m_M_accept) 99 = .ok (.iinc 3 1, 3) := by decide +kernel
theorem d_M_accept_102 : decode (zb m_M_accept) 102 = .ok (.goto (-31), 3) := by decide +kernel
theorem d_M_accept_105 : decode (zb m_M_accept) 105 = .ok (.iconst 0, 1) := by decide +kernel
theorem d_M_accept_106 : decode (zb m_M_accept) 106 = .ok (.istore_n 3, 1) := by decide +kernel
theorem d_M_accept_107 : decode (zb m_M_accept) 107 = .ok (.iload_n 3, 1) := by decide +kernel
theorem d_M_accept_108 : decode (zb m_M_accept) 108 = .ok (.iload_n 2, 1) := by decide +kernel
theorem d_M_accept_109 : decode (zb m_M_accept) 109 = .ok (.if_icmp .ge 28, 3) := by decide +kernel
theorem d_M_accept_112 : decode (zb m_M_accept) 112 = .ok (.aload_n 0, 1) := by decide +kernel
theorem d_M_accept_113 : decode (zb m_M_accept) 113 = .ok (.getfield 16, 3) := by decide +kernel
theorem d_M_accept_116 : decode (zb m_M_accept) 116 = .ok (.iconst 5, 1) := by decide +kernel
theorem d_M_accept_117 : decode (zb m_M_accept) 117 = .ok (.aload_n 0, 1) := by decide +kernel
theorem d_M_accept_118 : decode (zb m_M_accept) 118 = .ok (.getfield 98, 3) := by decide +kernel
theorem d_M_accept_121 : decode (zb m_M_accept) 121 = .ok (.imul, 1) := by decide +kernel
theorem d_M_accept_122 : decode (zb m_M_accept) 122 = .ok (.iload_n 3, 1) := by decide +kernel
theorem d_M_accept_123 : decode (zb m_M_accept) 123 = .ok (.iadd, 1) := by decide +kernel
theorem d_M_accept_124 : decode (zb m_M_accept) 124 = .ok (.aload_n 0, 1) := by decide +kernel
theorem d_M_accept_125 : decode (zb m_M_accept) 125 = .ok (.getfield 65, 3) := by decide +kernel
theorem d_M_accept_128 : decode (zb m_M_accept) 128 = .ok (.iload_n 3, 1) := by decide +kernel
theorem d_M_accept_129 : decode (zb m_M_accept) 129 = .ok (.iaload, 1) := by decide +kernel
theorem d_M_accept_130 : decode (zb m_M_accept) 130 = .ok (.iastore, 1) := by decide +kernel
theorem d_M_accept_131 : decode (zb m_M_accept) 131 = .ok (.iinc 3 1, 3) := by decide +kernel
theorem d_M_accept_134 : decode (zb m_M_accept) 134 = .ok (.goto (-27), 3) := by decide +kernel
theorem d_M_accept_137 : decode (zb m_M_accept) 137 = .ok (.aload_n 0, 1) := by decide +kernel
theorem d_M_accept_138 : decode (zb m_M_accept) 138 = .ok (.getfield 13, 3) := by decide +kernel
theorem d_M_accept_141 : decode (zb m_M_accept) 141 = .ok (.aload_n 0, 1) := by decide +kernel
theorem d_M_accept_142 : decode (zb m_M_accept) 142 = .ok (.getfield 98, 3) := by decide +kernel
theorem d_M_accept_145 : decode (zb m_M_accept) 145 = .ok (.aload_n 0, 1) := by decide +kernel
theorem d_M_accept_146 : decode (zb m_M_accept) 146 = .ok (.getfield 108, 3) := by decide +kernel
theorem d_M_accept_149 : decode (zb m_M_accept) 149 = .ok (.iastore, 1) := by decide +kernel
theorem d_M_accept_150 : decode (zb m_M_accept) 150 = .ok (.aload_n 0, 1) := by decide +kernel
theorem d_M_accept_151 : decode (zb m_M_accept) 151 = .ok (.getfield 19, 3) := by decide +kernel
theorem d_M_accept_154 : decode (zb m_M_accept) 154 = .ok (.aload_n 0, 1) := by decide +kernel
theorem d_M_accept_155 : decode (zb m_M_accept) 155 = .ok (.getfield 98, 3) := by decide +kernel
theorem d_M_accept_158 : decode (zb m_M_accept) 158 = .ok (.iload_n 2, 1) := by decide +kernel
theorem d_M_accept_159 : decode (zb m_M_accept) 159 = .ok (.iastore, 1) := by decide +kernel
theorem d_M_accept_160 : decode (zb m_M_accept) 160 = .ok (.aload_n 0, 1) := by decide +kernel
theorem d_M_accept_161 : decode (zb m_M_accept) 161 = .ok (.dup, 1) := by decide +kernel
theorem d_M_accept_162 : decode (zb m_M_accept) 162 = .ok (.getfield 98, 3) := by decide +kernel
theorem d_M_accept_165 : decode (zb m_M_accept) 165 = .ok (.iconst 1, 1) := by decide +kernel
theorem d_M_accept_166 : decode (zb m_M_accept) 166 = .ok (.iadd, 1) := by decide +kernel
theorem d_M_accept_167 : decode (zb m_M_accept) 167 = .ok (.putfield 98, 3) := by decide +kernel
theorem d_M_accept_170 : decode (zb m_M_accept) 170 = .ok (.aload_n 0, 1) := by decide +kernel
theorem d_M_accept_171 : decode (zb m_M_accept) 171 = .ok (.iload_n 1, 1) := by decide +kernel
theorem d_M_accept_172 : decode (zb m_M_accept) 172 = .ok (.invokevirtual 104, 3) := by decide +kernel
theorem d_M_accept_175 : decode (zb m_M_accept) 175 = .ok (.aload_n 0, 1) := by decide +kernel
theorem d_M_accept_176 : decode (zb m_M_accept) 176 = .ok (.getfield 98, 3) := by decide +kernel
theorem d_M_accept_179 : decode (zb m_M_accept) 179 = .ok (.ireturn, 1) := by decide +kernel
theorem d_M_agreeingOf_0 : decode (zb m_M_agreeingOf) 0 = .ok (.aload_n 0, 1) := by decide +kernel
theorem d_M_agreeingOf_1 : decode (zb m_M_agreeingOf) 1 = .ok (.iload_n 1, 1) := by decide +kernel
theorem d_M_agreeingOf_2 : decode (zb m_M_agreeingOf) 2 = .ok (.invokevirtual 182, 3) := by decide +kernel
theorem d_M_agreeingOf_5 : decode (zb m_M_agreeingOf) 5 = .ok (.aload_n 0, 1) := by decide +kernel
theorem d_M_agreeingOf_6 : decode (zb m_M_agreeingOf) 6 = .ok (.invokevirtual 179, 3) := by decide +kernel
theorem d_M_agreeingOf_9 : decode (zb m_M_agreeingOf) 9 = .ok (.istore_n 2, 1) := by decide +kernel
theorem d_M_agreeingOf_10 : decode (zb m_M_agreeingOf) 10 = .ok (.iload_n 2, 1) := by decide +kernel
theorem d_M_agreeingOf_11 : decode (zb m_M_agreeingOf) 11 = .ok (.iconst 1, 1) := by decide +kernel
theorem d_M_agreeingOf_12 : decode (zb m_M_agreeingOf) 12 = .ok (.iconst 5, 1) := by decide +kernel
theorem d_M_agreeingOf_13 : decode (zb m_M_agreeingOf) 13 = .ok (.invokestatic 79, 3) := by decide +kernel
theorem d_M_agreeingOf_16 : decode (zb m_M_agreeingOf) 16 = .ok (.ifCond .ne 7, 3) := by decide +kernel
theorem d_M_agreeingOf_19 : decode (zb m_M_agreeingOf) 19 = .ok (.ldc2_w 185, 3) := by decide +kernel
theorem d_M_agreeingOf_22 : decode (zb m_M_agreeingOf) 22 = .ok (.lreturn, 1) := by decide +kernel
theorem d_M_agreeingOf_23 : decode (zb m_M_agreeingOf) 23 = .ok (.iconst 0, 1) := by decide +kernel
theorem d_M_agreeingOf_24 : decode (zb m_M_agreeingOf) 24 = .ok (.istore_n 3, 1) := by decide +kernel
theorem d_M_agreeingOf_25 : decode (zb m_M_agreeingOf) 25 = .ok (.iload_n 3, 1) := by decide +kernel
theorem d_M_agreeingOf_26 : decode (zb m_M_agreeingOf) 26 = .ok (.iload_n 2, 1) := by decide +kernel
theorem d_M_agreeingOf_27 : decode (zb m_M_agreeingOf) 27 = .ok (.if_icmp .ge 28, 3) := by decide +kernel
theorem d_M_agreeingOf_30 : decode (zb m_M_agreeingOf) 30 = .ok (.aload_n 0, 1) := by decide +kernel
theorem d_M_agreeingOf_31 : decode (zb m_M_agreeingOf) 31 = .ok (.getfield 40, 3) := by decide +kernel
theorem d_M_agreeingOf_34 : decode (zb m_M_agreeingOf) 34 = .ok (.iconst 5, 1) := by decide +kernel
theorem d_M_agreeingOf_35 : decode (zb m_M_agreeingOf) 35 = .ok (.aload_n 0, 1) := by decide +kernel
theorem d_M_agreeingOf_36 : decode (zb m_M_agreeingOf) 36 = .ok (.getfield 98, 3) := by decide +kernel
theorem d_M_agreeingOf_39 : decode (zb m_M_agreeingOf) 39 = .ok (.imul, 1) := by decide +kernel
theorem d_M_agreeingOf_40 : decode (zb m_M_agreeingOf) 40 = .ok (.iload_n 3, 1) := by decide +kernel
theorem d_M_agreeingOf_41 : decode (zb m_M_agreeingOf) 41 = .ok (.iadd, 1) := by decide +kernel
theorem d_M_agreeingOf_42 : decode (zb m_M_agreeingOf) 42 = .ok (.aload_n 0, 1) := by decide +kernel
theorem d_M_agreeingOf_43 : decode (zb m_M_agreeingOf) 43 = .ok (.getfield 65, 3) := by decide +kernel
theorem d_M_agreeingOf_46 : decode (zb m_M_agreeingOf) 46 = .ok (.iload_n 3, 1) := by decide +kernel
theorem d_M_agreeingOf_47 : decode (zb m_M_agreeingOf) 47 = .ok (.iaload, 1) := by decide +kernel
theorem d_M_agreeingOf_48 : decode (zb m_M_agreeingOf) 48 = .ok (.iastore, 1) := by decide +kernel
theorem d_M_agreeingOf_49 : decode (zb m_M_agreeingOf) 49 = .ok (.iinc 3 1, 3) := by decide +kernel
theorem d_M_agreeingOf_52 : decode (zb m_M_agreeingOf) 52 = .ok (.goto (-27), 3) := by decide +kernel
theorem d_M_agreeingOf_55 : decode (zb m_M_agreeingOf) 55 = .ok (.aload_n 0, 1) := by decide +kernel
theorem d_M_agreeingOf_56 : decode (zb m_M_agreeingOf) 56 = .ok (.getfield 43, 3) := by decide +kernel
theorem d_M_agreeingOf_59 : decode (zb m_M_agreeingOf) 59 = .ok (.aload_n 0, 1) := by decide +kernel
theorem d_M_agreeingOf_60 : decode (zb m_M_agreeingOf) 60 = .ok (.getfield 98, 3) := by decide +kernel
theorem d_M_agreeingOf_63 : decode (zb m_M_agreeingOf) 63 = .ok (.iload_n 2, 1) := by decide +kernel
theorem d_M_agreeingOf_64 : decode (zb m_M_agreeingOf) 64 = .ok (.iastore, 1) := by decide +kernel
theorem d_M_agreeingOf_65 : decode (zb m_M_agreeingOf) 65 = .ok (.aload_n 0, 1) := by decide +kernel
theorem d_M_agreeingOf_66 : decode (zb m_M_agreeingOf) 66 = .ok (.aload_n 0, 1) := by decide +kernel
theorem d_M_agreeingOf_67 : decode (zb m_M_agreeingOf) 67 = .ok (.getfield 98, 3) := by decide +kernel
theorem d_M_agreeingOf_70 : decode (zb m_M_agreeingOf) 70 = .ok (.putfield 124, 3) := by decide +kernel
theorem d_M_agreeingOf_73 : decode (zb m_M_agreeingOf) 73 = .ok (.aload_n 0, 1) := by decide +kernel
theorem d_M_agreeingOf_74 : decode (zb m_M_agreeingOf) 74 = .ok (.invokevirtual 127, 3) := by decide +kernel
theorem d_M_agreeingOf_77 : decode (zb m_M_agreeingOf) 77 = .ok (.aload_n 0, 1) := by decide +kernel
theorem d_M_agreeingOf_78 : decode (zb m_M_agreeingOf) 78 = .ok (.invokevirtual 153, 3) := by decide +kernel
theorem d_M_agreeingOf_81 : decode (zb m_M_agreeingOf) 81 = .ok (.lreturn, 1) := by decide +kernel
theorem d_M_agreeing_0 : decode (zb m_M_agreeing) 0 = .ok (.iload_n 1, 1) := by decide +kernel
theorem d_M_agreeing_1 : decode (zb m_M_agreeing) 1 = .ok (.iconst 0, 1) := by decide +kernel
theorem d_M_agreeing_2 : decode (zb m_M_agreeing) 2 = .ok (.aload_n 0, 1) := by decide +kernel
theorem d_M_agreeing_3 : decode (zb m_M_agreeing) 3 = .ok (.getfield 101, 3) := by decide +kernel
theorem d_M_agreeing_6 : decode (zb m_M_agreeing) 6 = .ok (.iconst 1, 1) := by decide +kernel
theorem d_M_agreeing_7 : decode (zb m_M_agreeing) 7 = .ok (.isub, 1) := by decide +kernel
theorem d_M_agreeing_8 : decode (zb m_M_agreeing) 8 = .ok (.invokestatic 79, 3) := by decide +kernel
theorem d_M_agreeing_11 : decode (zb m_M_agreeing) 11 = .ok (.ifCond .ne 7, 3) := by decide +kernel
theorem d_M_agreeing_14 : decode (zb m_M_agreeing) 14 = .ok (.ldc2_w 187, 3) := by decide +kernel
theorem d_M_agreeing_17 : decode (zb m_M_agreeing) 17 = .ok (.lreturn, 1) := by decide +kernel
theorem d_M_agreeing_18 : decode (zb m_M_agreeing) 18 = .ok (.aload_n 0, 1) := by decide +kernel
theorem d_M_agreeing_19 : decode (zb m_M_agreeing) 19 = .ok (.getfield 98, 3) := by decide +kernel
theorem d_M_agreeing_22 : decode (zb m_M_agreeing) 22 = .ok (.ifCond .ne 7, 3) := by decide +kernel
theorem d_M_agreeing_25 : decode (zb m_M_agreeing) 25 = .ok (.ldc2_w 170, 3) := by decide +kernel
theorem d_M_agreeing_28 : decode (zb m_M_agreeing) 28 = .ok (.lreturn, 1) := by decide +kernel
theorem d_M_agreeing_29 : decode (zb m_M_agreeing) 29 = .ok (.aload_n 0, 1) := by decide +kernel
theorem d_M_agreeing_30 : decode (zb m_M_agreeing) 30 = .ok (.invokevirtual 172, 3) := by decide +kernel
theorem d_M_agreeing_33 : decode (zb m_M_agreeing) 33 = .ok (.ifCond .eq 11, 3) := by decide +kernel
theorem d_M_agreeing_36 : decode (zb m_M_agreeing) 36 = .ok (.aload_n 0, 1) := by decide +kernel
theorem d_M_agreeing_37 : decode (zb m_M_agreeing) 37 = .ok (.iload_n 1, 1) := by decide +kernel
theorem d_M_agreeing_38 : decode (zb m_M_agreeing) 38 = .ok (.invokevirtual 189, 3) := by decide +kernel
theorem d_M_agreeing_41 : decode (zb m_M_agreeing) 41 = .ok (.goto 6, 3) := by decide +kernel
theorem d_M_agreeing_44 : decode (zb m_M_agreeing) 44 = .ok (.ldc2_w 185, 3) := by decide +kernel
theorem d_M_agreeing_47 : decode (zb m_M_agreeing) 47 = .ok (.lreturn, 1) := by decide +kernel
theorem d_M_asked_0 : decode (zb m_M_asked) 0 = .ok (.aload_n 0, 1) := by decide +kernel
theorem d_M_asked_1 : decode (zb m_M_asked) 1 = .ok (.getfield 98, 3) := by decide +kernel
theorem d_M_asked_4 : decode (zb m_M_asked) 4 = .ok (.ifCond .ne 6, 3) := by decide +kernel
theorem d_M_asked_7 : decode (zb m_M_asked) 7 = .ok (.bipush (-3), 2) := by decide +kernel
theorem d_M_asked_9 : decode (zb m_M_asked) 9 = .ok (.ireturn, 1) := by decide +kernel
theorem d_M_asked_10 : decode (zb m_M_asked) 10 = .ok (.bipush (-6), 2) := by decide +kernel
theorem d_M_asked_12 : decode (zb m_M_asked) 12 = .ok (.istore_n 1, 1) := by decide +kernel
theorem d_M_asked_13 : decode (zb m_M_asked) 13 = .ok (.lconst 0, 1) := by decide +kernel
theorem d_M_asked_14 : decode (zb m_M_asked) 14 = .ok (.lstore_n 2, 1) := by decide +kernel
theorem d_M_asked_15 : decode (zb m_M_asked) 15 = .ok (.aload_n 0, 1) := by decide +kernel
theorem d_M_asked_16 : decode (zb m_M_asked) 16 = .ok (.invokevirtual 172, 3) := by decide +kernel
theorem d_M_asked_19 : decode (zb m_M_asked) 19 = .ok (.istore 4, 2) := by decide +kernel
theorem d_M_asked_21 : decode (zb m_M_asked) 21 = .ok (.iconst 0, 1) := by decide +kernel
theorem d_M_asked_22 : decode (zb m_M_asked) 22 = .ok (.istore 5, 2) := by decide +kernel
theorem d_M_asked_24 : decode (zb m_M_asked) 24 = .ok (.iload 5, 2) := by decide +kernel
theorem d_M_asked_26 : decode (zb m_M_asked) 26 = .ok (.aload_n 0, 1) := by decide +kernel
theorem d_M_asked_27 : decode (zb m_M_asked) 27 = .ok (.getfield 101, 3) := by decide +kernel
theorem d_M_asked_30 : decode (zb m_M_asked) 30 = .ok (.if_icmp .ge 46, 3) := by decide +kernel
theorem d_M_asked_33 : decode (zb m_M_asked) 33 = .ok (.iload 4, 2) := by decide +kernel
theorem d_M_asked_35 : decode (zb m_M_asked) 35 = .ok (.ifCond .eq 41, 3) := by decide +kernel
theorem d_M_asked_38 : decode (zb m_M_asked) 38 = .ok (.aload_n 0, 1) := by decide +kernel
theorem d_M_asked_39 : decode (zb m_M_asked) 39 = .ok (.iload 5, 2) := by decide +kernel
theorem d_M_asked_41 : decode (zb m_M_asked) 41 = .ok (.invokevirtual 189, 3) := by decide +kernel
theorem d_M_asked_44 : decode (zb m_M_asked) 44 = .ok (.lstore 6, 2) := by decide +kernel
theorem d_M_asked_46 : decode (zb m_M_asked) 46 = .ok (.lload 6, 2) := by decide +kernel
theorem d_M_asked_48 : decode (zb m_M_asked) 48 = .ok (.lconst 0, 1) := by decide +kernel
theorem d_M_asked_49 : decode (zb m_M_asked) 49 = .ok (.lcmp, 1) := by decide +kernel
theorem d_M_asked_50 : decode (zb m_M_asked) 50 = .ok (.ifCond .lt 20, 3) := by decide +kernel
theorem d_M_asked_53 : decode (zb m_M_asked) 53 = .ok (.iload_n 1, 1) := by decide +kernel
theorem d_M_asked_54 : decode (zb m_M_asked) 54 = .ok (.ifCond .lt 10, 3) := by decide +kernel
theorem d_M_asked_57 : decode (zb m_M_asked) 57 = .ok (.lload 6, 2) := by decide +kernel
theorem d_M_asked_59 : decode (zb m_M_asked) 59 = .ok (.lload_n 2, 1) := by decide +kernel
theorem d_M_asked_60 : decode (zb m_M_asked) 60 = .ok (.lcmp, 1) := by decide +kernel
theorem d_M_asked_61 : decode (zb m_M_asked) 61 = .ok (.ifCond .ge 9, 3) := by decide +kernel
theorem d_M_asked_64 : decode (zb m_M_asked) 64 = .ok (.iload 5, 2) := by decide +kernel
theorem d_M_asked_66 : decode (zb m_M_asked) 66 = .ok (.istore_n 1, 1) := by decide +kernel
theorem d_M_asked_67 : decode (zb m_M_asked) 67 = .ok (.lload 6, 2) := by decide +kernel
theorem d_M_asked_69 : decode (zb m_M_asked) 69 = .ok (.lstore_n 2, 1) := by decide +kernel
theorem d_M_asked_70 : decode (zb m_M_asked) 70 = .ok (.iinc 5 1, 3) := by decide +kernel
theorem d_M_asked_73 : decode (zb m_M_asked) 73 = .ok (.goto (-49), 3) := by decide +kernel
theorem d_M_asked_76 : decode (zb m_M_asked) 76 = .ok (.iload_n 1, 1) := by decide +kernel
theorem d_M_asked_77 : decode (zb m_M_asked) 77 = .ok (.ireturn, 1) := by decide +kernel
theorem d_M_image_0 : decode (zb m_M_image) 0 = .ok (.iload_n 1, 1) := by decide +kernel
theorem d_M_image_1 : decode (zb m_M_image) 1 = .ok (.iconst 0, 1) := by decide +kernel
theorem d_M_image_2 : decode (zb m_M_image) 2 = .ok (.iconst 1, 1) := by decide +kernel
theorem d_M_image_3 : decode (zb m_M_image) 3 = .ok (.invokestatic 79, 3) := by decide +kernel
theorem d_M_image_6 : decode (zb m_M_image) 6 = .ok (.ifCond .ne 6, 3) := by decide +kernel
theorem d_M_image_9 : decode (zb m_M_image) 9 = .ok (.bipush (-2), 2) := by decide +kernel
theorem d_M_image_11 : decode (zb m_M_image) 11 = .ok (.ireturn, 1) := by decide +kernel
theorem d_M_image_12 : decode (zb m_M_image) 12 = .ok (.sipush 150, 3) := by decide +kernel
theorem d_M_image_15 : decode (zb m_M_image) 15 = .ok (.iload_n 1, 1) := by decide +kernel
theorem d_M_image_16 : decode (zb m_M_image) 16 = .ok (.imul, 1) := by decide +kernel
theorem d_M_image_17 : decode (zb m_M_image) 17 = .ok (.istore_n 2, 1) := by decide +kernel
theorem d_M_image_18 : decode (zb m_M_image) 18 = .ok (.iconst 0, 1) := by decide +kernel
theorem d_M_image_19 : decode (zb m_M_image) 19 = .ok (.istore_n 3, 1) := by decide +kernel
theorem d_M_image_20 : decode (zb m_M_image) 20 = .ok (.iload_n 3, 1) := by decide +kernel
theorem d_M_image_21 : decode (zb m_M_image) 21 = .ok (.bipush 72, 2) := by decide +kernel
theorem d_M_image_23 : decode (zb m_M_image) 23 = .ok (.if_icmp .ge 23, 3) := by decide +kernel
theorem d_M_image_26 : decode (zb m_M_image) 26 = .ok (.aload_n 0, 1) := by decide +kernel
theorem d_M_image_27 : decode (zb m_M_image) 27 = .ok (.getfield 68, 3) := by decide +kernel
theorem d_M_image_30 : decode (zb m_M_image) 30 = .ok (.iload_n 2, 1) := by decide +kernel
theorem d_M_image_31 : decode (zb m_M_image) 31 = .ok (.iload_n 3, 1) := by decide +kernel
theorem d_M_image_32 : decode (zb m_M_image) 32 = .ok (.iadd, 1) := by decide +kernel
theorem d_M_image_33 : decode (zb m_M_image) 33 = .ok (.aload_n 0, 1) := by decide +kernel
theorem d_M_image_34 : decode (zb m_M_image) 34 = .ok (.getfield 22, 3) := by decide +kernel
theorem d_M_image_37 : decode (zb m_M_image) 37 = .ok (.iload_n 3, 1) := by decide +kernel
theorem d_M_image_38 : decode (zb m_M_image) 38 = .ok (.iaload, 1) := by decide +kernel
theorem d_M_image_39 : decode (zb m_M_image) 39 = .ok (.iastore, 1) := by decide +kernel
theorem d_M_image_40 : decode (zb m_M_image) 40 = .ok (.iinc 3 1, 3) := by decide +kernel
theorem d_M_image_43 : decode (zb m_M_image) 43 = .ok (.goto (-23), 3) := by decide +kernel
theorem d_M_image_46 : decode (zb m_M_image) 46 = .ok (.iconst 0, 1) := by decide +kernel
theorem d_M_image_47 : decode (zb m_M_image) 47 = .ok (.istore_n 3, 1) := by decide +kernel
theorem d_M_image_48 : decode (zb m_M_image) 48 = .ok (.iload_n 3, 1) := by decide +kernel
theorem d_M_image_49 : decode (zb m_M_image) 49 = .ok (.bipush 36, 2) := by decide +kernel
theorem d_M_image_51 : decode (zb m_M_image) 51 = .ok (.if_icmp .ge 26, 3) := by decide +kernel
theorem d_M_image_54 : decode (zb m_M_image) 54 = .ok (.aload_n 0, 1) := by decide +kernel
theorem d_M_image_55 : decode (zb m_M_image) 55 = .ok (.getfield 68, 3) := by decide +kernel
theorem d_M_image_58 : decode (zb m_M_image) 58 = .ok (.iload_n 2, 1) := by decide +kernel
theorem d_M_image_59 : decode (zb m_M_image) 59 = .ok (.bipush 72, 2) := by decide +kernel
theorem d_M_image_61 : decode (zb m_M_image) 61 = .ok (.iadd, 1) := by decide +kernel
theorem d_M_image_62 : decode (zb m_M_image) 62 = .ok (.iload_n 3, 1) := by decide +kernel
theorem d_M_image_63 : decode (zb m_M_image) 63 = .ok (.iadd, 1) := by decide +kernel
theorem d_M_image_64 : decode (zb m_M_image) 64 = .ok (.aload_n 0, 1) := by decide +kernel
theorem d_M_image_65 : decode (zb m_M_image) 65 = .ok (.getfield 7, 3) := by decide +kernel
theorem d_M_image_68 : decode (zb m_M_image) 68 = .ok (.iload_n 3, 1) := by decide +kernel
theorem d_M_image_69 : decode (zb m_M_image) 69 = .ok (.iaload, 1) := by decide +kernel
theorem d_M_image_70 : decode (zb m_M_image) 70 = .ok (.iastore, 1) := by decide +kernel
theorem d_M_image_71 : decode (zb m_M_image) 71 = .ok (.iinc 3 1, 3) := by decide +kernel
theorem d_M_image_74 : decode (zb m_M_image) 74 = .ok (.goto (-26), 3) := by decide +kernel
theorem d_M_image_77 : decode (zb m_M_image) 77 = .ok (.iconst 0, 1) := by decide +kernel
theorem d_M_image_78 : decode (zb m_M_image) 78 = .ok (.istore_n 3, 1) := by decide +kernel
theorem d_M_image_79 : decode (zb m_M_image) 79 = .ok (.iload_n 3, 1) := by decide +kernel
theorem d_M_image_80 : decode (zb m_M_image) 80 = .ok (.bipush 15, 2) := by decide +kernel
theorem d_M_image_82 : decode (zb m_M_image) 82 = .ok (.if_icmp .ge 26, 3) := by decide +kernel
theorem d_M_image_85 : decode (zb m_M_image) 85 = .ok (.aload_n 0, 1) := by decide +kernel
theorem d_M_image_86 : decode (zb m_M_image) 86 = .ok (.getfield 68, 3) := by decide +kernel
theorem d_M_image_89 : decode (zb m_M_image) 89 = .ok (.iload_n 2, 1) := by decide +kernel
theorem d_M_image_90 : decode (zb m_M_image) 90 = .ok (.bipush 108, 2) := by decide +kernel
theorem d_M_image_92 : decode (zb m_M_image) 92 = .ok (.iadd, 1) := by decide +kernel
theorem d_M_image_93 : decode (zb m_M_image) 93 = .ok (.iload_n 3, 1) := by decide +kernel
theorem d_M_image_94 : decode (zb m_M_image) 94 = .ok (.iadd, 1) := by decide +kernel
theorem d_M_image_95 : decode (zb m_M_image) 95 = .ok (.aload_n 0, 1) := by decide +kernel
theorem d_M_image_96 : decode (zb m_M_image) 96 = .ok (.getfield 16, 3) := by decide +kernel
theorem d_M_image_99 : decode (zb m_M_image) 99 = .ok (.iload_n 3, 1) := by decide +kernel
theorem d_M_image_100 : decode (zb m_M_image) 100 = .ok (.iaload, 1) := by decide +kernel
theorem d_M_image_101 : decode (zb m_M_image) 101 = .ok (.iastore, 1) := by decide +kernel
theorem d_M_image_102 : decode (zb m_M_image) 102 = .ok (.iinc 3 1, 3) := by decide +kernel
theorem d_M_image_105 : decode (zb m_M_image) 105 = .ok (.goto (-26), 3) := by decide +kernel
theorem d_M_image_108 : decode (zb m_M_image) 108 = .ok (.iconst 0, 1) := by decide +kernel
theorem d_M_image_109 : decode (zb m_M_image) 109 = .ok (.istore_n 3, 1) := by decide +kernel
theorem d_M_image_110 : decode (zb m_M_image) 110 = .ok (.iload_n 3, 1) := by decide +kernel
theorem d_M_image_111 : decode (zb m_M_image) 111 = .ok (.bipush 6, 2) := by decide +kernel
theorem d_M_image_113 : decode (zb m_M_image) 113 = .ok (.if_icmp .ge 26, 3) := by decide +kernel
theorem d_M_image_116 : decode (zb m_M_image) 116 = .ok (.aload_n 0, 1) := by decide +kernel
theorem d_M_image_117 : decode (zb m_M_image) 117 = .ok (.getfield 68, 3) := by decide +kernel
theorem d_M_image_120 : decode (zb m_M_image) 120 = .ok (.iload_n 2, 1) := by decide +kernel
theorem d_M_image_121 : decode (zb m_M_image) 121 = .ok (.bipush 124, 2) := by decide +kernel
theorem d_M_image_123 : decode (zb m_M_image) 123 = .ok (.iadd, 1) := by decide +kernel
theorem d_M_image_124 : decode (zb m_M_image) 124 = .ok (.iload_n 3, 1) := by decide +kernel
theorem d_M_image_125 : decode (zb m_M_image) 125 = .ok (.iadd, 1) := by decide +kernel
theorem d_M_image_126 : decode (zb m_M_image) 126 = .ok (.aload_n 0, 1) := by decide +kernel
theorem d_M_image_127 : decode (zb m_M_image) 127 = .ok (.getfield 25, 3) := by decide +kernel
theorem d_M_image_130 : decode (zb m_M_image) 130 = .ok (.iload_n 3, 1) := by decide +kernel
theorem d_M_image_131 : decode (zb m_M_image) 131 = .ok (.iaload, 1) := by decide +kernel
theorem d_M_image_132 : decode (zb m_M_image) 132 = .ok (.iastore, 1) := by decide +kernel
theorem d_M_image_133 : decode (zb m_M_image) 133 = .ok (.iinc 3 1, 3) := by decide +kernel
theorem d_M_image_136 : decode (zb m_M_image) 136 = .ok (.goto (-26), 3) := by decide +kernel
theorem d_M_image_139 : decode (zb m_M_image) 139 = .ok (.iconst 0, 1) := by decide +kernel
theorem d_M_image_140 : decode (zb m_M_image) 140 = .ok (.istore_n 3, 1) := by decide +kernel
theorem d_M_image_141 : decode (zb m_M_image) 141 = .ok (.iload_n 3, 1) := by decide +kernel
theorem d_M_image_142 : decode (zb m_M_image) 142 = .ok (.iconst 3, 1) := by decide +kernel
theorem d_M_image_143 : decode (zb m_M_image) 143 = .ok (.if_icmp .ge 45, 3) := by decide +kernel
theorem d_M_image_146 : decode (zb m_M_image) 146 = .ok (.aload_n 0, 1) := by decide +kernel
theorem d_M_image_147 : decode (zb m_M_image) 147 = .ok (.getfield 68, 3) := by decide +kernel
theorem d_M_image_150 : decode (zb m_M_image) 150 = .ok (.iload_n 2, 1) := by decide +kernel
theorem d_M_image_151 : decode (zb m_M_image) 151 = .ok (.sipush 132, 3) := by decide +kernel
theorem d_M_image_154 : decode (zb m_M_image) 154 = .ok (.iadd, 1) := by decide +kernel
theorem d_M_image_155 : decode (zb m_M_image) 155 = .ok (.iload_n 3, 1) := by decide +kernel
theorem d_M_image_156 : decode (zb m_M_image) 156 = .ok (.iadd, 1) := by decide +kernel
theorem d_M_image_157 : decode (zb m_M_image) 157 = .ok (.aload_n 0, 1) := by decide +kernel
theorem d_M_image_158 : decode (zb m_M_image) 158 = .ok (.getfield 13, 3) := by decide +kernel
theorem d_M_image_161 : decode (zb m_M_image) 161 = .ok (.iload_n 3, 1) := by decide +kernel
theorem d_M_image_162 : decode (zb m_M_image) 162 = .ok (.iaload, 1) := by decide +kernel
theorem d_M_image_163 : decode (zb m_M_image) 163 = .ok (.iastore, 1) := by decide +kernel
theorem d_M_image_164 : decode (zb m_M_image) 164 = .ok (.aload_n 0, 1) := by decide +kernel
theorem d_M_image_165 : decode (zb m_M_image) 165 = .ok (.getfield 68, 3) := by decide +kernel
theorem d_M_image_168 : decode (zb m_M_image) 168 = .ok (.iload_n 2, 1) := by decide +kernel
theorem d_M_image_169 : decode (zb m_M_image) 169 = .ok (.sipush 136, 3) := by decide +kernel
theorem d_M_image_172 : decode (zb m_M_image) 172 = .ok (.iadd, 1) := by decide +kernel
theorem d_M_image_173 : decode (zb m_M_image) 173 = .ok (.iload_n 3, 1) := by decide +kernel
theorem d_M_image_174 : decode (zb m_M_image) 174 = .ok (.iadd, 1) := by decide +kernel
theorem d_M_image_175 : decode (zb m_M_image) 175 = .ok (.aload_n 0, 1) := by decide +kernel
theorem d_M_image_176 : decode (zb m_M_image) 176 = .ok (.getfield 19, 3) := by decide +kernel
theorem d_M_image_179 : decode (zb m_M_image) 179 = .ok (.iload_n 3, 1) := by decide +kernel
theorem d_M_image_180 : decode (zb m_M_image) 180 = .ok (.iaload, 1) := by decide +kernel
theorem d_M_image_181 : decode (zb m_M_image) 181 = .ok (.iastore, 1) := by decide +kernel
theorem d_M_image_182 : decode (zb m_M_image) 182 = .ok (.iinc 3 1, 3) := by decide +kernel
theorem d_M_image_185 : decode (zb m_M_image) 185 = .ok (.goto (-44), 3) := by decide +kernel
theorem d_M_image_188 : decode (zb m_M_image) 188 = .ok (.aload_n 0, 1) := by decide +kernel
theorem d_M_image_189 : decode (zb m_M_image) 189 = .ok (.getfield 68, 3) := by decide +kernel
theorem d_M_image_192 : decode (zb m_M_image) 192 = .ok (.iload_n 2, 1) := by decide +kernel
theorem d_M_image_193 : decode (zb m_M_image) 193 = .ok (.sipush 140, 3) := by decide +kernel
theorem d_M_image_196 : decode (zb m_M_image) 196 = .ok (.iadd, 1) := by decide +kernel
theorem d_M_image_197 : decode (zb m_M_image) 197 = .ok (.aload_n 0, 1) := by decide +kernel
theorem d_M_image_198 : decode (zb m_M_image) 198 = .ok (.getfield 98, 3) := by decide +kernel
theorem d_M_image_201 : decode (zb m_M_image) 201 = .ok (.iastore, 1) := by decide +kernel
theorem d_M_image_202 : decode (zb m_M_image) 202 = .ok (.aload_n 0, 1) := by decide +kernel
theorem d_M_image_203 : decode (zb m_M_image) 203 = .ok (.getfield 68, 3) := by decide +kernel
theorem d_M_image_206 : decode (zb m_M_image) 206 = .ok (.iload_n 2, 1) := by decide +kernel
theorem d_M_image_207 : decode (zb m_M_image) 207 = .ok (.sipush 141, 3) := by decide +kernel
theorem d_M_image_210 : decode (zb m_M_image) 210 = .ok (.iadd, 1) := by decide +kernel
theorem d_M_image_211 : decode (zb m_M_image) 211 = .ok (.aload_n 0, 1) := by decide +kernel
theorem d_M_image_212 : decode (zb m_M_image) 212 = .ok (.getfield 101, 3) := by decide +kernel
theorem d_M_image_215 : decode (zb m_M_image) 215 = .ok (.iastore, 1) := by decide +kernel
theorem d_M_image_216 : decode (zb m_M_image) 216 = .ok (.aload_n 0, 1) := by decide +kernel
theorem d_M_image_217 : decode (zb m_M_image) 217 = .ok (.getfield 71, 3) := by decide +kernel
theorem d_M_image_220 : decode (zb m_M_image) 220 = .ok (.iload_n 1, 1) := by decide +kernel
theorem d_M_image_221 : decode (zb m_M_image) 221 = .ok (.iconst 1, 1) := by decide +kernel
theorem d_M_image_222 : decode (zb m_M_image) 222 = .ok (.bastore, 1) := by decide +kernel
theorem d_M_image_223 : decode (zb m_M_image) 223 = .ok (.iconst 1, 1) := by decide +kernel
theorem d_M_image_224 : decode (zb m_M_image) 224 = .ok (.ireturn, 1) := by decide +kernel
theorem d_M_restore_0 : decode (zb m_M_restore) 0 = .ok (.iload_n 1, 1) := by decide +kernel
theorem d_M_restore_1 : decode (zb m_M_restore) 1 = .ok (.iconst 0, 1) := by decide +kernel
theorem d_M_restore_2 : decode (zb m_M_restore) 2 = .ok (.iconst 1, 1) := by decide +kernel
theorem d_M_restore_3 : decode (zb m_M_restore) 3 = .ok (.invokestatic 79, 3) := by decide +kernel
theorem d_M_restore_6 : decode (zb m_M_restore) 6 = .ok (.ifCond .ne 6, 3) := by decide +kernel
theorem d_M_restore_9 : decode (zb m_M_restore) 9 = .ok (.bipush (-2), 2) := by decide +kernel
theorem d_M_restore_11 : decode (zb m_M_restore) 11 = .ok (.ireturn, 1) := by decide +kernel
theorem d_M_restore_12 : decode (zb m_M_restore) 12 = .ok (.aload_n 0, 1) := by decide +kernel
theorem d_M_restore_13 : decode (zb m_M_restore) 13 = .ok (.getfield 71, 3) := by decide +kernel
theorem d_M_restore_16 : decode (zb m_M_restore) 16 = .ok (.iload_n 1, 1) := by decide +kernel
theorem d_M_restore_17 : decode (zb m_M_restore) 17 = .ok (.baload, 1) := by decide +kernel
theorem d_M_restore_18 : decode (zb m_M_restore) 18 = .ok (.ifCond .ne 6, 3) := by decide +kernel
theorem d_M_restore_21 : decode (zb m_M_restore) 21 = .ok (.bipush (-3), 2) := by decide +kernel
theorem d_M_restore_23 : decode (zb m_M_restore) 23 = .ok (.ireturn, 1) := by decide +kernel
theorem d_M_restore_24 : decode (zb m_M_restore) 24 = .ok (.sipush 150, 3) := by decide +kernel
theorem d_M_restore_27 : decode (zb m_M_restore) 27 = .ok (.iload_n 1, 1) := by decide +kernel
theorem d_M_restore_28 : decode (zb m_M_restore) 28 = .ok (.imul, 1) := by decide +kernel
theorem d_M_restore_29 : decode (zb m_M_restore) 29 = .ok (.istore_n 2, 1) := by decide +kernel
theorem d_M_restore_30 : decode (zb m_M_restore) 30 = .ok (.iconst 0, 1) := by decide +kernel
theorem d_M_restore_31 : decode (zb m_M_restore) 31 = .ok (.istore_n 3, 1) := by decide +kernel
theorem d_M_restore_32 : decode (zb m_M_restore) 32 = .ok (.iload_n 3, 1) := by decide +kernel
theorem d_M_restore_33 : decode (zb m_M_restore) 33 = .ok (.bipush 72, 2) := by decide +kernel
theorem d_M_restore_35 : decode (zb m_M_restore) 35 = .ok (.if_icmp .ge 23, 3) := by decide +kernel
theorem d_M_restore_38 : decode (zb m_M_restore) 38 = .ok (.aload_n 0, 1) := by decide +kernel
theorem d_M_restore_39 : decode (zb m_M_restore) 39 = .ok (.getfield 22, 3) := by decide +kernel
theorem d_M_restore_42 : decode (zb m_M_restore) 42 = .ok (.iload_n 3, 1) := by decide +kernel
theorem d_M_restore_43 : decode (zb m_M_restore) 43 = .ok (.aload_n 0, 1) := by decide +kernel
theorem d_M_restore_44 : decode (zb m_M_restore) 44 = .ok (.getfield 68, 3) := by decide +kernel
theorem d_M_restore_47 : decode (zb m_M_restore) 47 = .ok (.iload_n 2, 1) := by decide +kernel
theorem d_M_restore_48 : decode (zb m_M_restore) 48 = .ok (.iload_n 3, 1) := by decide +kernel
theorem d_M_restore_49 : decode (zb m_M_restore) 49 = .ok (.iadd, 1) := by decide +kernel
theorem d_M_restore_50 : decode (zb m_M_restore) 50 = .ok (.iaload, 1) := by decide +kernel
theorem d_M_restore_51 : decode (zb m_M_restore) 51 = .ok (.iastore, 1) := by decide +kernel
theorem d_M_restore_52 : decode (zb m_M_restore) 52 = .ok (.iinc 3 1, 3) := by decide +kernel
theorem d_M_restore_55 : decode (zb m_M_restore) 55 = .ok (.goto (-23), 3) := by decide +kernel
theorem d_M_restore_58 : decode (zb m_M_restore) 58 = .ok (.iconst 0, 1) := by decide +kernel
theorem d_M_restore_59 : decode (zb m_M_restore) 59 = .ok (.istore_n 3, 1) := by decide +kernel
theorem d_M_restore_60 : decode (zb m_M_restore) 60 = .ok (.iload_n 3, 1) := by decide +kernel
theorem d_M_restore_61 : decode (zb m_M_restore) 61 = .ok (.bipush 36, 2) := by decide +kernel
theorem d_M_restore_63 : decode (zb m_M_restore) 63 = .ok (.if_icmp .ge 26, 3) := by decide +kernel
theorem d_M_restore_66 : decode (zb m_M_restore) 66 = .ok (.aload_n 0, 1) := by decide +kernel
theorem d_M_restore_67 : decode (zb m_M_restore) 67 = .ok (.getfield 7, 3) := by decide +kernel
theorem d_M_restore_70 : decode (zb m_M_restore) 70 = .ok (.iload_n 3, 1) := by decide +kernel
theorem d_M_restore_71 : decode (zb m_M_restore) 71 = .ok (.aload_n 0, 1) := by decide +kernel
theorem d_M_restore_72 : decode (zb m_M_restore) 72 = .ok (.getfield 68, 3) := by decide +kernel
theorem d_M_restore_75 : decode (zb m_M_restore) 75 = .ok (.iload_n 2, 1) := by decide +kernel
theorem d_M_restore_76 : decode (zb m_M_restore) 76 = .ok (.bipush 72, 2) := by decide +kernel
theorem d_M_restore_78 : decode (zb m_M_restore) 78 = .ok (.iadd, 1) := by decide +kernel
theorem d_M_restore_79 : decode (zb m_M_restore) 79 = .ok (.iload_n 3, 1) := by decide +kernel
theorem d_M_restore_80 : decode (zb m_M_restore) 80 = .ok (.iadd, 1) := by decide +kernel
theorem d_M_restore_81 : decode (zb m_M_restore) 81 = .ok (.iaload, 1) := by decide +kernel
theorem d_M_restore_82 : decode (zb m_M_restore) 82 = .ok (.iastore, 1) := by decide +kernel
theorem d_M_restore_83 : decode (zb m_M_restore) 83 = .ok (.iinc 3 1, 3) := by decide +kernel
theorem d_M_restore_86 : decode (zb m_M_restore) 86 = .ok (.goto (-26), 3) := by decide +kernel
theorem d_M_restore_89 : decode (zb m_M_restore) 89 = .ok (.iconst 0, 1) := by decide +kernel
theorem d_M_restore_90 : decode (zb m_M_restore) 90 = .ok (.istore_n 3, 1) := by decide +kernel
theorem d_M_restore_91 : decode (zb m_M_restore) 91 = .ok (.iload_n 3, 1) := by decide +kernel
theorem d_M_restore_92 : decode (zb m_M_restore) 92 = .ok (.bipush 15, 2) := by decide +kernel
theorem d_M_restore_94 : decode (zb m_M_restore) 94 = .ok (.if_icmp .ge 26, 3) := by decide +kernel
theorem d_M_restore_97 : decode (zb m_M_restore) 97 = .ok (.aload_n 0, 1) := by decide +kernel
theorem d_M_restore_98 : decode (zb m_M_restore) 98 = .ok (.getfield 16, 3) := by decide +kernel
theorem d_M_restore_101 : decode (zb m_M_restore) 101 = .ok (.iload_n 3, 1) := by decide +kernel
theorem d_M_restore_102 : decode (zb m_M_restore) 102 = .ok (.aload_n 0, 1) := by decide +kernel
theorem d_M_restore_103 : decode (zb m_M_restore) 103 = .ok (.getfield 68, 3) := by decide +kernel
theorem d_M_restore_106 : decode (zb m_M_restore) 106 = .ok (.iload_n 2, 1) := by decide +kernel
theorem d_M_restore_107 : decode (zb m_M_restore) 107 = .ok (.bipush 108, 2) := by decide +kernel
theorem d_M_restore_109 : decode (zb m_M_restore) 109 = .ok (.iadd, 1) := by decide +kernel
theorem d_M_restore_110 : decode (zb m_M_restore) 110 = .ok (.iload_n 3, 1) := by decide +kernel
theorem d_M_restore_111 : decode (zb m_M_restore) 111 = .ok (.iadd, 1) := by decide +kernel
theorem d_M_restore_112 : decode (zb m_M_restore) 112 = .ok (.iaload, 1) := by decide +kernel
theorem d_M_restore_113 : decode (zb m_M_restore) 113 = .ok (.iastore, 1) := by decide +kernel
theorem d_M_restore_114 : decode (zb m_M_restore) 114 = .ok (.iinc 3 1, 3) := by decide +kernel
theorem d_M_restore_117 : decode (zb m_M_restore) 117 = .ok (.goto (-26), 3) := by decide +kernel
theorem d_M_restore_120 : decode (zb m_M_restore) 120 = .ok (.iconst 0, 1) := by decide +kernel
theorem d_M_restore_121 : decode (zb m_M_restore) 121 = .ok (.istore_n 3, 1) := by decide +kernel
theorem d_M_restore_122 : decode (zb m_M_restore) 122 = .ok (.iload_n 3, 1) := by decide +kernel
theorem d_M_restore_123 : decode (zb m_M_restore) 123 = .ok (.bipush 6, 2) := by decide +kernel
theorem d_M_restore_125 : decode (zb m_M_restore) 125 = .ok (.if_icmp .ge 26, 3) := by decide +kernel
theorem d_M_restore_128 : decode (zb m_M_restore) 128 = .ok (.aload_n 0, 1) := by decide +kernel
theorem d_M_restore_129 : decode (zb m_M_restore) 129 = .ok (.getfield 25, 3) := by decide +kernel
theorem d_M_restore_132 : decode (zb m_M_restore) 132 = .ok (.iload_n 3, 1) := by decide +kernel
theorem d_M_restore_133 : decode (zb m_M_restore) 133 = .ok (.aload_n 0, 1) := by decide +kernel
theorem d_M_restore_134 : decode (zb m_M_restore) 134 = .ok (.getfield 68, 3) := by decide +kernel
theorem d_M_restore_137 : decode (zb m_M_restore) 137 = .ok (.iload_n 2, 1) := by decide +kernel
theorem d_M_restore_138 : decode (zb m_M_restore) 138 = .ok (.bipush 124, 2) := by decide +kernel
theorem d_M_restore_140 : decode (zb m_M_restore) 140 = .ok (.iadd, 1) := by decide +kernel
theorem d_M_restore_141 : decode (zb m_M_restore) 141 = .ok (.iload_n 3, 1) := by decide +kernel
theorem d_M_restore_142 : decode (zb m_M_restore) 142 = .ok (.iadd, 1) := by decide +kernel
theorem d_M_restore_143 : decode (zb m_M_restore) 143 = .ok (.iaload, 1) := by decide +kernel
theorem d_M_restore_144 : decode (zb m_M_restore) 144 = .ok (.iastore, 1) := by decide +kernel
theorem d_M_restore_145 : decode (zb m_M_restore) 145 = .ok (.iinc 3 1, 3) := by decide +kernel
theorem d_M_restore_148 : decode (zb m_M_restore) 148 = .ok (.goto (-26), 3) := by decide +kernel
theorem d_M_restore_151 : decode (zb m_M_restore) 151 = .ok (.iconst 0, 1) := by decide +kernel
theorem d_M_restore_152 : decode (zb m_M_restore) 152 = .ok (.istore_n 3, 1) := by decide +kernel
theorem d_M_restore_153 : decode (zb m_M_restore) 153 = .ok (.iload_n 3, 1) := by decide +kernel
theorem d_M_restore_154 : decode (zb m_M_restore) 154 = .ok (.iconst 3, 1) := by decide +kernel
theorem d_M_restore_155 : decode (zb m_M_restore) 155 = .ok (.if_icmp .ge 45, 3) := by decide +kernel
theorem d_M_restore_158 : decode (zb m_M_restore) 158 = .ok (.aload_n 0, 1) := by decide +kernel
theorem d_M_restore_159 : decode (zb m_M_restore) 159 = .ok (.getfield 13, 3) := by decide +kernel
theorem d_M_restore_162 : decode (zb m_M_restore) 162 = .ok (.iload_n 3, 1) := by decide +kernel
theorem d_M_restore_163 : decode (zb m_M_restore) 163 = .ok (.aload_n 0, 1) := by decide +kernel
theorem d_M_restore_164 : decode (zb m_M_restore) 164 = .ok (.getfield 68, 3) := by decide +kernel
theorem d_M_restore_167 : decode (zb m_M_restore) 167 = .ok (.iload_n 2, 1) := by decide +kernel
theorem d_M_restore_168 : decode (zb m_M_restore) 168 = .ok (.sipush 132, 3) := by decide +kernel
theorem d_M_restore_171 : decode (zb m_M_restore) 171 = .ok (.iadd, 1) := by decide +kernel
theorem d_M_restore_172 : decode (zb m_M_restore) 172 = .ok (.iload_n 3, 1) := by decide +kernel
theorem d_M_restore_173 : decode (zb m_M_restore) 173 = .ok (.iadd, 1) := by decide +kernel
theorem d_M_restore_174 : decode (zb m_M_restore) 174 = .ok (.iaload, 1) := by decide +kernel
theorem d_M_restore_175 : decode (zb m_M_restore) 175 = .ok (.iastore, 1) := by decide +kernel
theorem d_M_restore_176 : decode (zb m_M_restore) 176 = .ok (.aload_n 0, 1) := by decide +kernel
theorem d_M_restore_177 : decode (zb m_M_restore) 177 = .ok (.getfield 19, 3) := by decide +kernel
theorem d_M_restore_180 : decode (zb m_M_restore) 180 = .ok (.iload_n 3, 1) := by decide +kernel
theorem d_M_restore_181 : decode (zb m_M_restore) 181 = .ok (.aload_n 0, 1) := by decide +kernel
theorem d_M_restore_182 : decode (zb m_M_restore) 182 = .ok (.getfield 68, 3) := by decide +kernel
theorem d_M_restore_185 : decode (zb m_M_restore) 185 = .ok (.iload_n 2, 1) := by decide +kernel
theorem d_M_restore_186 : decode (zb m_M_restore) 186 = .ok (.sipush 136, 3) := by decide +kernel
theorem d_M_restore_189 : decode (zb m_M_restore) 189 = .ok (.iadd, 1) := by decide +kernel
theorem d_M_restore_190 : decode (zb m_M_restore) 190 = .ok (.iload_n 3, 1) := by decide +kernel
theorem d_M_restore_191 : decode (zb m_M_restore) 191 = .ok (.iadd, 1) := by decide +kernel
theorem d_M_restore_192 : decode (zb m_M_restore) 192 = .ok (.iaload, 1) := by decide +kernel
theorem d_M_restore_193 : decode (zb m_M_restore) 193 = .ok (.iastore, 1) := by decide +kernel
theorem d_M_restore_194 : decode (zb m_M_restore) 194 = .ok (.iinc 3 1, 3) := by decide +kernel
theorem d_M_restore_197 : decode (zb m_M_restore) 197 = .ok (.goto (-44), 3) := by decide +kernel
theorem d_M_restore_200 : decode (zb m_M_restore) 200 = .ok (.aload_n 0, 1) := by decide +kernel
theorem d_M_restore_201 : decode (zb m_M_restore) 201 = .ok (.aload_n 0, 1) := by decide +kernel
theorem d_M_restore_202 : decode (zb m_M_restore) 202 = .ok (.getfield 68, 3) := by decide +kernel
theorem d_M_restore_205 : decode (zb m_M_restore) 205 = .ok (.iload_n 2, 1) := by decide +kernel
theorem d_M_restore_206 : decode (zb m_M_restore) 206 = .ok (.sipush 140, 3) := by decide +kernel
theorem d_M_restore_209 : decode (zb m_M_restore) 209 = .ok (.iadd, 1) := by decide +kernel
theorem d_M_restore_210 : decode (zb m_M_restore) 210 = .ok (.iaload, 1) := by decide +kernel
theorem d_M_restore_211 : decode (zb m_M_restore) 211 = .ok (.putfield 98, 3) := by decide +kernel
theorem d_M_restore_214 : decode (zb m_M_restore) 214 = .ok (.aload_n 0, 1) := by decide +kernel
theorem d_M_restore_215 : decode (zb m_M_restore) 215 = .ok (.aload_n 0, 1) := by decide +kernel
theorem d_M_restore_216 : decode (zb m_M_restore) 216 = .ok (.getfield 68, 3) := by decide +kernel
theorem d_M_restore_219 : decode (zb m_M_restore) 219 = .ok (.iload_n 2, 1) := by decide +kernel
theorem d_M_restore_220 : decode (zb m_M_restore) 220 = .ok (.sipush 141, 3) := by decide +kernel
theorem d_M_restore_223 : decode (zb m_M_restore) 223 = .ok (.iadd, 1) := by decide +kernel
theorem d_M_restore_224 : decode (zb m_M_restore) 224 = .ok (.iaload, 1) := by decide +kernel
theorem d_M_restore_225 : decode (zb m_M_restore) 225 = .ok (.putfield 101, 3) := by decide +kernel
theorem d_M_restore_228 : decode (zb m_M_restore) 228 = .ok (.iconst 1, 1) := by decide +kernel
theorem d_M_restore_229 : decode (zb m_M_restore) 229 = .ok (.ireturn, 1) := by decide +kernel
theorem d_M_told_0 : decode (zb m_M_told) 0 = .ok (.iload_n 1, 1) := by decide +kernel
theorem d_M_told_1 : decode (zb m_M_told) 1 = .ok (.bipush 30, 2) := by decide +kernel
theorem d_M_told_3 : decode (zb m_M_told) 3 = .ok (.if_icmp .lt 35, 3) := by decide +kernel
theorem d_M_told_6 : decode (zb m_M_told) 6 = .ok (.iload_n 1, 1) := by decide +kernel
theorem d_M_told_7 : decode (zb m_M_told) 7 = .ok (.bipush 30, 2) := by decide +kernel
theorem d_M_told_9 : decode (zb m_M_told) 9 = .ok (.isub, 1) := by decide +kernel
theorem d_M_told_10 : decode (zb m_M_told) 10 = .ok (.iconst 0, 1) := by decide +kernel
theorem d_M_told_11 : decode (zb m_M_told) 11 = .ok (.aload_n 0, 1) := by decide +kernel
theorem d_M_told_12 : decode (zb m_M_told) 12 = .ok (.getfield 101, 3) := by decide +kernel
theorem d_M_told_15 : decode (zb m_M_told) 15 = .ok (.iconst 1, 1) := by decide +kernel
theorem d_M_told_16 : decode (zb m_M_told) 16 = .ok (.isub, 1) := by decide +kernel
theorem d_M_told_17 : decode (zb m_M_told) 17 = .ok (.invokestatic 79, 3) := by decide +kernel
theorem d_M_told_20 : decode (zb m_M_told) 20 = .ok (.ifCond .eq 15, 3) := by decide +kernel
theorem d_M_told_23 : decode (zb m_M_told) 23 = .ok (.aload_n 0, 1) := by decide +kernel
theorem d_M_told_24 : decode (zb m_M_told) 24 = .ok (.getfield 25, 3) := by decide +kernel
theorem d_M_told_27 : decode (zb m_M_told) 27 = .ok (.iload_n 1, 1) := by decide +kernel
theorem d_M_told_28 : decode (zb m_M_told) 28 = .ok (.bipush 30, 2) := by decide +kernel
theorem d_M_told_30 : decode (zb m_M_told) 30 = .ok (.isub, 1) := by decide +kernel
theorem d_M_told_31 : decode (zb m_M_told) 31 = .ok (.iaload, 1) := by decide +kernel
theorem d_M_told_32 : decode (zb m_M_told) 32 = .ok (.goto 5, 3) := by decide +kernel
theorem d_M_told_35 : decode (zb m_M_told) 35 = .ok (.bipush (-2), 2) := by decide +kernel
theorem d_M_told_37 : decode (zb m_M_told) 37 = .ok (.ireturn, 1) := by decide +kernel
theorem d_M_told_38 : decode (zb m_M_told) 38 = .ok (.iload_n 1, 1) := by decide +kernel
theorem d_M_told_39 : decode (zb m_M_told) 39 = .ok (.bipush 20, 2) := by decide +kernel
theorem d_M_told_41 : decode (zb m_M_told) 41 = .ok (.if_icmp .lt 35, 3) := by decide +kernel
theorem d_M_told_44 : decode (zb m_M_told) 44 = .ok (.iload_n 1, 1) := by decide +kernel
theorem d_M_told_45 : decode (zb m_M_told) 45 = .ok (.bipush 20, 2) := by decide +kernel
theorem d_M_told_47 : decode (zb m_M_told) 47 = .ok (.isub, 1) := by decide +kernel
theorem d_M_told_48 : decode (zb m_M_told) 48 = .ok (.iconst 0, 1) := by decide +kernel
theorem d_M_told_49 : decode (zb m_M_told) 49 = .ok (.aload_n 0, 1) := by decide +kernel
theorem d_M_told_50 : decode (zb m_M_told) 50 = .ok (.getfield 98, 3) := by decide +kernel
theorem d_M_told_53 : decode (zb m_M_told) 53 = .ok (.iconst 1, 1) := by decide +kernel
theorem d_M_told_54 : decode (zb m_M_told) 54 = .ok (.isub, 1) := by decide +kernel
theorem d_M_told_55 : decode (zb m_M_told) 55 = .ok (.invokestatic 79, 3) := by decide +kernel
theorem d_M_told_58 : decode (zb m_M_told) 58 = .ok (.ifCond .eq 15, 3) := by decide +kernel
theorem d_M_told_61 : decode (zb m_M_told) 61 = .ok (.aload_n 0, 1) := by decide +kernel
theorem d_M_told_62 : decode (zb m_M_told) 62 = .ok (.getfield 19, 3) := by decide +kernel
theorem d_M_told_65 : decode (zb m_M_told) 65 = .ok (.iload_n 1, 1) := by decide +kernel
theorem d_M_told_66 : decode (zb m_M_told) 66 = .ok (.bipush 20, 2) := by decide +kernel
theorem d_M_told_68 : decode (zb m_M_told) 68 = .ok (.isub, 1) := by decide +kernel
theorem d_M_told_69 : decode (zb m_M_told) 69 = .ok (.iaload, 1) := by decide +kernel
theorem d_M_told_70 : decode (zb m_M_told) 70 = .ok (.goto 5, 3) := by decide +kernel
theorem d_M_told_73 : decode (zb m_M_told) 73 = .ok (.bipush (-2), 2) := by decide +kernel
theorem d_M_told_75 : decode (zb m_M_told) 75 = .ok (.ireturn, 1) := by decide +kernel
theorem d_M_told_76 : decode (zb m_M_told) 76 = .ok (.iload_n 1, 1) := by decide +kernel
theorem d_M_told_77 : decode (zb m_M_told) 77 = .ok (.bipush 10, 2) := by decide +kernel
theorem d_M_told_79 : decode (zb m_M_told) 79 = .ok (.if_icmp .lt 35, 3) := by decide +kernel
theorem d_M_told_82 : decode (zb m_M_told) 82 = .ok (.iload_n 1, 1) := by decide +kernel
theorem d_M_told_83 : decode (zb m_M_told) 83 = .ok (.bipush 10, 2) := by decide +kernel
theorem d_M_told_85 : decode (zb m_M_told) 85 = .ok (.isub, 1) := by decide +kernel
theorem d_M_told_86 : decode (zb m_M_told) 86 = .ok (.iconst 0, 1) := by decide +kernel
theorem d_M_told_87 : decode (zb m_M_told) 87 = .ok (.aload_n 0, 1) := by decide +kernel
theorem d_M_told_88 : decode (zb m_M_told) 88 = .ok (.getfield 98, 3) := by decide +kernel
theorem d_M_told_91 : decode (zb m_M_told) 91 = .ok (.iconst 1, 1) := by decide +kernel
theorem d_M_told_92 : decode (zb m_M_told) 92 = .ok (.isub, 1) := by decide +kernel
theorem d_M_told_93 : decode (zb m_M_told) 93 = .ok (.invokestatic 79, 3) := by decide +kernel
theorem d_M_told_96 : decode (zb m_M_told) 96 = .ok (.ifCond .eq 15, 3) := by decide +kernel
theorem d_M_told_99 : decode (zb m_M_told) 99 = .ok (.aload_n 0, 1) := by decide +kernel
theorem d_M_told_100 : decode (zb m_M_told) 100 = .ok (.getfield 13, 3) := by decide +kernel
theorem d_M_told_103 : decode (zb m_M_told) 103 = .ok (.iload_n 1, 1) := by decide +kernel
theorem d_M_told_104 : decode (zb m_M_told) 104 = .ok (.bipush 10, 2) := by decide +kernel
theorem d_M_told_106 : decode (zb m_M_told) 106 = .ok (.isub, 1) := by decide +kernel
theorem d_M_told_107 : decode (zb m_M_told) 107 = .ok (.iaload, 1) := by decide +kernel
theorem d_M_told_108 : decode (zb m_M_told) 108 = .ok (.goto 5, 3) := by decide +kernel
theorem d_M_told_111 : decode (zb m_M_told) 111 = .ok (.bipush (-2), 2) := by decide +kernel
theorem d_M_told_113 : decode (zb m_M_told) 113 = .ok (.ireturn, 1) := by decide +kernel
theorem d_M_told_114 : decode (zb m_M_told) 114 = .ok (.iload_n 1, 1) := by decide +kernel
theorem d_M_told_115 : decode (zb m_M_told) 115 = .ok (.ifCond .ne 10, 3) := by decide +kernel
theorem d_M_told_118 : decode (zb m_M_told) 118 = .ok (.aload_n 0, 1) := by decide +kernel
theorem d_M_told_119 : decode (zb m_M_told) 119 = .ok (.getfield 83, 3) := by decide +kernel
theorem d_M_told_122 : decode (zb m_M_told) 122 = .ok (.goto 29, 3) := by decide +kernel
theorem d_M_told_125 : decode (zb m_M_told) 125 = .ok (.iload_n 1, 1) := by decide +kernel
theorem d_M_told_126 : decode (zb m_M_told) 126 = .ok (.iconst 1, 1) := by decide +kernel
theorem d_M_told_127 : decode (zb m_M_told) 127 = .ok (.if_icmp .ne 10, 3) := by decide +kernel
theorem d_M_told_130 : decode (zb m_M_told) 130 = .ok (.aload_n 0, 1) := by decide +kernel
theorem d_M_told_131 : decode (zb m_M_told) 131 = .ok (.getfield 98, 3) := by decide +kernel
theorem d_M_told_134 : decode (zb m_M_told) 134 = .ok (.goto 17, 3) := by decide +kernel
theorem d_M_told_137 : decode (zb m_M_told) 137 = .ok (.iload_n 1, 1) := by decide +kernel
theorem d_M_told_138 : decode (zb m_M_told) 138 = .ok (.iconst 2, 1) := by decide +kernel
theorem d_M_told_139 : decode (zb m_M_told) 139 = .ok (.if_icmp .ne 10, 3) := by decide +kernel
theorem d_M_told_142 : decode (zb m_M_told) 142 = .ok (.aload_n 0, 1) := by decide +kernel
theorem d_M_told_143 : decode (zb m_M_told) 143 = .ok (.getfield 101, 3) := by decide +kernel
theorem d_M_told_146 : decode (zb m_M_told) 146 = .ok (.goto 5, 3) := by decide +kernel
theorem d_M_told_149 : decode (zb m_M_told) 149 = .ok (.bipush (-2), 2) := by decide +kernel
theorem d_M_told_151 : decode (zb m_M_told) 151 = .ok (.ireturn, 1) := by decide +kernel
end
