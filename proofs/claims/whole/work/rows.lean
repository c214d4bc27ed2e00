section
-- ===== PART A: goes FIRST, ahead of the names: the tables' words, and 'selects' of the private methods out of them =====
/-- a private method of a class that the tables say can be made, by its rows of tables_1 -/
def lw_okq (q : MethodName × Nat) : Prop := (q.1.cls ≠ "java/lang/invoke/MethodHandle" ∧ q.1.cls ≠ "java/lang/invoke/VarHandle") ∧ Cond.instantiable q.1.cls q.2 ∈ tables_1 ∧ Cond.privateMethod q.1 ∈ tables_1 ∧ Cond.instanceMethod q.1 ∈ tables_1
theorem lw_p0 : lw_okq (⟨"EditGuess", "poolChanged", "()V"⟩, 10) := ⟨⟨by decide +kernel, by decide +kernel⟩, List.mem_of_getElem? (i := 13) (by decide +kernel), List.mem_of_getElem? (i := 181) (by decide +kernel), List.mem_of_getElem? (i := 182) (by decide +kernel)⟩
theorem lw_p1 : lw_okq (⟨"EditGuess", "exampleFault", "()I"⟩, 10) := ⟨⟨by decide +kernel, by decide +kernel⟩, List.mem_of_getElem? (i := 13) (by decide +kernel), List.mem_of_getElem? (i := 244) (by decide +kernel), List.mem_of_getElem? (i := 245) (by decide +kernel)⟩
theorem lw_p2 : lw_okq (⟨"EditGuess", "lineFault", "()I"⟩, 10) := ⟨⟨by decide +kernel, by decide +kernel⟩, List.mem_of_getElem? (i := 13) (by decide +kernel), List.mem_of_getElem? (i := 260) (by decide +kernel), List.mem_of_getElem? (i := 261) (by decide +kernel)⟩
theorem lw_p3 : lw_okq (⟨"EditGuess", "examplesChanged", "()V"⟩, 10) := ⟨⟨by decide +kernel, by decide +kernel⟩, List.mem_of_getElem? (i := 13) (by decide +kernel), List.mem_of_getElem? (i := 284) (by decide +kernel), List.mem_of_getElem? (i := 285) (by decide +kernel)⟩
theorem lw_p4 : lw_okq (⟨"EditGuess", "guess", "()V"⟩, 10) := ⟨⟨by decide +kernel, by decide +kernel⟩, List.mem_of_getElem? (i := 13) (by decide +kernel), List.mem_of_getElem? (i := 332) (by decide +kernel), List.mem_of_getElem? (i := 333) (by decide +kernel)⟩
theorem lw_p5 : lw_okq (⟨"EditGuess$Row", "countAlike", "(LEditGuess$Signs;II)I"⟩, 3) := ⟨⟨by decide +kernel, by decide +kernel⟩, List.mem_of_getElem? (i := 94) (by decide +kernel), List.mem_of_getElem? (i := 377) (by decide +kernel), List.mem_of_getElem? (i := 378) (by decide +kernel)⟩
theorem lw_p6 : lw_okq (⟨"EditGuess$Fitting", "groupMarks", "()V"⟩, 10) := ⟨⟨by decide +kernel, by decide +kernel⟩, List.mem_of_getElem? (i := 67) (by decide +kernel), List.mem_of_getElem? (i := 387) (by decide +kernel), List.mem_of_getElem? (i := 388) (by decide +kernel)⟩
theorem lw_p7 : lw_okq (⟨"EditGuess$Fitting", "isToldInAll", "(I)Z"⟩, 10) := ⟨⟨by decide +kernel, by decide +kernel⟩, List.mem_of_getElem? (i := 67) (by decide +kernel), List.mem_of_getElem? (i := 391) (by decide +kernel), List.mem_of_getElem? (i := 392) (by decide +kernel)⟩
theorem lw_p8 : lw_okq (⟨"EditGuess$Fitting", "joinGroup", "(I)V"⟩, 10) := ⟨⟨by decide +kernel, by decide +kernel⟩, List.mem_of_getElem? (i := 67) (by decide +kernel), List.mem_of_getElem? (i := 399) (by decide +kernel), List.mem_of_getElem? (i := 400) (by decide +kernel)⟩
theorem lw_p9 : lw_okq (⟨"EditGuess$Fitting", "tellSame", "(II)Z"⟩, 10) := ⟨⟨by decide +kernel, by decide +kernel⟩, List.mem_of_getElem? (i := 67) (by decide +kernel), List.mem_of_getElem? (i := 403) (by decide +kernel), List.mem_of_getElem? (i := 404) (by decide +kernel)⟩
theorem lw_p10 : lw_okq (⟨"EditGuess$Fitting", "lastState", "()I"⟩, 10) := ⟨⟨by decide +kernel, by decide +kernel⟩, List.mem_of_getElem? (i := 67) (by decide +kernel), List.mem_of_getElem? (i := 413) (by decide +kernel), List.mem_of_getElem? (i := 414) (by decide +kernel)⟩
theorem lw_p11 : lw_okq (⟨"EditGuess$Fitting", "listMoves", "(I)V"⟩, 10) := ⟨⟨by decide +kernel, by decide +kernel⟩, List.mem_of_getElem? (i := 67) (by decide +kernel), List.mem_of_getElem? (i := 422) (by decide +kernel), List.mem_of_getElem? (i := 423) (by decide +kernel)⟩
theorem lw_p12 : lw_okq (⟨"EditGuess$Fitting", "reach", "(I)V"⟩, 10) := ⟨⟨by decide +kernel, by decide +kernel⟩, List.mem_of_getElem? (i := 67) (by decide +kernel), List.mem_of_getElem? (i := 430) (by decide +kernel), List.mem_of_getElem? (i := 431) (by decide +kernel)⟩
theorem lw_p13 : lw_okq (⟨"EditGuess$Fitting", "canBegin", "(I)Z"⟩, 10) := ⟨⟨by decide +kernel, by decide +kernel⟩, List.mem_of_getElem? (i := 67) (by decide +kernel), List.mem_of_getElem? (i := 434) (by decide +kernel), List.mem_of_getElem? (i := 435) (by decide +kernel)⟩
theorem lw_p14 : lw_okq (⟨"EditGuess$Fitting", "listCuts", "(II)V"⟩, 10) := ⟨⟨by decide +kernel, by decide +kernel⟩, List.mem_of_getElem? (i := 67) (by decide +kernel), List.mem_of_getElem? (i := 442) (by decide +kernel), List.mem_of_getElem? (i := 443) (by decide +kernel)⟩
theorem lw_p15 : lw_okq (⟨"EditGuess$Fitting", "cutTarget", "(III)I"⟩, 10) := ⟨⟨by decide +kernel, by decide +kernel⟩, List.mem_of_getElem? (i := 67) (by decide +kernel), List.mem_of_getElem? (i := 446) (by decide +kernel), List.mem_of_getElem? (i := 447) (by decide +kernel)⟩
def lw_privs_1 : List (MethodName × Nat) := [(⟨"EditGuess", "poolChanged", "()V"⟩, 10), (⟨"EditGuess", "exampleFault", "()I"⟩, 10), (⟨"EditGuess", "lineFault", "()I"⟩, 10), (⟨"EditGuess", "examplesChanged", "()V"⟩, 10), (⟨"EditGuess", "guess", "()V"⟩, 10), (⟨"EditGuess$Row", "countAlike", "(LEditGuess$Signs;II)I"⟩, 3), (⟨"EditGuess$Fitting", "groupMarks", "()V"⟩, 10), (⟨"EditGuess$Fitting", "isToldInAll", "(I)Z"⟩, 10), (⟨"EditGuess$Fitting", "joinGroup", "(I)V"⟩, 10), (⟨"EditGuess$Fitting", "tellSame", "(II)Z"⟩, 10), (⟨"EditGuess$Fitting", "lastState", "()I"⟩, 10), (⟨"EditGuess$Fitting", "listMoves", "(I)V"⟩, 10), (⟨"EditGuess$Fitting", "reach", "(I)V"⟩, 10), (⟨"EditGuess$Fitting", "canBegin", "(I)Z"⟩, 10), (⟨"EditGuess$Fitting", "listCuts", "(II)V"⟩, 10), (⟨"EditGuess$Fitting", "cutTarget", "(III)I"⟩, 10)]
theorem lw_r1 : ∀ q ∈ lw_privs_1, lw_okq q := List.forall_mem_cons.mpr ⟨lw_p0, List.forall_mem_cons.mpr ⟨lw_p1, List.forall_mem_cons.mpr ⟨lw_p2, List.forall_mem_cons.mpr ⟨lw_p3, List.forall_mem_cons.mpr ⟨lw_p4, List.forall_mem_cons.mpr ⟨lw_p5, List.forall_mem_cons.mpr ⟨lw_p6, List.forall_mem_cons.mpr ⟨lw_p7, List.forall_mem_cons.mpr ⟨lw_p8, List.forall_mem_cons.mpr ⟨lw_p9, List.forall_mem_cons.mpr ⟨lw_p10, List.forall_mem_cons.mpr ⟨lw_p11, List.forall_mem_cons.mpr ⟨lw_p12, List.forall_mem_cons.mpr ⟨lw_p13, List.forall_mem_cons.mpr ⟨lw_p14, List.forall_mem_cons.mpr ⟨lw_p15, fun _ h => absurd h List.not_mem_nil⟩⟩⟩⟩⟩⟩⟩⟩⟩⟩⟩⟩⟩⟩⟩⟩
theorem lw_p16 : lw_okq (⟨"EditGuess$Fitting", "longestText", "()I"⟩, 10) := ⟨⟨by decide +kernel, by decide +kernel⟩, List.mem_of_getElem? (i := 67) (by decide +kernel), List.mem_of_getElem? (i := 463) (by decide +kernel), List.mem_of_getElem? (i := 464) (by decide +kernel)⟩
theorem lw_p17 : lw_okq (⟨"EditGuess$Fitting", "isNextInAll", "(I)Z"⟩, 10) := ⟨⟨by decide +kernel, by decide +kernel⟩, List.mem_of_getElem? (i := 67) (by decide +kernel), List.mem_of_getElem? (i := 467) (by decide +kernel), List.mem_of_getElem? (i := 468) (by decide +kernel)⟩
theorem lw_p18 : lw_okq (⟨"EditGuess$Fitting", "textTarget", "(II)I"⟩, 10) := ⟨⟨by decide +kernel, by decide +kernel⟩, List.mem_of_getElem? (i := 67) (by decide +kernel), List.mem_of_getElem? (i := 472) (by decide +kernel), List.mem_of_getElem? (i := 473) (by decide +kernel)⟩
theorem lw_p19 : lw_okq (⟨"EditGuess$Fitting", "addWays", "(IJ)V"⟩, 10) := ⟨⟨by decide +kernel, by decide +kernel⟩, List.mem_of_getElem? (i := 67) (by decide +kernel), List.mem_of_getElem? (i := 491) (by decide +kernel), List.mem_of_getElem? (i := 492) (by decide +kernel)⟩
theorem lw_p20 : lw_okq (⟨"EditGuess$Fitting", "leastFrom", "(I)I"⟩, 10) := ⟨⟨by decide +kernel, by decide +kernel⟩, List.mem_of_getElem? (i := 67) (by decide +kernel), List.mem_of_getElem? (i := 508) (by decide +kernel), List.mem_of_getElem? (i := 509) (by decide +kernel)⟩
theorem lw_p21 : lw_okq (⟨"EditGuess$Fitting", "tellCut", "(ILEditGuess$Plan;)I"⟩, 10) := ⟨⟨by decide +kernel, by decide +kernel⟩, List.mem_of_getElem? (i := 67) (by decide +kernel), List.mem_of_getElem? (i := 516) (by decide +kernel), List.mem_of_getElem? (i := 517) (by decide +kernel)⟩
theorem lw_p22 : lw_okq (⟨"EditGuess$Fitting", "tellText", "(ILEditGuess$Plan;)I"⟩, 10) := ⟨⟨by decide +kernel, by decide +kernel⟩, List.mem_of_getElem? (i := 67) (by decide +kernel), List.mem_of_getElem? (i := 532) (by decide +kernel), List.mem_of_getElem? (i := 533) (by decide +kernel)⟩
theorem lw_p23 : lw_okq (⟨"EditGuess", "makesResult", "(I)Z"⟩, 10) := ⟨⟨by decide +kernel, by decide +kernel⟩, List.mem_of_getElem? (i := 13) (by decide +kernel), List.mem_of_getElem? (i := 605) (by decide +kernel), List.mem_of_getElem? (i := 606) (by decide +kernel)⟩
theorem lw_p24 : lw_okq (⟨"EditGuess", "countAgreeing", "(I)J"⟩, 10) := ⟨⟨by decide +kernel, by decide +kernel⟩, List.mem_of_getElem? (i := 13) (by decide +kernel), List.mem_of_getElem? (i := 617) (by decide +kernel), List.mem_of_getElem? (i := 618) (by decide +kernel)⟩
theorem lw_p25 : lw_okq (⟨"EditGuessModel", "exampleFault", "()I"⟩, 28) := ⟨⟨by decide +kernel, by decide +kernel⟩, List.mem_of_getElem? (i := 646) (by decide +kernel), List.mem_of_getElem? (i := 755) (by decide +kernel), List.mem_of_getElem? (i := 756) (by decide +kernel)⟩
theorem lw_p26 : lw_okq (⟨"EditGuessModel", "lineFault", "()I"⟩, 28) := ⟨⟨by decide +kernel, by decide +kernel⟩, List.mem_of_getElem? (i := 646) (by decide +kernel), List.mem_of_getElem? (i := 762) (by decide +kernel), List.mem_of_getElem? (i := 763) (by decide +kernel)⟩
theorem lw_p27 : lw_okq (⟨"EditGuessModel", "goFrom", "(I)V"⟩, 28) := ⟨⟨by decide +kernel, by decide +kernel⟩, List.mem_of_getElem? (i := 646) (by decide +kernel), List.mem_of_getElem? (i := 782) (by decide +kernel), List.mem_of_getElem? (i := 783) (by decide +kernel)⟩
theorem lw_p28 : lw_okq (⟨"EditGuessModel", "lookAtPad", "()V"⟩, 28) := ⟨⟨by decide +kernel, by decide +kernel⟩, List.mem_of_getElem? (i := 646) (by decide +kernel), List.mem_of_getElem? (i := 790) (by decide +kernel), List.mem_of_getElem? (i := 791) (by decide +kernel)⟩
theorem lw_p29 : lw_okq (⟨"EditGuessModel", "placeOf", "(I)I"⟩, 28) := ⟨⟨by decide +kernel, by decide +kernel⟩, List.mem_of_getElem? (i := 646) (by decide +kernel), List.mem_of_getElem? (i := 794) (by decide +kernel), List.mem_of_getElem? (i := 795) (by decide +kernel)⟩
theorem lw_p30 : lw_okq (⟨"EditGuessModel", "runAt", "(IIZ)I"⟩, 28) := ⟨⟨by decide +kernel, by decide +kernel⟩, List.mem_of_getElem? (i := 646) (by decide +kernel), List.mem_of_getElem? (i := 798) (by decide +kernel), List.mem_of_getElem? (i := 799) (by decide +kernel)⟩
theorem lw_p31 : lw_okq (⟨"EditGuessModel", "layExamples", "()V"⟩, 28) := ⟨⟨by decide +kernel, by decide +kernel⟩, List.mem_of_getElem? (i := 646) (by decide +kernel), List.mem_of_getElem? (i := 807) (by decide +kernel), List.mem_of_getElem? (i := 808) (by decide +kernel)⟩
def lw_privs_2 : List (MethodName × Nat) := [(⟨"EditGuess$Fitting", "longestText", "()I"⟩, 10), (⟨"EditGuess$Fitting", "isNextInAll", "(I)Z"⟩, 10), (⟨"EditGuess$Fitting", "textTarget", "(II)I"⟩, 10), (⟨"EditGuess$Fitting", "addWays", "(IJ)V"⟩, 10), (⟨"EditGuess$Fitting", "leastFrom", "(I)I"⟩, 10), (⟨"EditGuess$Fitting", "tellCut", "(ILEditGuess$Plan;)I"⟩, 10), (⟨"EditGuess$Fitting", "tellText", "(ILEditGuess$Plan;)I"⟩, 10), (⟨"EditGuess", "makesResult", "(I)Z"⟩, 10), (⟨"EditGuess", "countAgreeing", "(I)J"⟩, 10), (⟨"EditGuessModel", "exampleFault", "()I"⟩, 28), (⟨"EditGuessModel", "lineFault", "()I"⟩, 28), (⟨"EditGuessModel", "goFrom", "(I)V"⟩, 28), (⟨"EditGuessModel", "lookAtPad", "()V"⟩, 28), (⟨"EditGuessModel", "placeOf", "(I)I"⟩, 28), (⟨"EditGuessModel", "runAt", "(IIZ)I"⟩, 28), (⟨"EditGuessModel", "layExamples", "()V"⟩, 28)]
theorem lw_r2 : ∀ q ∈ lw_privs_2, lw_okq q := List.forall_mem_cons.mpr ⟨lw_p16, List.forall_mem_cons.mpr ⟨lw_p17, List.forall_mem_cons.mpr ⟨lw_p18, List.forall_mem_cons.mpr ⟨lw_p19, List.forall_mem_cons.mpr ⟨lw_p20, List.forall_mem_cons.mpr ⟨lw_p21, List.forall_mem_cons.mpr ⟨lw_p22, List.forall_mem_cons.mpr ⟨lw_p23, List.forall_mem_cons.mpr ⟨lw_p24, List.forall_mem_cons.mpr ⟨lw_p25, List.forall_mem_cons.mpr ⟨lw_p26, List.forall_mem_cons.mpr ⟨lw_p27, List.forall_mem_cons.mpr ⟨lw_p28, List.forall_mem_cons.mpr ⟨lw_p29, List.forall_mem_cons.mpr ⟨lw_p30, List.forall_mem_cons.mpr ⟨lw_p31, fun _ h => absurd h List.not_mem_nil⟩⟩⟩⟩⟩⟩⟩⟩⟩⟩⟩⟩⟩⟩⟩⟩
theorem lw_p32 : lw_okq (⟨"EditGuessModel", "addWork", "()V"⟩, 28) := ⟨⟨by decide +kernel, by decide +kernel⟩, List.mem_of_getElem? (i := 646) (by decide +kernel), List.mem_of_getElem? (i := 811) (by decide +kernel), List.mem_of_getElem? (i := 812) (by decide +kernel)⟩
theorem lw_p33 : lw_okq (⟨"EditGuessModel", "count", "()J"⟩, 28) := ⟨⟨by decide +kernel, by decide +kernel⟩, List.mem_of_getElem? (i := 646) (by decide +kernel), List.mem_of_getElem? (i := 815) (by decide +kernel), List.mem_of_getElem? (i := 816) (by decide +kernel)⟩
theorem lw_p34 : lw_okq (⟨"EditGuessModel", "rows", "()I"⟩, 28) := ⟨⟨by decide +kernel, by decide +kernel⟩, List.mem_of_getElem? (i := 646) (by decide +kernel), List.mem_of_getElem? (i := 819) (by decide +kernel), List.mem_of_getElem? (i := 820) (by decide +kernel)⟩
theorem lw_p35 : lw_okq (⟨"EditGuessModel", "cut", "(III)I"⟩, 28) := ⟨⟨by decide +kernel, by decide +kernel⟩, List.mem_of_getElem? (i := 646) (by decide +kernel), List.mem_of_getElem? (i := 826) (by decide +kernel), List.mem_of_getElem? (i := 827) (by decide +kernel)⟩
theorem lw_p36 : lw_okq (⟨"EditGuessModel", "text", "(II)I"⟩, 28) := ⟨⟨by decide +kernel, by decide +kernel⟩, List.mem_of_getElem? (i := 646) (by decide +kernel), List.mem_of_getElem? (i := 833) (by decide +kernel), List.mem_of_getElem? (i := 834) (by decide +kernel)⟩
theorem lw_p37 : lw_okq (⟨"EditGuessModel", "end", "()I"⟩, 28) := ⟨⟨by decide +kernel, by decide +kernel⟩, List.mem_of_getElem? (i := 646) (by decide +kernel), List.mem_of_getElem? (i := 837) (by decide +kernel), List.mem_of_getElem? (i := 838) (by decide +kernel)⟩
theorem lw_p38 : lw_okq (⟨"EditGuessModel", "layBest", "()Z"⟩, 28) := ⟨⟨by decide +kernel, by decide +kernel⟩, List.mem_of_getElem? (i := 646) (by decide +kernel), List.mem_of_getElem? (i := 845) (by decide +kernel), List.mem_of_getElem? (i := 846) (by decide +kernel)⟩
theorem lw_p39 : lw_okq (⟨"EditGuessModel", "costOfCut", "(II)I"⟩, 28) := ⟨⟨by decide +kernel, by decide +kernel⟩, List.mem_of_getElem? (i := 646) (by decide +kernel), List.mem_of_getElem? (i := 850) (by decide +kernel), List.mem_of_getElem? (i := 851) (by decide +kernel)⟩
theorem lw_p40 : lw_okq (⟨"EditGuessModel", "goOn", "(I)I"⟩, 28) := ⟨⟨by decide +kernel, by decide +kernel⟩, List.mem_of_getElem? (i := 646) (by decide +kernel), List.mem_of_getElem? (i := 857) (by decide +kernel), List.mem_of_getElem? (i := 858) (by decide +kernel)⟩
theorem lw_p41 : lw_okq (⟨"EditGuessModel", "costOfPiece", "(I)I"⟩, 28) := ⟨⟨by decide +kernel, by decide +kernel⟩, List.mem_of_getElem? (i := 646) (by decide +kernel), List.mem_of_getElem? (i := 861) (by decide +kernel), List.mem_of_getElem? (i := 862) (by decide +kernel)⟩
theorem lw_p42 : lw_okq (⟨"EditGuessModel", "make", "()I"⟩, 28) := ⟨⟨by decide +kernel, by decide +kernel⟩, List.mem_of_getElem? (i := 646) (by decide +kernel), List.mem_of_getElem? (i := 873) (by decide +kernel), List.mem_of_getElem? (i := 874) (by decide +kernel)⟩
theorem lw_p43 : lw_okq (⟨"EditGuessModel", "lookAtPool", "(I)V"⟩, 28) := ⟨⟨by decide +kernel, by decide +kernel⟩, List.mem_of_getElem? (i := 646) (by decide +kernel), List.mem_of_getElem? (i := 881) (by decide +kernel), List.mem_of_getElem? (i := 882) (by decide +kernel)⟩
theorem lw_p44 : lw_okq (⟨"EditGuessModel", "agreeingOf", "(I)J"⟩, 28) := ⟨⟨by decide +kernel, by decide +kernel⟩, List.mem_of_getElem? (i := 646) (by decide +kernel), List.mem_of_getElem? (i := 890) (by decide +kernel), List.mem_of_getElem? (i := 891) (by decide +kernel)⟩
def lw_privs_3 : List (MethodName × Nat) := [(⟨"EditGuessModel", "addWork", "()V"⟩, 28), (⟨"EditGuessModel", "count", "()J"⟩, 28), (⟨"EditGuessModel", "rows", "()I"⟩, 28), (⟨"EditGuessModel", "cut", "(III)I"⟩, 28), (⟨"EditGuessModel", "text", "(II)I"⟩, 28), (⟨"EditGuessModel", "end", "()I"⟩, 28), (⟨"EditGuessModel", "layBest", "()Z"⟩, 28), (⟨"EditGuessModel", "costOfCut", "(II)I"⟩, 28), (⟨"EditGuessModel", "goOn", "(I)I"⟩, 28), (⟨"EditGuessModel", "costOfPiece", "(I)I"⟩, 28), (⟨"EditGuessModel", "make", "()I"⟩, 28), (⟨"EditGuessModel", "lookAtPool", "(I)V"⟩, 28), (⟨"EditGuessModel", "agreeingOf", "(I)J"⟩, 28)]
theorem lw_r3 : ∀ q ∈ lw_privs_3, lw_okq q := List.forall_mem_cons.mpr ⟨lw_p32, List.forall_mem_cons.mpr ⟨lw_p33, List.forall_mem_cons.mpr ⟨lw_p34, List.forall_mem_cons.mpr ⟨lw_p35, List.forall_mem_cons.mpr ⟨lw_p36, List.forall_mem_cons.mpr ⟨lw_p37, List.forall_mem_cons.mpr ⟨lw_p38, List.forall_mem_cons.mpr ⟨lw_p39, List.forall_mem_cons.mpr ⟨lw_p40, List.forall_mem_cons.mpr ⟨lw_p41, List.forall_mem_cons.mpr ⟨lw_p42, List.forall_mem_cons.mpr ⟨lw_p43, List.forall_mem_cons.mpr ⟨lw_p44, fun _ h => absurd h List.not_mem_nil⟩⟩⟩⟩⟩⟩⟩⟩⟩⟩⟩⟩⟩
def lw_privs : List (MethodName × Nat) := lw_privs_1 ++ (lw_privs_2 ++ (lw_privs_3))
def lw_tbl : List Cond := k2_sels lw_privs ++ tables_1
theorem lw_privs_ok : ∀ q ∈ lw_privs, lw_okq q := by
  show ∀ q ∈ lw_privs_1 ++ (lw_privs_2 ++ (lw_privs_3)), lw_okq q
  exact List.forall_mem_append.mpr ⟨lw_r1, List.forall_mem_append.mpr ⟨lw_r2, lw_r3⟩⟩
-- ===== end of PART A; then your names; then what follows =====
end
section
/-! the words that a method may need: those of the tables that stay as they are while the machine runs -/
def zG : List Cond := lw_tbl.filter goodWord
theorem zgm {w : Cond} (h : w ∈ lw_tbl) (hg : goodWord w = true) : w ∈ zG := List.mem_filter.mpr ⟨h, hg⟩
theorem zg_good {w : Cond} (h : w ∈ zG) : (w.onTables && w.keeps) = true ∨ ∃ ty, w = .arrayClass ty := good_of_word (List.mem_filter.mp h).2
/-! the classes: their fields -/
def zN0 : String := "EditGuess$Book"
def zT0 : u_T := fun k => match k with
  | 0 => ("EditGuess$Book", "exampleLines", "[LEditGuess$Signs;", true)
  | 1 => ("EditGuess$Book", "results", "[LEditGuess$Signs;", true)
  | 2 => ("EditGuess$Book", "lines", "[LEditGuess$Signs;", true)
  | 3 => ("EditGuess$Book", "examples", "I", false)
  | _ => ("EditGuess$Book", "pooled", "I", false)
def zt0 : Nat → FieldType := fun k => match k with
  | 0 => (.array (.object "EditGuess$Signs"))
  | 1 => (.array (.object "EditGuess$Signs"))
  | 2 => (.array (.object "EditGuess$Signs"))
  | 3 => .int
  | _ => .int
theorem zin0 : ∀ w ∈ u_ws zN0 zT0 5, w ∈ zG := by decide +kernel
theorem znm0 : ∀ a, a < 5 → ∀ b, b < 5 → a ≠ b → (zT0 a).2.1 ≠ (zT0 b).2.1 := by decide +kernel
theorem ztk0 : ∀ k, k < 5 → parseFieldDescriptor (zT0 k).2.2.1 = some (zt0 k) := by decide +kernel
def zN1 : String := "EditGuess$Fitting"
def zT1 : u_T := fun k => match k with
  | 0 => ("EditGuess$Fitting", "rows", "[LEditGuess$Row;", true)
  | 1 => ("EditGuess$Fitting", "reached", "[I", true)
  | 2 => ("EditGuess$Fitting", "heads", "[I", true)
  | 3 => ("EditGuess$Fitting", "sizes", "[I", true)
  | 4 => ("EditGuess$Fitting", "prices", "[I", true)
  | 5 => ("EditGuess$Fitting", "moves", "LEditGuess$Moves;", true)
  | 6 => ("EditGuess$Fitting", "ways", "[J", true)
  | 7 => ("EditGuess$Fitting", "least", "[I", true)
  | 8 => ("EditGuess$Fitting", "many", "I", false)
  | _ => ("EditGuess$Fitting", "groups", "I", false)
def zt1 : Nat → FieldType := fun k => match k with
  | 0 => (.array (.object "EditGuess$Row"))
  | 1 => (.array .int)
  | 2 => (.array .int)
  | 3 => (.array .int)
  | 4 => (.array .int)
  | 5 => (.object "EditGuess$Moves")
  | 6 => (.array .long)
  | 7 => (.array .int)
  | 8 => .int
  | _ => .int
theorem zin1 : ∀ w ∈ u_ws zN1 zT1 10, w ∈ zG := by decide +kernel
theorem znm1 : ∀ a, a < 10 → ∀ b, b < 10 → a ≠ b → (zT1 a).2.1 ≠ (zT1 b).2.1 := by decide +kernel
theorem ztk1 : ∀ k, k < 10 → parseFieldDescriptor (zT1 k).2.2.1 = some (zt1 k) := by decide +kernel
def zN2 : String := "EditGuess$Moves"
def zT2 : u_T := fun k => match k with
  | 0 => ("EditGuess$Moves", "targets", "[I", true)
  | 1 => ("EditGuess$Moves", "times", "[I", true)
  | 2 => ("EditGuess$Moves", "prices", "[I", true)
  | _ => ("EditGuess$Moves", "many", "I", false)
def zt2 : Nat → FieldType := fun k => match k with
  | 0 => (.array .int)
  | 1 => (.array .int)
  | 2 => (.array .int)
  | _ => .int
theorem zin2 : ∀ w ∈ u_ws zN2 zT2 4, w ∈ zG := by decide +kernel
theorem znm2 : ∀ a, a < 4 → ∀ b, b < 4 → a ≠ b → (zT2 a).2.1 ≠ (zT2 b).2.1 := by decide +kernel
theorem ztk2 : ∀ k, k < 4 → parseFieldDescriptor (zT2 k).2.2.1 = some (zt2 k) := by decide +kernel
def zN3 : String := "EditGuess$Piece"
def zT3 : u_T := fun k => match k with
  | 0 => ("EditGuess$Piece", "text", "LEditGuess$Signs;", true)
  | 1 => ("EditGuess$Piece", "isText", "Z", false)
  | 2 => ("EditGuess$Piece", "first", "I", false)
  | _ => ("EditGuess$Piece", "second", "I", false)
def zt3 : Nat → FieldType := fun k => match k with
  | 0 => (.object "EditGuess$Signs")
  | 1 => .boolean
  | 2 => .int
  | _ => .int
theorem zin3 : ∀ w ∈ u_ws zN3 zT3 4, w ∈ zG := by decide +kernel
theorem znm3 : ∀ a, a < 4 → ∀ b, b < 4 → a ≠ b → (zT3 a).2.1 ≠ (zT3 b).2.1 := by decide +kernel
theorem ztk3 : ∀ k, k < 4 → parseFieldDescriptor (zT3 k).2.2.1 = some (zt3 k) := by decide +kernel
def zN4 : String := "EditGuess$Plan"
def zT4 : u_T := fun k => match k with
  | 0 => ("EditGuess$Plan", "pieces", "[LEditGuess$Piece;", true)
  | _ => ("EditGuess$Plan", "many", "I", false)
def zt4 : Nat → FieldType := fun k => match k with
  | 0 => (.array (.object "EditGuess$Piece"))
  | _ => .int
theorem zin4 : ∀ w ∈ u_ws zN4 zT4 2, w ∈ zG := by decide +kernel
theorem znm4 : ∀ a, a < 2 → ∀ b, b < 2 → a ≠ b → (zT4 a).2.1 ≠ (zT4 b).2.1 := by decide +kernel
theorem ztk4 : ∀ k, k < 2 → parseFieldDescriptor (zT4 k).2.2.1 = some (zt4 k) := by decide +kernel
def zN5 : String := "EditGuess$Row"
def zT5 : u_T := fun k => match k with
  | 0 => ("EditGuess$Row", "result", "LEditGuess$Signs;", true)
  | 1 => ("EditGuess$Row", "places", "[I", true)
  | _ => ("EditGuess$Row", "alike", "[[I", true)
def zt5 : Nat → FieldType := fun k => match k with
  | 0 => (.object "EditGuess$Signs")
  | 1 => (.array .int)
  | _ => (.array (.array .int))
theorem zin5 : ∀ w ∈ u_ws zN5 zT5 3, w ∈ zG := by decide +kernel
theorem znm5 : ∀ a, a < 3 → ∀ b, b < 3 → a ≠ b → (zT5 a).2.1 ≠ (zT5 b).2.1 := by decide +kernel
theorem ztk5 : ∀ k, k < 3 → parseFieldDescriptor (zT5 k).2.2.1 = some (zt5 k) := by decide +kernel
def zN6 : String := "EditGuess$Signs"
def zT6 : u_T := fun k => match k with
  | 0 => ("EditGuess$Signs", "codes", "[I", true)
  | 1 => ("EditGuess$Signs", "kinds", "[I", true)
  | _ => ("EditGuess$Signs", "many", "I", false)
def zt6 : Nat → FieldType := fun k => match k with
  | 0 => (.array .int)
  | 1 => (.array .int)
  | _ => .int
theorem zin6 : ∀ w ∈ u_ws zN6 zT6 3, w ∈ zG := by decide +kernel
theorem znm6 : ∀ a, a < 3 → ∀ b, b < 3 → a ≠ b → (zT6 a).2.1 ≠ (zT6 b).2.1 := by decide +kernel
theorem ztk6 : ∀ k, k < 3 → parseFieldDescriptor (zT6 k).2.2.1 = some (zt6 k) := by decide +kernel
def zN7 : String := "EditGuess"
def zT7 : u_T := fun k => match k with
  | 0 => ("EditGuess", "pad", "LEditGuess$Signs;", true)
  | 1 => ("EditGuess", "book", "LEditGuess$Book;", true)
  | 2 => ("EditGuess", "images", "[LEditGuess$Book;", true)
  | 3 => ("EditGuess", "kept", "[Z", true)
  | 4 => ("EditGuess", "fitting", "LEditGuess$Fitting;", true)
  | 5 => ("EditGuess", "best", "LEditGuess$Plan;", true)
  | 6 => ("EditGuess", "made", "LEditGuess$Signs;", true)
  | 7 => ("EditGuess", "agreed", "[J", true)
  | 8 => ("EditGuess", "guessed", "Z", false)
  | _ => ("EditGuess", "fitted", "J", false)
def zt7 : Nat → FieldType := fun k => match k with
  | 0 => (.object "EditGuess$Signs")
  | 1 => (.object "EditGuess$Book")
  | 2 => (.array (.object "EditGuess$Book"))
  | 3 => (.array .boolean)
  | 4 => (.object "EditGuess$Fitting")
  | 5 => (.object "EditGuess$Plan")
  | 6 => (.object "EditGuess$Signs")
  | 7 => (.array .long)
  | 8 => .boolean
  | _ => .long
theorem zin7 : ∀ w ∈ u_ws zN7 zT7 10, w ∈ zG := by decide +kernel
theorem znm7 : ∀ a, a < 10 → ∀ b, b < 10 → a ≠ b → (zT7 a).2.1 ≠ (zT7 b).2.1 := by decide +kernel
theorem ztk7 : ∀ k, k < 10 → parseFieldDescriptor (zT7 k).2.2.1 = some (zt7 k) := by decide +kernel
def zN8 : String := "EditGuessModel"
def zT8 : u_T := fun k => match k with
  | 0 => ("EditGuessModel", "lines", "[I", true)
  | 1 => ("EditGuessModel", "lineSize", "[I", true)
  | 2 => ("EditGuessModel", "outs", "[I", true)
  | 3 => ("EditGuessModel", "outSize", "[I", true)
  | 4 => ("EditGuessModel", "examples", "I", false)
  | 5 => ("EditGuessModel", "pools", "[I", true)
  | 6 => ("EditGuessModel", "poolSize", "[I", true)
  | 7 => ("EditGuessModel", "many", "I", false)
  | 8 => ("EditGuessModel", "signs", "I", false)
  | 9 => ("EditGuessModel", "pad", "[I", true)
  | 10 => ("EditGuessModel", "codes", "[I", true)
  | 11 => ("EditGuessModel", "now", "[I", true)
  | 12 => ("EditGuessModel", "size", "I", false)
  | 13 => ("EditGuessModel", "workLine", "[I", true)
  | 14 => ("EditGuessModel", "workOut", "[I", true)
  | 15 => ("EditGuessModel", "workSize", "[I", true)
  | 16 => ("EditGuessModel", "marks", "[I", true)
  | 17 => ("EditGuessModel", "work", "I", false)
  | 18 => ("EditGuessModel", "ways", "[J", true)
  | 19 => ("EditGuessModel", "least", "[I", true)
  | 20 => ("EditGuessModel", "kind", "[I", true)
  | 21 => ("EditGuessModel", "one", "[I", true)
  | 22 => ("EditGuessModel", "other", "[I", true)
  | 23 => ("EditGuessModel", "pieces", "I", false)
  | 24 => ("EditGuessModel", "cost", "I", false)
  | 25 => ("EditGuessModel", "made", "[I", true)
  | 26 => ("EditGuessModel", "image", "[I", true)
  | _ => ("EditGuessModel", "isKept", "[Z", true)
def zt8 : Nat → FieldType := fun k => match k with
  | 0 => (.array .int)
  | 1 => (.array .int)
  | 2 => (.array .int)
  | 3 => (.array .int)
  | 4 => .int
  | 5 => (.array .int)
  | 6 => (.array .int)
  | 7 => .int
  | 8 => .int
  | 9 => (.array .int)
  | 10 => (.array .int)
  | 11 => (.array .int)
  | 12 => .int
  | 13 => (.array .int)
  | 14 => (.array .int)
  | 15 => (.array .int)
  | 16 => (.array .int)
  | 17 => .int
  | 18 => (.array .long)
  | 19 => (.array .int)
  | 20 => (.array .int)
  | 21 => (.array .int)
  | 22 => (.array .int)
  | 23 => .int
  | 24 => .int
  | 25 => (.array .int)
  | 26 => (.array .int)
  | _ => (.array .boolean)
theorem zin8 : ∀ w ∈ u_ws zN8 zT8 28, w ∈ zG := by decide +kernel
theorem znm8 : ∀ a, a < 28 → ∀ b, b < 28 → a ≠ b → (zT8 a).2.1 ≠ (zT8 b).2.1 := by decide +kernel
theorem ztk8 : ∀ k, k < 28 → parseFieldDescriptor (zT8 k).2.2.1 = some (zt8 k) := by decide +kernel
def zcl : List vw_C := [(zN0, zT0, 5), (zN1, zT1, 10), (zN2, zT2, 4), (zN3, zT3, 4), (zN4, zT4, 2), (zN5, zT5, 3), (zN6, zT6, 3), (zN7, zT7, 10), (zN8, zT8, 28)]
def ztf (ci : Nat) : Nat → FieldType := match ci with
  | 0 => zt0
  | 1 => zt1
  | 2 => zt2
  | 3 => zt3
  | 4 => zt4
  | 5 => zt5
  | 6 => zt6
  | 7 => zt7
  | _ => zt8
theorem zcl_in : ∀ (ci : Nat) (q : vw_C), zcl[ci]? = some q → ∀ w ∈ u_ws q.1 q.2.1 q.2.2, w ∈ zG := by
  intro ci q h
  match ci, h with
  | 0, h => cases h; exact zin0
  | 1, h => cases h; exact zin1
  | 2, h => cases h; exact zin2
  | 3, h => cases h; exact zin3
  | 4, h => cases h; exact zin4
  | 5, h => cases h; exact zin5
  | 6, h => cases h; exact zin6
  | 7, h => cases h; exact zin7
  | 8, h => cases h; exact zin8
  | ci + 9, h => simp [zcl] at h
theorem zcl_nm : ∀ (ci : Nat) (q : vw_C), zcl[ci]? = some q → ∀ a, a < q.2.2 → ∀ b, b < q.2.2 → a ≠ b → (q.2.1 a).2.1 ≠ (q.2.1 b).2.1 := by
  intro ci q h
  match ci, h with
  | 0, h => cases h; exact znm0
  | 1, h => cases h; exact znm1
  | 2, h => cases h; exact znm2
  | 3, h => cases h; exact znm3
  | 4, h => cases h; exact znm4
  | 5, h => cases h; exact znm5
  | 6, h => cases h; exact znm6
  | 7, h => cases h; exact znm7
  | 8, h => cases h; exact znm8
  | ci + 9, h => simp [zcl] at h
theorem zcl_ty : ∀ (ci : Nat) (q : vw_C), zcl[ci]? = some q → ∀ k, k < q.2.2 → parseFieldDescriptor (q.2.1 k).2.2.1 = some (ztf ci k) := by
  intro ci q h
  match ci, h with
  | 0, h => cases h; exact ztk0
  | 1, h => cases h; exact ztk1
  | 2, h => cases h; exact ztk2
  | 3, h => cases h; exact ztk3
  | 4, h => cases h; exact ztk4
  | 5, h => cases h; exact ztk5
  | 6, h => cases h; exact ztk6
  | 7, h => cases h; exact ztk7
  | 8, h => cases h; exact ztk8
  | ci + 9, h => simp [zcl] at h
end
section
/-! A program logic over the machine: wp0 m Q pc lo st cs ss n f: from the place pc of the method m, with the locals lo, the stack st, over a world of n cells whose contents are f, the method comes to its end with Q. References are numbers of cells; the machine's addresses are these numbers and the base of the world. -/
abbrev Zm : Type := MethodName × ByteArray × Nat × Option FieldType × (Nat × Nat × Nat × Nat) × Bool
def zy (m : Zm) : MethodName := m.1
def zb (m : Zm) : ByteArray := m.2.1
def zl (m : Zm) : Nat := m.2.2.1
def zr (m : Zm) : Option FieldType := m.2.2.2.1
def zk (m : Zm) : Nat × Nat × Nat × Nat := m.2.2.2.2.1
def zg (m : Zm) : Bool := m.2.2.2.2.2
def zR (m : Zm) : Room := { frames := (zk m).1, cells := (zk m).2.1, slots := (zk m).2.2.1, locals := (zk m).2.2.2 }
def zw (m : Zm) : List Cond := Cond.code (zy m) (zb m) (zl m) (zr m) :: zG
/-- the world: its base, the classes and slots, the array classes -/
abbrev Zo : Type := Nat × va_G × (Nat → ClassId)
def trV (B : Nat) (v : Value) : Value := match v with
  | .ref a => .ref (B + a)
  | w => w
def trL (B : Nat) (q : Nat × Value) : Nat × Value := (q.1, trV B q.2)
theorem trV_cat (B : Nat) (v : Value) : (trV B v).category = v.category := by cases v <;> rfl
/-- what a cell holds: an array (its type's number, its length, its contents) or an object (its class's number, its fields) -/
abbrev En : Type := (Nat × Nat × ((Nat → Int32) ⊕ (Nat → Int64) ⊕ (Nat → Option Nat))) ⊕ (Nat × List Value)
def trE (o : Zo) (e : En) : va_E := match e with
  | .inl (t, n, .inl f) => .inl (o.2.2 t, n, .inl f)
  | .inl (t, n, .inr (.inl f)) => .inl (o.2.2 t, n, .inr (.inl f))
  | .inl (t, n, .inr (.inr f)) => .inl (o.2.2 t, n, .inr (.inr (.inr (.inr (fun i => (f i).map (fun a => o.1 + a))))))
  | .inr (ci, fs) => .inr (ci, fs.map (trV o.1))
def ztys (o : Zo) : List (ClassId × FieldType) := [(o.2.2 0, .int), (o.2.2 1, .long), (o.2.2 2, .boolean), (o.2.2 3, .object "EditGuess$Signs"), (o.2.2 4, .object "EditGuess$Book"), (o.2.2 5, .object "EditGuess$Piece"), (o.2.2 6, .object "EditGuess$Row"), (o.2.2 7, .array .int)]
/-- the world's cells in a heap -/
def Hw (o : Zo) (n : Nat) (f : Nat → En) (H : Heap) : Prop := ∀ a : Nat, a < n → va_at o.2.1 zcl (o.1 + a, trE o (f a)) H
theorem Hw.congr {o : Zo} {n : Nat} {f g : Nat → En} {H : Heap} (h : Hw o n f H) (e : ∀ a, a < n → f a = g a) : Hw o n g H := fun a ha => by rw [← e a ha]; exact h a ha
theorem Hw.put {o : Zo} {n a : Nat} {f : Nat → En} {H H1 : Heap} {e : En} (h : Hw o n f H) (he : va_at o.2.1 zcl (o.1 + a, trE o e) H1) (oq : ∀ q : Nat, q ≠ o.1 + a → H1[q]? = H[q]?) : Hw o n (va_up f a e) H1 := fun b hb => by
  by_cases hba : b = a
  · subst hba
    rw [show va_up f b e b = e from if_pos rfl]
    exact he
  · rw [show va_up f a e b = f b from if_neg hba]
    exact (h b hb).kept (oq _ (fun z => hba (by omega)))
theorem Hw.push {o : Zo} {n : Nat} {f : Nat → En} {H H1 : Heap} {e : En} (h : Hw o n f H) (he : va_at o.2.1 zcl (o.1 + n, trE o e) H1) (oq : ∀ q : Nat, q < o.1 + n → H1[q]? = H[q]?) : Hw o (n + 1) (va_up f n e) H1 := fun b hb => by
  by_cases hba : b = n
  · subst hba
    rw [show va_up f b e b = e from if_pos rfl]
    exact he
  · rw [show va_up f n e b = f b from if_neg hba]
    exact (h b (by omega)).kept (oq _ (by show o.1 + b < _; omega))
/-- the nest mates' private constructors that are called -/
def znest : List (String × Nat × MethodName × String) := [("EditGuess$Fitting", 34, ⟨"EditGuess$Moves", "<init>", "()V"⟩, "EditGuess"), ("EditGuess$Fitting", 46, ⟨"EditGuess$Row", "<init>", "()V"⟩, "EditGuess"), ("EditGuess$Plan", 17, ⟨"EditGuess$Piece", "<init>", "()V"⟩, "EditGuess")]
/-- what the tables say of the machine's classes -/
def Zk (o : Zo) (U : State) : Prop := va_K o.2.1 zcl (ztys o) U ∧ (va_AO "EditGuess$Signs" U ∧ va_AO "EditGuess$Book" U ∧ va_AO "EditGuess$Piece" U ∧ va_AO "EditGuess$Row" U) ∧ ∀ q ∈ znest, va_Nw (.methodLinkNest q.1 q.2.1 q.2.2.1 q.2.2.2) U
theorem Zk.warm {o : Zo} {u U : State} (hW : u.WarmedH U.vm) (h : Zk o u) : Zk o U := ⟨va_K.moved hW.alike h.1, ⟨h.2.1.1.moved hW.alike, h.2.1.2.1.moved hW.alike, h.2.1.2.2.1.moved hW.alike, h.2.1.2.2.2.moved hW.alike⟩, fun q hq => va_Nw.warmM hW (h.2.2 q hq)⟩
theorem Zk.same {o : Zo} {u U : State} (e : u.vm = U.vm) (h : Zk o u) : Zk o U := by
  have hA : u.vm.Alike U.vm := by rw [e]; exact Vm.Alike.refl _
  exact ⟨va_K.moved hA h.1, ⟨h.2.1.1.moved hA, h.2.1.2.1.moved hA, h.2.1.2.2.1.moved hA, h.2.1.2.2.2.moved hA⟩, fun q hq => va_Nw.same rfl e (h.2.2 q hq)⟩
/-- which cells a method may change: the world's, and those that it makes -/
def zA (B n sz : Nat) : Nat → Prop := fun q => (B ≤ q ∧ q < B + n) ∨ sz ≤ q
/-- what holds of the machine while a method runs -/
def Zx (m : Zm) (p : Program) (s : State) (mi : MethodId) (args : Array Value) (meth : Method) (c : Code) (o : Zo) (n0 : Nat) : Prop :=
  p.tables.exec = Jvm.exec ∧ c.code = zb m ∧ meth.sig.returnType = zr m ∧ c.maxLocals = zl m ∧ s.vm.findClass (zy m).cls = some mi.cls ∧ (∀ w ∈ zw m, w.before args s = true) ∧ meth.locks = false ∧ meth.name = (zy m).name ∧ Zk o s ∧ (zg m = true → s.heap.size = o.1 + n0) ∧ o.1 + n0 ≤ s.heap.size
/-- the end of a method -/
def Zq (m : Zm) (o : Zo) (n0 : Nat) (Q : Option Value → Nat → (Nat → En) → Prop) (A : Nat → Prop) : Array Value → State → Outcome → State → Prop := fun _ st oc t =>
  (∃ (v : Option Value) (n' : Nat) (f' : Nat → En), oc = .returned (v.map (trV o.1)) ∧ Q v n' f' ∧ n0 ≤ n' ∧ Hw o n' f' t.heap ∧ t.heap.size + n0 = st.heap.size + n' ∧ (zg m = false → n' = n0)) ∧ va_F A st t
/-- where a method's walk stands -/
def Zs (m : Zm) (s : State) (o : Zo) (n0 : Nat) (H : Heap) (locs : List Loc) (ls : Array Slot) (lo : List (Nat × Value)) (n : Nat) (f : Nat → En) : Prop :=
  Hw o n f H ∧ n0 ≤ n ∧ H.size + n0 = s.heap.size + n ∧ (zg m = false → n = n0) ∧ va_S (zA o.1 n0 s.heap.size) s.heap H locs ∧ lv_has ls (zl m) (lo.map (trL o.1))
def wp0 (m : Zm) (Q : Option Value → Nat → (Nat → En) → Prop) (pc : Nat) (lo : List (Nat × Value)) (st : List Value) (cs ss : Nat) (n : Nat) (f : Nat → En) : Prop :=
  ∀ (p : Program) (l : Launch) (e : Env) (s : State) (mi : MethodId) (args : Array Value) (below : List Frame) (meth : Method) (c : Code) (o : Zo) (n0 : Nat) (H : Heap) (locs : List Loc) (ls : Array Slot),
    Zx m p s mi args meth c o n0 → Zs m s o n0 H locs ls lo n f →
    W p l e (headSpec (zw m) (zR m)).room s mi args below meth c H locs cs ss (MQ below (Zq m o n0 Q (zA o.1 n0 s.heap.size)) args s (zR m).cells (zR m).slots (zA o.1 n0 s.heap.size)) (F0 mi pc ls (st.map (trV o.1)))
/-- a method's contract at given arguments and a given world -/
def Call0 (m : Zm) (as : List Value) (n : Nat) (f : Nat → En) (Q : Option Value → Nat → (Nat → En) → Prop) : Prop :=
  ∀ (l : Launch) (o : Zo) (sz : Nat), Met l (zy m) (zw m) (zR m) (va_Pc (as.map (trV o.1)) (fun U => U.heap.size = sz ∧ Hw o n f U.heap ∧ Zk o U ∧ (zg m = true → sz = o.1 + n) ∧ o.1 + n ≤ sz)) (Zq m o n Q (zA o.1 n sz)) (zR m).cells (zR m).slots (zA o.1 n sz)
theorem lv_args_tr (B : Nat) : ∀ (as : List Value) (i : Nat), lv_args i (as.map (trV B)) = (lv_args i as).map (trL B)
  | [], _ => rfl
  | v :: vs, i => by
    show (i, trV B v) :: lv_args (if (trV B v).category = 2 then i + 2 else i + 1) (vs.map (trV B)) = (i, trV B v) :: (lv_args (if v.category = 2 then i + 2 else i + 1) vs).map (trL B)
    rw [trV_cat, lv_args_tr B vs]
theorem lg_sl_tr (B : Nat) : ∀ (as : List Value), (lg_sl (as.map (trV B))).length = (lg_sl as).length
  | [] => rfl
  | v :: vs => by
    have ih := lg_sl_tr B vs
    simp only [lg_sl, List.map_cons, List.flatMap_cons, List.length_append] at ih ⊢
    rw [ih, trV_cat]
    split <;> rfl
/-- a contract out of a walk -/
theorem call0_of {m : Zm} {as : List Value} {n : Nat} {f : Nat → En} {Q : Option Value → Nat → (Nat → En) → Prop} (hpl : plainName (zy m).cls = true) (hlen : (lg_sl as).length ≤ zl m) (h : wp0 m Q 0 (lv_args 0 as) [] 0 0 n f) : Call0 m as n f Q := by
  intro l o sz
  refine Met.ofW (cc := zb m) (maxL := zl m) (ret := zr m) hpl rfl ?_
  intro p e s mi args below meth c s₁ B hml hv
  obtain ⟨rfl, hsz, hH, hK, hg, hb⟩ := hv
  subst hsz
  have hts := atoms_spec (ws := zw m) B.pre
  have hx : Zx m p s mi (as.map (trV o.1)).toArray meth c o n := ⟨B.exec, B.bytes, B.returns, hml, findClass_of_methodNamed B.named, hts, B.notSynchronized, (name_of_methodNamed B.named B.method).1, hK, hg, hb⟩
  have hl := lv_entry (as.map (trV o.1)) (n := zl m) (by rw [lg_sl_tr]; exact hlen)
  rw [lg_entry_eq]
  generalize (lg_sl (as.map (trV o.1)) ++ List.replicate (zl m - (lg_sl (as.map (trV o.1))).length) Slot.unset).toArray = ls at hl ⊢
  rw [lv_args_tr] at hl
  exact h p l e s mi _ below meth c o n s.heap [] ls hx ⟨hH, Nat.le_refl _, rfl, fun _ => rfl, va_S.rf, hl⟩
end
section
/-! the rows of the logic: an instruction a row -/
section ZST
variable {m : Zm} {Q : Option Value → Nat → (Nat → En) → Prop} {pc : Nat} {lo lo' : List (Nat × Value)} {st : List Value} {cs ss n : Nat} {f : Nat → En}
theorem zlo {o : Zo} {ls : Array Slot} {nL : Nat} (h : lv_has ls nL (lo.map (trL o.1))) (k : Nat) {i : Nat} {v : Value} (hk : lo[k]? = some (i, v)) : ls[i]? = some (.val (trV o.1 v)) :=
  h.2.2 (i, trV o.1 v) (List.mem_of_getElem? (i := k) (by rw [List.getElem?_map, hk]; rfl))
theorem zfil1 (B i : Nat) : ∀ l : List (Nat × Value), (l.map (trL B)).filter (fun q => !(q.1 == i) && !(q.1 + 1 == i && q.2.category == 2)) = (l.filter (fun q => !(q.1 == i) && !(q.1 + 1 == i && q.2.category == 2))).map (trL B) := fun l => by
  rw [List.filter_map]
  congr 1
  apply List.filter_congr
  intro q _
  show (!(q.1 == i) && !(q.1 + 1 == i && (trV B q.2).category == 2)) = _
  rw [trV_cat]
theorem zfil2 (B i : Nat) : ∀ l : List (Nat × Value), (l.map (trL B)).filter (fun q => !(q.1 == i) && (!(q.1 == i + 1) && !(q.1 + 1 == i && q.2.category == 2))) = (l.filter (fun q => !(q.1 == i) && (!(q.1 == i + 1) && !(q.1 + 1 == i && q.2.category == 2)))).map (trL B) := fun l => by
  rw [List.filter_map]
  congr 1
  apply List.filter_congr
  intro q _
  show (!(q.1 == i) && (!(q.1 == i + 1) && !(q.1 + 1 == i && (trV B q.2).category == 2))) = _
  rw [trV_cat]
/-- fewer locals, in any order -/
theorem s_sub (ks : List Nat) (hl : lv_pick lo ks = lo') (kk : wp0 m Q pc lo' st cs ss n f) : wp0 m Q pc lo st cs ss n f := fun p l e s mi args below meth c o n0 H locs ls C S =>
  kk p l e s mi args below meth c o n0 H locs ls C ⟨S.1, S.2.1, S.2.2.1, S.2.2.2.1, S.2.2.2.2.1, lv_sub S.2.2.2.2.2 ks (by
    rw [← hl]
    unfold lv_pick
    rw [List.map_filterMap]
    congr 1
    funext k
    rw [List.getElem?_map])⟩
theorem s_mono {Q' : Option Value → Nat → (Nat → En) → Prop} (h : ∀ v n f, Q' v n f → Q v n f) (kk : wp0 m Q' pc lo st cs ss n f) : wp0 m Q pc lo st cs ss n f := fun p l e s mi args below meth c o n0 H locs ls C S T hT X => by
  obtain ⟨t, a, oc, b1, b2, ⟨⟨v, n', f', c1, c2, c3⟩, c4⟩, b4⟩ := kk p l e s mi args below meth c o n0 H locs ls C S T hT X
  exact ⟨t, a, oc, b1, b2, ⟨⟨v, n', f', c1, h _ _ _ c2, c3⟩, c4⟩, b4⟩

theorem s_iconst {z : Int} {v : Int32} (hd : decode (zb m) pc = .ok (.iconst z, 1)) (hv : Int32.ofInt z = v) (kk : wp0 m Q (pc + 1) lo (.int v :: st) cs ss n f) : wp0 m Q pc lo st cs ss n f := fun p l e s mi args below meth c o n0 H locs ls C S => lv_iconst C.1 C.2.1 hd hv (kk p l e s mi args below meth c o n0 H locs ls C S)
theorem s_bipush {z : Int} {v : Int32} (hd : decode (zb m) pc = .ok (.bipush z, 2)) (hv : (Int8.ofInt z).toInt32 = v) (kk : wp0 m Q (pc + 2) lo (.int v :: st) cs ss n f) : wp0 m Q pc lo st cs ss n f := fun p l e s mi args below meth c o n0 H locs ls C S => lv_bipush C.1 C.2.1 hd hv (kk p l e s mi args below meth c o n0 H locs ls C S)
theorem s_sipush {z : Int} {v : Int32} (hd : decode (zb m) pc = .ok (.sipush z, 3)) (hv : (Int16.ofInt z).toInt32 = v) (kk : wp0 m Q (pc + 3) lo (.int v :: st) cs ss n f) : wp0 m Q pc lo st cs ss n f := fun p l e s mi args below meth c o n0 H locs ls C S => lv_sipush C.1 C.2.1 hd hv (kk p l e s mi args below meth c o n0 H locs ls C S)
theorem s_lconst {z : Fin 2} {v : Int64} (hd : decode (zb m) pc = .ok (.lconst z, 1)) (hv : Int64.ofNat (z : Nat) = v) (kk : wp0 m Q (pc + 1) lo (.long v :: st) cs ss n f) : wp0 m Q pc lo st cs ss n f := fun p l e s mi args below meth c o n0 H locs ls C S => lv_lconst C.1 C.2.1 hd hv (kk p l e s mi args below meth c o n0 H locs ls C S)
theorem s_ldc {i : Nat} {v : Int32} (hd : decode (zb m) pc = .ok (.ldc i, 2)) (hw : Cond.constant (zy m).cls i v ∈ zG) (kk : wp0 m Q (pc + 2) lo (.int v :: st) cs ss n f) : wp0 m Q pc lo st cs ss n f := fun p l e s mi args below meth c o n0 H locs ls C S => lv_ldc C.1 C.2.1 C.2.2.2.2.1 (C.2.2.2.2.2.1 _ (List.mem_cons_of_mem _ hw)) hd (kk p l e s mi args below meth c o n0 H locs ls C S)
theorem s_ldc2_w {i : Nat} {v : Int64} (hd : decode (zb m) pc = .ok (.ldc2_w i, 3)) (hw : Cond.constantLong (zy m).cls i v ∈ zG) (kk : wp0 m Q (pc + 3) lo (.long v :: st) cs ss n f) : wp0 m Q pc lo st cs ss n f := fun p l e s mi args below meth c o n0 H locs ls C S => lv_ldc2 C.1 C.2.1 C.2.2.2.2.1 (C.2.2.2.2.2.1 _ (List.mem_cons_of_mem _ hw)) hd (kk p l e s mi args below meth c o n0 H locs ls C S)
theorem s_iload {i : Nat} {v : Int32} (k : Nat) (hd : decode (zb m) pc = .ok (.iload i, 2)) (hl : lo[k]? = some (i, .int v)) (kk : wp0 m Q (pc + 2) lo (.int v :: st) cs ss n f) : wp0 m Q pc lo st cs ss n f := fun p l e s mi args below meth c o n0 H locs ls C S => lv_iload C.1 C.2.1 hd (zlo S.2.2.2.2.2 k hl) (kk p l e s mi args below meth c o n0 H locs ls C S)
theorem s_iload_n {j : Fin 4} {i : Nat} {v : Int32} (k : Nat) (hd : decode (zb m) pc = .ok (.iload_n j, 1)) (hi : (j : Nat) = i) (hl : lo[k]? = some (i, .int v)) (kk : wp0 m Q (pc + 1) lo (.int v :: st) cs ss n f) : wp0 m Q pc lo st cs ss n f := fun p l e s mi args below meth c o n0 H locs ls C S => lv_iload_n C.1 C.2.1 hd hi (zlo S.2.2.2.2.2 k hl) (kk p l e s mi args below meth c o n0 H locs ls C S)
theorem s_lload {i : Nat} {v : Int64} (k : Nat) (hd : decode (zb m) pc = .ok (.lload i, 2)) (hl : lo[k]? = some (i, .long v)) (kk : wp0 m Q (pc + 2) lo (.long v :: st) cs ss n f) : wp0 m Q pc lo st cs ss n f := fun p l e s mi args below meth c o n0 H locs ls C S => lv_lload C.1 C.2.1 hd (zlo S.2.2.2.2.2 k hl) (kk p l e s mi args below meth c o n0 H locs ls C S)
theorem s_lload_n {j : Fin 4} {i : Nat} {v : Int64} (k : Nat) (hd : decode (zb m) pc = .ok (.lload_n j, 1)) (hi : (j : Nat) = i) (hl : lo[k]? = some (i, .long v)) (kk : wp0 m Q (pc + 1) lo (.long v :: st) cs ss n f) : wp0 m Q pc lo st cs ss n f := fun p l e s mi args below meth c o n0 H locs ls C S => lv_lload_n C.1 C.2.1 hd hi (zlo S.2.2.2.2.2 k hl) (kk p l e s mi args below meth c o n0 H locs ls C S)
theorem s_aload {i : Nat} {v : Nat} (k : Nat) (hd : decode (zb m) pc = .ok (.aload i, 2)) (hl : lo[k]? = some (i, .ref v)) (kk : wp0 m Q (pc + 2) lo (.ref v :: st) cs ss n f) : wp0 m Q pc lo st cs ss n f := fun p l e s mi args below meth c o n0 H locs ls C S => lv_aload C.1 C.2.1 hd (zlo S.2.2.2.2.2 k hl) (kk p l e s mi args below meth c o n0 H locs ls C S)
theorem s_aload_n {j : Fin 4} {i : Nat} {v : Nat} (k : Nat) (hd : decode (zb m) pc = .ok (.aload_n j, 1)) (hi : (j : Nat) = i) (hl : lo[k]? = some (i, .ref v)) (kk : wp0 m Q (pc + 1) lo (.ref v :: st) cs ss n f) : wp0 m Q pc lo st cs ss n f := fun p l e s mi args below meth c o n0 H locs ls C S => lv_aload_n C.1 C.2.1 hd hi (zlo S.2.2.2.2.2 k hl) (kk p l e s mi args below meth c o n0 H locs ls C S)
theorem s_istore {i : Nat} {v : Int32} (hd : decode (zb m) pc = .ok (.istore i, 2)) (hn : i < zl m) (hl : (i, Value.int v) :: lo.filter (fun q => !(q.1 == i) && !(q.1 + 1 == i && q.2.category == 2)) = lo') (kk : wp0 m Q (pc + 2) lo' st cs ss n f) : wp0 m Q pc lo (.int v :: st) cs ss n f := fun p l e s mi args below meth c o n0 H locs ls C S => lv_istore C.1 C.2.1 hd S.2.2.2.2.2 hn (by rw [zfil1, ← hl]; rfl) (fun ls hl => kk p l e s mi args below meth c o n0 H locs ls C ⟨S.1, S.2.1, S.2.2.1, S.2.2.2.1, S.2.2.2.2.1, hl⟩)
theorem s_istore_n {j : Fin 4} {i : Nat} {v : Int32} (hd : decode (zb m) pc = .ok (.istore_n j, 1)) (hi : (j : Nat) = i) (hn : i < zl m) (hl : (i, Value.int v) :: lo.filter (fun q => !(q.1 == i) && !(q.1 + 1 == i && q.2.category == 2)) = lo') (kk : wp0 m Q (pc + 1) lo' st cs ss n f) : wp0 m Q pc lo (.int v :: st) cs ss n f := fun p l e s mi args below meth c o n0 H locs ls C S => lv_istore_n C.1 C.2.1 hd hi S.2.2.2.2.2 hn (by rw [zfil1, ← hl]; rfl) (fun ls hl => kk p l e s mi args below meth c o n0 H locs ls C ⟨S.1, S.2.1, S.2.2.1, S.2.2.2.1, S.2.2.2.2.1, hl⟩)
theorem s_astore {i : Nat} {v : Nat} (hd : decode (zb m) pc = .ok (.astore i, 2)) (hn : i < zl m) (hl : (i, Value.ref v) :: lo.filter (fun q => !(q.1 == i) && !(q.1 + 1 == i && q.2.category == 2)) = lo') (kk : wp0 m Q (pc + 2) lo' st cs ss n f) : wp0 m Q pc lo (.ref v :: st) cs ss n f := fun p l e s mi args below meth c o n0 H locs ls C S => lv_astore C.1 C.2.1 hd S.2.2.2.2.2 hn (by rw [zfil1, ← hl]; rfl) (fun ls hl => kk p l e s mi args below meth c o n0 H locs ls C ⟨S.1, S.2.1, S.2.2.1, S.2.2.2.1, S.2.2.2.2.1, hl⟩)
theorem s_astore_n {j : Fin 4} {i : Nat} {v : Nat} (hd : decode (zb m) pc = .ok (.astore_n j, 1)) (hi : (j : Nat) = i) (hn : i < zl m) (hl : (i, Value.ref v) :: lo.filter (fun q => !(q.1 == i) && !(q.1 + 1 == i && q.2.category == 2)) = lo') (kk : wp0 m Q (pc + 1) lo' st cs ss n f) : wp0 m Q pc lo (.ref v :: st) cs ss n f := fun p l e s mi args below meth c o n0 H locs ls C S => lv_astore_n C.1 C.2.1 hd hi S.2.2.2.2.2 hn (by rw [zfil1, ← hl]; rfl) (fun ls hl => kk p l e s mi args below meth c o n0 H locs ls C ⟨S.1, S.2.1, S.2.2.1, S.2.2.2.1, S.2.2.2.2.1, hl⟩)
theorem s_lstore {i : Nat} {v : Int64} (hd : decode (zb m) pc = .ok (.lstore i, 2)) (hn : i + 1 < zl m) (hl : (i, Value.long v) :: lo.filter (fun q => !(q.1 == i) && (!(q.1 == i + 1) && !(q.1 + 1 == i && q.2.category == 2))) = lo') (kk : wp0 m Q (pc + 2) lo' st cs ss n f) : wp0 m Q pc lo (.long v :: st) cs ss n f := fun p l e s mi args below meth c o n0 H locs ls C S => lv_lstore C.1 C.2.1 hd S.2.2.2.2.2 hn (by rw [zfil2, ← hl]; rfl) (fun ls hl => kk p l e s mi args below meth c o n0 H locs ls C ⟨S.1, S.2.1, S.2.2.1, S.2.2.2.1, S.2.2.2.2.1, hl⟩)
theorem s_lstore_n {j : Fin 4} {i : Nat} {v : Int64} (hd : decode (zb m) pc = .ok (.lstore_n j, 1)) (hi : (j : Nat) = i) (hn : i + 1 < zl m) (hl : (i, Value.long v) :: lo.filter (fun q => !(q.1 == i) && (!(q.1 == i + 1) && !(q.1 + 1 == i && q.2.category == 2))) = lo') (kk : wp0 m Q (pc + 1) lo' st cs ss n f) : wp0 m Q pc lo (.long v :: st) cs ss n f := fun p l e s mi args below meth c o n0 H locs ls C S => lv_lstore_n C.1 C.2.1 hd hi S.2.2.2.2.2 hn (by rw [zfil2, ← hl]; rfl) (fun ls hl => kk p l e s mi args below meth c o n0 H locs ls C ⟨S.1, S.2.1, S.2.2.1, S.2.2.2.1, S.2.2.2.2.1, hl⟩)
theorem s_iinc {i : Nat} {z : Int} {x v : Int32} (k : Nat) (hd : decode (zb m) pc = .ok (.iinc i z, 3)) (hk : lo[k]? = some (i, .int x)) (hv : x + Int32.ofInt z = v) (hn : i < zl m) (hl : (i, Value.int v) :: lo.filter (fun q => !(q.1 == i) && !(q.1 + 1 == i && q.2.category == 2)) = lo') (kk : wp0 m Q (pc + 3) lo' st cs ss n f) : wp0 m Q pc lo st cs ss n f := fun p l e s mi args below meth c o n0 H locs ls C S => lv_iinc (k := k) C.1 C.2.1 hd S.2.2.2.2.2 (by rw [List.getElem?_map, hk]; rfl) hv hn (by rw [zfil1, ← hl]; rfl) (fun ls hl => kk p l e s mi args below meth c o n0 H locs ls C ⟨S.1, S.2.1, S.2.2.1, S.2.2.2.1, S.2.2.2.2.1, hl⟩)
theorem s_iadd {x y : Int32} (hd : decode (zb m) pc = .ok (.iadd, 1)) (kk : wp0 m Q (pc + 1) lo (.int (x + y) :: st) cs ss n f) : wp0 m Q pc lo (.int y :: .int x :: st) cs ss n f := fun p l e s mi args below meth c o n0 H locs ls C S => lv_iadd C.1 C.2.1 hd (kk p l e s mi args below meth c o n0 H locs ls C S)
theorem s_isub {x y : Int32} (hd : decode (zb m) pc = .ok (.isub, 1)) (kk : wp0 m Q (pc + 1) lo (.int (x - y) :: st) cs ss n f) : wp0 m Q pc lo (.int y :: .int x :: st) cs ss n f := fun p l e s mi args below meth c o n0 H locs ls C S => lv_isub C.1 C.2.1 hd (kk p l e s mi args below meth c o n0 H locs ls C S)
theorem s_imul {x y : Int32} (hd : decode (zb m) pc = .ok (.imul, 1)) (kk : wp0 m Q (pc + 1) lo (.int (x * y) :: st) cs ss n f) : wp0 m Q pc lo (.int y :: .int x :: st) cs ss n f := fun p l e s mi args below meth c o n0 H locs ls C S => lv_imul C.1 C.2.1 hd (kk p l e s mi args below meth c o n0 H locs ls C S)
theorem s_iand {x y : Int32} (hd : decode (zb m) pc = .ok (.iand, 1)) (kk : wp0 m Q (pc + 1) lo (.int (x &&& y) :: st) cs ss n f) : wp0 m Q pc lo (.int y :: .int x :: st) cs ss n f := fun p l e s mi args below meth c o n0 H locs ls C S => lv_iand C.1 C.2.1 hd (kk p l e s mi args below meth c o n0 H locs ls C S)
theorem s_ladd {x y : Int64} (hd : decode (zb m) pc = .ok (.ladd, 1)) (kk : wp0 m Q (pc + 1) lo (.long (x + y) :: st) cs ss n f) : wp0 m Q pc lo (.long y :: .long x :: st) cs ss n f := fun p l e s mi args below meth c o n0 H locs ls C S => lv_ladd C.1 C.2.1 hd (kk p l e s mi args below meth c o n0 H locs ls C S)
theorem s_lmul {x y : Int64} (hd : decode (zb m) pc = .ok (.lmul, 1)) (kk : wp0 m Q (pc + 1) lo (.long (x * y) :: st) cs ss n f) : wp0 m Q pc lo (.long y :: .long x :: st) cs ss n f := fun p l e s mi args below meth c o n0 H locs ls C S => lv_lmul C.1 C.2.1 hd (kk p l e s mi args below meth c o n0 H locs ls C S)
theorem s_idiv {x y : Int32} (hd : decode (zb m) pc = .ok (.idiv, 1)) (hne : ¬ y = 0) (kk : wp0 m Q (pc + 1) lo (.int (x / y) :: st) cs ss n f) : wp0 m Q pc lo (.int y :: .int x :: st) cs ss n f := fun p l e s mi args below meth c o n0 H locs ls C S => lv_idiv C.1 C.2.1 hd hne (kk p l e s mi args below meth c o n0 H locs ls C S)
theorem s_irem {x y : Int32} (hd : decode (zb m) pc = .ok (.irem, 1)) (hne : ¬ y = 0) (kk : wp0 m Q (pc + 1) lo (.int (x - x / y * y) :: st) cs ss n f) : wp0 m Q pc lo (.int y :: .int x :: st) cs ss n f := fun p l e s mi args below meth c o n0 H locs ls C S => lv_irem C.1 C.2.1 hd hne (kk p l e s mi args below meth c o n0 H locs ls C S)
theorem s_ineg {x : Int32} (hd : decode (zb m) pc = .ok (.ineg, 1)) (kk : wp0 m Q (pc + 1) lo (.int (-x) :: st) cs ss n f) : wp0 m Q pc lo (.int x :: st) cs ss n f := fun p l e s mi args below meth c o n0 H locs ls C S => lv_ineg C.1 C.2.1 hd (kk p l e s mi args below meth c o n0 H locs ls C S)
theorem s_i2l {x : Int32} (hd : decode (zb m) pc = .ok (.i2l, 1)) (kk : wp0 m Q (pc + 1) lo (.long x.toInt64 :: st) cs ss n f) : wp0 m Q pc lo (.int x :: st) cs ss n f := fun p l e s mi args below meth c o n0 H locs ls C S => lv_i2l C.1 C.2.1 hd rfl (kk p l e s mi args below meth c o n0 H locs ls C S)
theorem s_lcmp {x y : Int64} (hd : decode (zb m) pc = .ok (.lcmp, 1)) (kk : wp0 m Q (pc + 1) lo (.int (lg_cmp x y) :: st) cs ss n f) : wp0 m Q pc lo (.long y :: .long x :: st) cs ss n f := fun p l e s mi args below meth c o n0 H locs ls C S => W.lcmp C.1 C.2.1 hd (kk p l e s mi args below meth c o n0 H locs ls C S)
theorem s_dup {v : Value} (hd : decode (zb m) pc = .ok (.dup, 1)) (hv : v.category = 1) (kk : wp0 m Q (pc + 1) lo (v :: v :: st) cs ss n f) : wp0 m Q pc lo (v :: st) cs ss n f := fun p l e s mi args below meth c o n0 H locs ls C S => lv_dup C.1 C.2.1 hd (by rw [trV_cat]; exact hv) (kk p l e s mi args below meth c o n0 H locs ls C S)
theorem s_pop {v : Value} (hd : decode (zb m) pc = .ok (.pop, 1)) (hv : v.category = 1) (kk : wp0 m Q (pc + 1) lo st cs ss n f) : wp0 m Q pc lo (v :: st) cs ss n f := fun p l e s mi args below meth c o n0 H locs ls C S => lv_pop C.1 C.2.1 hd (by rw [trV_cat]; exact hv) (kk p l e s mi args below meth c o n0 H locs ls C S)
theorem s_dup2 {v w : Value} (hd : decode (zb m) pc = .ok (.dup2, 1)) (hv : v.category = 1) (hw : w.category = 1) (kk : wp0 m Q (pc + 1) lo (v :: w :: v :: w :: st) cs ss n f) : wp0 m Q pc lo (v :: w :: st) cs ss n f := fun p l e s mi args below meth c o n0 H locs ls C S => lv_dup2_11 C.1 C.2.1 hd (by rw [trV_cat]; exact hv) (by rw [trV_cat]; exact hw) (kk p l e s mi args below meth c o n0 H locs ls C S)
theorem s_goto {off : Int} {tgt : Nat} (hd : decode (zb m) pc = .ok (.goto off, 3)) (ht : (pc : Int) + off = (tgt : Int)) (kk : wp0 m Q tgt lo st cs ss n f) : wp0 m Q pc lo st cs ss n f := fun p l e s mi args below meth c o n0 H locs ls C S => lv_goto C.1 C.2.1 hd ht (kk p l e s mi args below meth c o n0 H locs ls C S)
theorem s_if_eq {x : Int32} {off : Int} {tgt : Nat} (hd : decode (zb m) pc = .ok (.ifCond .eq off, 3)) (ht : (pc : Int) + off = (tgt : Int)) (kk : (x = 0 → wp0 m Q tgt lo st cs ss n f) ∧ (¬ x = 0 → wp0 m Q (pc + 3) lo st cs ss n f)) : wp0 m Q pc lo (.int x :: st) cs ss n f := fun p l e s mi args below meth c o n0 H locs ls C S => lv_if_eq C.1 C.2.1 hd ht (fun q => kk.1 q p l e s mi args below meth c o n0 H locs ls C S) (fun q => kk.2 q p l e s mi args below meth c o n0 H locs ls C S)
theorem s_if_lt {x : Int32} {off : Int} {tgt : Nat} (hd : decode (zb m) pc = .ok (.ifCond .lt off, 3)) (ht : (pc : Int) + off = (tgt : Int)) (kk : (x < 0 → wp0 m Q tgt lo st cs ss n f) ∧ (¬ x < 0 → wp0 m Q (pc + 3) lo st cs ss n f)) : wp0 m Q pc lo (.int x :: st) cs ss n f := fun p l e s mi args below meth c o n0 H locs ls C S => lv_if_lt C.1 C.2.1 hd ht (fun q => kk.1 q p l e s mi args below meth c o n0 H locs ls C S) (fun q => kk.2 q p l e s mi args below meth c o n0 H locs ls C S)
theorem s_if_ge {x : Int32} {off : Int} {tgt : Nat} (hd : decode (zb m) pc = .ok (.ifCond .ge off, 3)) (ht : (pc : Int) + off = (tgt : Int)) (kk : (0 ≤ x → wp0 m Q tgt lo st cs ss n f) ∧ (¬ 0 ≤ x → wp0 m Q (pc + 3) lo st cs ss n f)) : wp0 m Q pc lo (.int x :: st) cs ss n f := fun p l e s mi args below meth c o n0 H locs ls C S => lv_if_ge C.1 C.2.1 hd ht (fun q => kk.1 q p l e s mi args below meth c o n0 H locs ls C S) (fun q => kk.2 q p l e s mi args below meth c o n0 H locs ls C S)
theorem s_if_gt {x : Int32} {off : Int} {tgt : Nat} (hd : decode (zb m) pc = .ok (.ifCond .gt off, 3)) (ht : (pc : Int) + off = (tgt : Int)) (kk : (0 < x → wp0 m Q tgt lo st cs ss n f) ∧ (¬ 0 < x → wp0 m Q (pc + 3) lo st cs ss n f)) : wp0 m Q pc lo (.int x :: st) cs ss n f := fun p l e s mi args below meth c o n0 H locs ls C S => lv_if_gt C.1 C.2.1 hd ht (fun q => kk.1 q p l e s mi args below meth c o n0 H locs ls C S) (fun q => kk.2 q p l e s mi args below meth c o n0 H locs ls C S)
theorem s_if_le {x : Int32} {off : Int} {tgt : Nat} (hd : decode (zb m) pc = .ok (.ifCond .le off, 3)) (ht : (pc : Int) + off = (tgt : Int)) (kk : (x ≤ 0 → wp0 m Q tgt lo st cs ss n f) ∧ (¬ x ≤ 0 → wp0 m Q (pc + 3) lo st cs ss n f)) : wp0 m Q pc lo (.int x :: st) cs ss n f := fun p l e s mi args below meth c o n0 H locs ls C S => lv_if_le C.1 C.2.1 hd ht (fun q => kk.1 q p l e s mi args below meth c o n0 H locs ls C S) (fun q => kk.2 q p l e s mi args below meth c o n0 H locs ls C S)
theorem s_if_ne {x : Int32} {off : Int} {tgt : Nat} (hd : decode (zb m) pc = .ok (.ifCond .ne off, 3)) (ht : (pc : Int) + off = (tgt : Int)) (kk : (x = 0 → wp0 m Q (pc + 3) lo st cs ss n f) ∧ (¬ x = 0 → wp0 m Q tgt lo st cs ss n f)) : wp0 m Q pc lo (.int x :: st) cs ss n f := fun p l e s mi args below meth c o n0 H locs ls C S => lv_if_ne C.1 C.2.1 hd ht (fun q => kk.2 q p l e s mi args below meth c o n0 H locs ls C S) (fun q => kk.1 q p l e s mi args below meth c o n0 H locs ls C S)
theorem s_icmp_eq {x y : Int32} {off : Int} {tgt : Nat} (hd : decode (zb m) pc = .ok (.if_icmp .eq off, 3)) (ht : (pc : Int) + off = (tgt : Int)) (kk : (x = y → wp0 m Q tgt lo st cs ss n f) ∧ (¬ x = y → wp0 m Q (pc + 3) lo st cs ss n f)) : wp0 m Q pc lo (.int y :: .int x :: st) cs ss n f := fun p l e s mi args below meth c o n0 H locs ls C S => lv_icmp_eq C.1 C.2.1 hd ht (fun q => kk.1 q p l e s mi args below meth c o n0 H locs ls C S) (fun q => kk.2 q p l e s mi args below meth c o n0 H locs ls C S)
theorem s_icmp_lt {x y : Int32} {off : Int} {tgt : Nat} (hd : decode (zb m) pc = .ok (.if_icmp .lt off, 3)) (ht : (pc : Int) + off = (tgt : Int)) (kk : (x < y → wp0 m Q tgt lo st cs ss n f) ∧ (¬ x < y → wp0 m Q (pc + 3) lo st cs ss n f)) : wp0 m Q pc lo (.int y :: .int x :: st) cs ss n f := fun p l e s mi args below meth c o n0 H locs ls C S => lv_icmp_lt C.1 C.2.1 hd ht (fun q => kk.1 q p l e s mi args below meth c o n0 H locs ls C S) (fun q => kk.2 q p l e s mi args below meth c o n0 H locs ls C S)
theorem s_icmp_ge {x y : Int32} {off : Int} {tgt : Nat} (hd : decode (zb m) pc = .ok (.if_icmp .ge off, 3)) (ht : (pc : Int) + off = (tgt : Int)) (kk : (y ≤ x → wp0 m Q tgt lo st cs ss n f) ∧ (¬ y ≤ x → wp0 m Q (pc + 3) lo st cs ss n f)) : wp0 m Q pc lo (.int y :: .int x :: st) cs ss n f := fun p l e s mi args below meth c o n0 H locs ls C S => lv_icmp_ge C.1 C.2.1 hd ht (fun q => kk.1 q p l e s mi args below meth c o n0 H locs ls C S) (fun q => kk.2 q p l e s mi args below meth c o n0 H locs ls C S)
theorem s_icmp_gt {x y : Int32} {off : Int} {tgt : Nat} (hd : decode (zb m) pc = .ok (.if_icmp .gt off, 3)) (ht : (pc : Int) + off = (tgt : Int)) (kk : (y < x → wp0 m Q tgt lo st cs ss n f) ∧ (¬ y < x → wp0 m Q (pc + 3) lo st cs ss n f)) : wp0 m Q pc lo (.int y :: .int x :: st) cs ss n f := fun p l e s mi args below meth c o n0 H locs ls C S => lv_icmp_gt C.1 C.2.1 hd ht (fun q => kk.1 q p l e s mi args below meth c o n0 H locs ls C S) (fun q => kk.2 q p l e s mi args below meth c o n0 H locs ls C S)
theorem s_icmp_le {x y : Int32} {off : Int} {tgt : Nat} (hd : decode (zb m) pc = .ok (.if_icmp .le off, 3)) (ht : (pc : Int) + off = (tgt : Int)) (kk : (x ≤ y → wp0 m Q tgt lo st cs ss n f) ∧ (¬ x ≤ y → wp0 m Q (pc + 3) lo st cs ss n f)) : wp0 m Q pc lo (.int y :: .int x :: st) cs ss n f := fun p l e s mi args below meth c o n0 H locs ls C S => lv_icmp_le C.1 C.2.1 hd ht (fun q => kk.1 q p l e s mi args below meth c o n0 H locs ls C S) (fun q => kk.2 q p l e s mi args below meth c o n0 H locs ls C S)
theorem s_icmp_ne {x y : Int32} {off : Int} {tgt : Nat} (hd : decode (zb m) pc = .ok (.if_icmp .ne off, 3)) (ht : (pc : Int) + off = (tgt : Int)) (kk : (x = y → wp0 m Q (pc + 3) lo st cs ss n f) ∧ (¬ x = y → wp0 m Q tgt lo st cs ss n f)) : wp0 m Q pc lo (.int y :: .int x :: st) cs ss n f := fun p l e s mi args below meth c o n0 H locs ls C S => lv_icmp_ne C.1 C.2.1 hd ht (fun q => kk.2 q p l e s mi args below meth c o n0 H locs ls C S) (fun q => kk.1 q p l e s mi args below meth c o n0 H locs ls C S)
theorem s_tabOut {dflt a b : Int} {offs : Array Int} {len : Nat} {x : Int32} {tgt : Nat} (hd : decode (zb m) pc = .ok (.tableswitch dflt a b offs, len)) (h : x.toInt < a ∨ b < x.toInt) (ht : (pc : Int) + dflt = (tgt : Int)) (kk : wp0 m Q tgt lo st cs ss n f) : wp0 m Q pc lo (.int x :: st) cs ss n f := fun p l e s mi args below meth c o n0 H locs ls C S => lv_tableOut C.1 C.2.1 hd h ht (kk p l e s mi args below meth c o n0 H locs ls C S)
theorem s_tabIn {dflt a b : Int} {offs : Array Int} {len : Nat} {x : Int32} {off : Int} {tgt : Nat} (hd : decode (zb m) pc = .ok (.tableswitch dflt a b offs, len)) (h1 : ¬ x.toInt < a) (h2 : ¬ b < x.toInt) (ho : offs[(x.toInt - a).toNat]? = some off) (ht : (pc : Int) + off = (tgt : Int)) (kk : wp0 m Q tgt lo st cs ss n f) : wp0 m Q pc lo (.int x :: st) cs ss n f := fun p l e s mi args below meth c o n0 H locs ls C S => lv_tableIn C.1 C.2.1 hd h1 h2 ho ht (kk p l e s mi args below meth c o n0 H locs ls C S)
theorem s_iret {v : Int32} (hr : zr m = some .int) (hd : decode (zb m) pc = .ok (.ireturn, 1)) (hc : cs ≤ (zR m).cells) (hs : ss ≤ (zR m).slots) (hq : Q (some (.int v)) n f) : wp0 m Q pc lo [.int v] cs ss n f := fun p l e s mi args below meth c o n0 H locs ls C S => W.widen hc hs (W.iret (v := v) C.1 C.2.1 (C.2.2.1.trans hr) (fun t ht _ => ⟨⟨some (.int v), n, f, rfl, hq, S.2.1, by rw [ht]; exact S.1, by rw [ht]; exact S.2.2.1, S.2.2.2.1⟩, S.2.2.2.2.1.F ht⟩) (fun q hq => S.2.2.2.2.1.2.2 q hq) hd C.2.2.2.2.2.2.1)
theorem s_zret {v : Int32} (hr : zr m = some .boolean) (hd : decode (zb m) pc = .ok (.ireturn, 1)) (hc : cs ≤ (zR m).cells) (hs : ss ≤ (zR m).slots) (hn : narrow .boolean (.int v) = .int v) (hq : Q (some (.int v)) n f) : wp0 m Q pc lo [.int v] cs ss n f := fun p l e s mi args below meth c o n0 H locs ls C S => W.widen hc hs (W.zret (v := v) C.1 C.2.1 (C.2.2.1.trans hr) hn (fun t ht _ => ⟨⟨some (.int v), n, f, rfl, hq, S.2.1, by rw [ht]; exact S.1, by rw [ht]; exact S.2.2.1, S.2.2.2.1⟩, S.2.2.2.2.1.F ht⟩) (fun q hq => S.2.2.2.2.1.2.2 q hq) hd C.2.2.2.2.2.2.1)
theorem s_lret {v : Int64} (hr : zr m = some .long) (hd : decode (zb m) pc = .ok (.lreturn, 1)) (hc : cs ≤ (zR m).cells) (hs : ss ≤ (zR m).slots) (hq : Q (some (.long v)) n f) : wp0 m Q pc lo [.long v] cs ss n f := fun p l e s mi args below meth c o n0 H locs ls C S => W.widen hc hs (W.lret (v := v) C.1 C.2.1 (C.2.2.1.trans hr) (fun t ht _ => ⟨⟨some (.long v), n, f, rfl, hq, S.2.1, by rw [ht]; exact S.1, by rw [ht]; exact S.2.2.1, S.2.2.2.1⟩, S.2.2.2.2.1.F ht⟩) (fun q hq => S.2.2.2.2.1.2.2 q hq) hd C.2.2.2.2.2.2.1)
theorem s_vret  (hr : zr m = none) (hd : decode (zb m) pc = .ok (.return_, 1)) (hc : cs ≤ (zR m).cells) (hs : ss ≤ (zR m).slots) (hq : Q none n f) : wp0 m Q pc lo [] cs ss n f := fun p l e s mi args below meth c o n0 H locs ls C S => W.widen hc hs (W.vret C.1 C.2.1 (C.2.2.1.trans hr) (fun t ht _ => ⟨⟨none, n, f, rfl, hq, S.2.1, by rw [ht]; exact S.1, by rw [ht]; exact S.2.2.1, S.2.2.2.1⟩, S.2.2.2.2.1.F ht⟩) (fun q hq => S.2.2.2.2.1.2.2 q hq) hd C.2.2.2.2.2.2.1)
theorem s_aret {v : Nat} {rt : FieldType} (hr : zr m = some rt) (hrt : (∃ q, rt = .object q) ∨ ∃ t, rt = .array t) (hd : decode (zb m) pc = .ok (.areturn, 1)) (hc : cs ≤ (zR m).cells) (hs : ss ≤ (zR m).slots) (hq : Q (some (.ref v)) n f) : wp0 m Q pc lo [.ref v] cs ss n f := fun p l e s mi args below meth c o n0 H locs ls C S => W.widen hc hs (W.aret (v := .ref (o.1 + v)) C.1 C.2.1 (C.2.2.1.trans hr) hrt (Or.inr ⟨_, rfl⟩) (fun t ht _ => ⟨⟨some (.ref v), n, f, rfl, hq, S.2.1, by rw [ht]; exact S.1, by rw [ht]; exact S.2.2.1, S.2.2.2.1⟩, S.2.2.2.2.1.F ht⟩) (fun q hq => S.2.2.2.2.1.2.2 q hq) hd C.2.2.2.2.2.2.1)
end ZST
end
section
/-! the rows of the logic that look at the world, and the calls -/
section ZHP
variable {m : Zm} {Q : Option Value → Nat → (Nat → En) → Prop} {pc : Nat} {lo lo' : List (Nat × Value)} {st : List Value} {cs ss n : Nat} {f : Nat → En}
theorem zone {D : va_G} {x : Nat × va_E} {H : Heap} (h : va_at D zcl x H) : va_P D zcl [x] H := fun k q hk => by
  have h0 : k < 1 := (List.getElem?_eq_some_iff.mp hk).1
  rw [show k = 0 by omega] at hk
  cases hk
  exact h
theorem zmem {p : Program} {s : State} {mi : MethodId} {args : Array Value} {meth : Method} {c : Code} {o : Zo} {n0 : Nat} {H : Heap} {locs : List Loc} {ls : Array Slot} (C : Zx m p s mi args meth c o n0) (S : Zs m s o n0 H locs ls lo n f) {a : Nat} (ha : a < n) : zA o.1 n0 s.heap.size (o.1 + a) := by
  obtain ⟨-, -, -, -, -, -, -, -, -, hg, hb⟩ := C
  obtain ⟨-, h1, h2, h3, -⟩ := S
  by_cases h : a < n0
  · exact Or.inl ⟨by omega, by omega⟩
  · cases hgm : zg m with
    | true =>
      have := hg hgm
      exact Or.inr (by omega)
    | false =>
      have := h3 hgm
      omega
theorem zaddr {p : Program} {s : State} {mi : MethodId} {args : Array Value} {meth : Method} {c : Code} {o : Zo} {n0 : Nat} {H : Heap} {locs : List Loc} {ls : Array Slot} (C : Zx m p s mi args meth c o n0) (S : Zs m s o n0 H locs ls lo n f) (hgm : zg m = true) : H.size = o.1 + n := by
  have h1 := C.2.2.2.2.2.2.2.2.2.1 hgm
  have h2 := S.2.2.1
  omega
theorem s_get {ci k index a : Nat} {fs : List Value} {q : vw_C} {v : Value} (hd : decode (zb m) pc = .ok (.getfield index, 3)) (hq : zcl[ci]? = some q) (hk : k < q.2.2) (hw : Cond.fieldLink (zy m).cls index (q.2.1 k).1 (q.2.1 k).2.1 (q.2.1 k).2.2.1 ∈ zG) (hf : f a = .inr (ci, fs)) (ha : a < n) (hv : fs[k]? = some v) (kk : wp0 m Q (pc + 3) lo (v :: st) cs ss n f) : wp0 m Q pc lo (.ref a :: st) cs ss n f := fun p l e s mi args below meth c o n0 H locs ls C S =>
  va_get (D := o.2.1) (ws := [(o.1 + a, trE o (f a))]) (tys := ztys o) (Ts := zw m) C.1 C.2.1 C.2.2.2.2.2.1 (fun w h => List.mem_cons_of_mem _ (zcl_in ci q hq w h)) C.2.2.2.2.1 C.2.2.2.2.2.2.2.2.1.1 (zone (S.1 a ha)) 0 (by rw [hf]; rfl) hq k hk (C.2.2.2.2.2.1 _ (List.mem_cons_of_mem _ hw)) (fun _ h => h) (by rw [List.getElem?_map, hv]; rfl) hd (kk p l e s mi args below meth c o n0 H locs ls C S)
theorem s_put {ci k index a : Nat} {fs : List Value} {q : vw_C} {v : Value} (hd : decode (zb m) pc = .ok (.putfield index, 3)) (hq : zcl[ci]? = some q) (hk : k < q.2.2) (hw : Cond.fieldLink (zy m).cls index (q.2.1 k).1 (q.2.1 k).2.1 (q.2.1 k).2.2.1 ∈ zG) (hfin : (q.2.1 k).2.2.2 = false) (hf : f a = .inr (ci, fs)) (ha : a < n) (hn : ∀ B, narrow (ztf ci k) (trV B v) = trV B v ∧ fits (ztf ci k) (trV B v) = true) (hl : k < fs.length) (kk : wp0 m Q (pc + 3) lo st cs ss n (va_up f a (.inr (ci, fs.set k v)))) : wp0 m Q pc lo (v :: .ref a :: st) cs ss n f := by
  intro p l e s mi args below meth c o n0 H locs ls C S
  have hts := C.2.2.2.2.2.1
  have hin : ∀ w ∈ u_ws q.1 q.2.1 q.2.2, w ∈ zw m := fun w h => List.mem_cons_of_mem _ (zcl_in ci q hq w h)
  have hK := C.2.2.2.2.2.2.2.2.1.1
  have hap := va_apart (own := (zy m).cls) (C := q.1) (T := q.2.1) (N := q.2.2) hts hin (ztf ci) (zcl_ty ci q hq) (zcl_nm ci q hq) hK hq
  have hat := S.1 a ha
  rw [hf] at hat
  obtain ⟨r, h1, cell, q1, q2, q3, q4⟩ := hat
  have hr : r = q := Option.some.inj (h1.symm.trans hq)
  subst hr
  obtain ⟨hS, hfc, kC, hkC, hkind⟩ := hK.1 ci _ hq
  obtain ⟨cf, kf, fi, fd, hi, hsl⟩ := hS k hk
  have hlay := hts _ (hin _ (u_in_lay hk))
  unfold u_lay at hlay
  rw [if_neg (by rw [hfin]; decide)] at hlay
  have hst := (u_facts hfc hkC (u_lays hts hin hk) hi).1
  have h6 := u_store hfc hkC hkind hlay hi (zcl_ty ci r hq k hk) (hn o.1).1 (hn o.1).2
  refine W.putK C.1 C.2.1 (f := fd) ⟨C.2.2.2.2.1, hts _ (List.mem_cons_of_mem _ hw), ⟨_, _, _, hi⟩, hst⟩ (by rw [q2]; exact h6) q1 q3 (by rw [hsl]; exact k2_hasslot (q4 k hk)) rfl rfl hd fun H' e1 e2 e3 => ?_
  rw [hsl] at e1 ⊢
  refine kk p l e s mi args below meth c o n0 H' _ ls C ⟨S.1.put (e := .inr (ci, fs.set k v)) ?_ e3, S.2.1, by rw [e2]; exact S.2.2.1, S.2.2.2.1, S.2.2.2.2.1.put e2 e3 (zmem C S ha), S.2.2.2.2.2⟩
  refine ⟨_, hq, t_OB.to (V := updV (vp_V (fs.map (trV o.1))) k (trV o.1 v)) ⟨_, e1, q2, q3, t_set q4 hap hk (trV o.1 v)⟩ (fun j _ => ?_)⟩
  rw [List.map_set]
  exact vp_updV_set (by rw [List.length_map]; exact hl) _ j
theorem s_putF {ci k index a : Nat} {fs : List Value} {q : vw_C} {v : Value} (hd : decode (zb m) pc = .ok (.putfield index, 3)) (hq : zcl[ci]? = some q) (hk : k < q.2.2) (hw : Cond.fieldLink (zy m).cls index (q.2.1 k).1 (q.2.1 k).2.1 (q.2.1 k).2.2.1 ∈ zG) (hfin : (q.2.1 k).2.2.2 = true) (hini : (zy m).name = "<init>") (hdecl : (q.2.1 k).1 = (zy m).cls) (hf : f a = .inr (ci, fs)) (ha : a < n) (hn : ∀ B, narrow (ztf ci k) (trV B v) = trV B v ∧ fits (ztf ci k) (trV B v) = true) (hl : k < fs.length) (kk : wp0 m Q (pc + 3) lo st cs ss n (va_up f a (.inr (ci, fs.set k v)))) : wp0 m Q pc lo (v :: .ref a :: st) cs ss n f := by
  intro p l e s mi args below meth c o n0 H locs ls C S
  have hts := C.2.2.2.2.2.1
  have hown := C.2.2.2.2.1
  have hin : ∀ w ∈ u_ws q.1 q.2.1 q.2.2, w ∈ zw m := fun w h => List.mem_cons_of_mem _ (zcl_in ci q hq w h)
  have hK := C.2.2.2.2.2.2.2.2.1.1
  have hap := va_apart (own := (zy m).cls) (C := q.1) (T := q.2.1) (N := q.2.2) hts hin (ztf ci) (zcl_ty ci q hq) (zcl_nm ci q hq) hK hq
  have hat := S.1 a ha
  rw [hf] at hat
  obtain ⟨r, h1, cell, q1, q2, q3, q4⟩ := hat
  have hr : r = q := Option.some.inj (h1.symm.trans hq)
  subst hr
  obtain ⟨hS, hfc, kC, hkC, hkind⟩ := hK.1 ci _ hq
  obtain ⟨cf, kf, fi, fd, hi, hsl⟩ := hS k hk
  have hlay := hts _ (hin _ (u_in_lay hk))
  unfold u_lay at hlay
  rw [if_pos hfin] at hlay
  have hst := (u_facts hfc hkC (u_lays hts hin hk) hi).1
  have hcf : mi.cls = cf := by
    obtain ⟨_, _, c', _, _, _, -, -, hf', -, -, -, hown2, -⟩ := Cond.laysFinal_spec hlay
    have e1 : c' = cf := by have := hi.symm.trans hf'; simp at this; exact this.1.symm
    rw [hdecl] at hown2
    rw [← e1]; exact Option.some.inj (hown.symm.trans hown2)
  have h6 := u_fits hfc hkC hkind (Or.inr hlay) hi (zcl_ty ci r hq k hk) (hn o.1).1 (hn o.1).2
  refine W.putFinK C.1 C.2.1 hown (hts _ (List.mem_cons_of_mem _ hw)) hi hst hcf (C.2.2.2.2.2.2.2.1.trans hini) (by rw [q2]; exact h6) q1 q3 (by rw [hsl]; exact k2_hasslot (q4 k hk)) rfl rfl hd fun H' e1 e2 e3 => ?_
  rw [hsl] at e1 ⊢
  refine kk p l e s mi args below meth c o n0 H' _ ls C ⟨S.1.put (e := .inr (ci, fs.set k v)) ?_ e3, S.2.1, by rw [e2]; exact S.2.2.1, S.2.2.2.1, S.2.2.2.2.1.put e2 e3 (zmem C S ha), S.2.2.2.2.2⟩
  refine ⟨_, hq, t_OB.to (V := updV (vp_V (fs.map (trV o.1))) k (trV o.1 v)) ⟨_, e1, q2, q3, t_set q4 hap hk (trV o.1 v)⟩ (fun j _ => ?_)⟩
  rw [List.map_set]
  exact vp_updV_set (by rw [List.length_map]; exact hl) _ j
theorem s_iald {a len : Nat} {g : Nat → Int32} {i : Int32} (hd : decode (zb m) pc = .ok (.iaload, 1)) (hf : f a = .inl (0, len, .inl g)) (ha : a < n) (hin : vp_in i len) (kk : wp0 m Q (pc + 1) lo (.int (g i.toNatClampNeg) :: st) cs ss n f) : wp0 m Q pc lo (.int i :: .ref a :: st) cs ss n f := fun p l e s mi args below meth c o n0 H locs ls C S =>
  va_iald (D := o.2.1) (ws := [(o.1 + a, trE o (f a))]) (tys := ztys o) C.1 C.2.1 C.2.2.2.2.2.2.2.2.1.1 (zone (S.1 a ha)) 0 0 (by rw [hf]; rfl) rfl hin hd (kk p l e s mi args below meth c o n0 H locs ls C S)
theorem s_zald {a len : Nat} {g : Nat → Int32} {i : Int32} (hd : decode (zb m) pc = .ok (.baload, 1)) (hf : f a = .inl (2, len, .inl g)) (ha : a < n) (hin : vp_in i len) (kk : wp0 m Q (pc + 1) lo (.int (g i.toNatClampNeg) :: st) cs ss n f) : wp0 m Q pc lo (.int i :: .ref a :: st) cs ss n f := fun p l e s mi args below meth c o n0 H locs ls C S =>
  va_zald (D := o.2.1) (ws := [(o.1 + a, trE o (f a))]) (tys := ztys o) C.1 C.2.1 C.2.2.2.2.2.2.2.2.1.1 (zone (S.1 a ha)) 0 2 (by rw [hf]; rfl) rfl hin hd (kk p l e s mi args below meth c o n0 H locs ls C S)
theorem s_lald {a len : Nat} {g : Nat → Int64} {i : Int32} (hd : decode (zb m) pc = .ok (.laload, 1)) (hf : f a = .inl (1, len, .inr (.inl g))) (ha : a < n) (hin : vp_in i len) (kk : wp0 m Q (pc + 1) lo (.long (g i.toNatClampNeg) :: st) cs ss n f) : wp0 m Q pc lo (.int i :: .ref a :: st) cs ss n f := fun p l e s mi args below meth c o n0 H locs ls C S =>
  va_lald (D := o.2.1) (ws := [(o.1 + a, trE o (f a))]) (tys := ztys o) C.1 C.2.1 C.2.2.2.2.2.2.2.2.1.1 (zone (S.1 a ha)) 0 1 (by rw [hf]; rfl) rfl hin hd (kk p l e s mi args below meth c o n0 H locs ls C S)
theorem s_aald {t a b len : Nat} {ty : FieldType} {g : Nat → Option Nat} {i : Int32} (hd : decode (zb m) pc = .ok (.aaload, 1)) (ht : ∀ o : Zo, (ztys o)[t]? = some (o.2.2 t, ty)) (hty : ty.isReference = true) (hf : f a = .inl (t, len, .inr (.inr g))) (ha : a < n) (hin : vp_in i len) (hg : g i.toNatClampNeg = some b) (kk : wp0 m Q (pc + 1) lo (.ref b :: st) cs ss n f) : wp0 m Q pc lo (.int i :: .ref a :: st) cs ss n f := by
  intro p l e s mi args below meth c o n0 H locs ls C S
  have hlt : i.toNatClampNeg < len := Nat.not_le.mp fun q => hin (Or.inr q)
  have hat := S.1 a ha
  rw [hf] at hat
  have hat : H[o.1 + a]? = some (arrV (o.2.2 t) len (fun j => va_rf ((g j).map (fun a => o.1 + a)))) := hat
  refine W.aald (v := .ref (o.1 + b)) (ty := ty) C.1 C.2.1 hat ((C.2.2.2.2.2.2.2.2.1.1.2 t _ (ht o)).1 len (fun j => va_rf ((g j).map (fun a => o.1 + a)))) hty (fun q => by cases q) (by rw [arrV_size]; exact hin) (by rw [arrV_read _ _ hlt, hg]; rfl) rfl rfl hd (kk p l e s mi args below meth c o n0 H locs ls C S)
theorem s_alen {t a len : Nat} {ty : FieldType} {g : (Nat → Int32) ⊕ (Nat → Int64) ⊕ (Nat → Option Nat)} (hd : decode (zb m) pc = .ok (.arraylength, 1)) (ht : ∀ o : Zo, (ztys o)[t]? = some (o.2.2 t, ty)) (hf : f a = .inl (t, len, g)) (ha : a < n) (kk : wp0 m Q (pc + 1) lo (.int (Int32.ofNat len) :: st) cs ss n f) : wp0 m Q pc lo (.ref a :: st) cs ss n f := by
  intro p l e s mi args below meth c o n0 H locs ls C S
  have kk' := kk p l e s mi args below meth c o n0 H locs ls C S
  obtain g | g | g := g
  · exact va_alen (D := o.2.1) (x := (len, .inl g)) (ws := [(o.1 + a, trE o (f a))]) (tys := ztys o) C.1 C.2.1 C.2.2.2.2.2.2.2.2.1.1 (zone (S.1 a ha)) 0 t (by rw [hf]; rfl) (ht o) rfl hd kk'
  · exact va_alen (D := o.2.1) (x := (len, .inr (.inl g))) (ws := [(o.1 + a, trE o (f a))]) (tys := ztys o) C.1 C.2.1 C.2.2.2.2.2.2.2.2.1.1 (zone (S.1 a ha)) 0 t (by rw [hf]; rfl) (ht o) rfl hd kk'
  · exact va_alen (D := o.2.1) (x := (len, .inr (.inr (.inr (.inr (fun i => (g i).map (fun a => o.1 + a))))))) (ws := [(o.1 + a, trE o (f a))]) (tys := ztys o) C.1 C.2.1 C.2.2.2.2.2.2.2.2.1.1 (zone (S.1 a ha)) 0 t (by rw [hf]; rfl) (ht o) rfl hd kk'
theorem s_iast {a len : Nat} {g : Nat → Int32} {i x : Int32} (hd : decode (zb m) pc = .ok (.iastore, 1)) (hf : f a = .inl (0, len, .inl g)) (ha : a < n) (hin : vp_in i len) (kk : wp0 m Q (pc + 1) lo st cs ss n (va_up f a (.inl (0, len, .inl (upd g i.toNatClampNeg x))))) : wp0 m Q pc lo (.int x :: .int i :: .ref a :: st) cs ss n f := by
  intro p l e s mi args below meth c o n0 H locs ls C S
  have hat := S.1 a ha
  rw [hf] at hat
  have hat : H[o.1 + a]? = some (arrV (o.2.2 0) len (fun j => .int (g j))) := hat
  refine W.iast C.1 C.2.1 hat ((C.2.2.2.2.2.2.2.2.1.1.2 0 _ rfl).1 len (fun j => .int (g j))) (fun q => by cases q) (by rw [arrV_size]; exact hin) rfl rfl hd fun H1 ee z oq => ?_
  refine kk p l e s mi args below meth c o n0 H1 _ ls C ⟨S.1.put ?_ oq, S.2.1, by rw [z]; exact S.2.2.1, S.2.2.2.1, S.2.2.2.2.1.put z oq (zmem C S ha), S.2.2.2.2.2⟩
  show H1[o.1 + a]? = some (vp_cell _ _)
  rw [ee, vp_cell_i, arrV_store]
  congr 2
  funext q
  by_cases hq : q = i.toNatClampNeg
  · subst hq
    simp [updV, upd]
  · simp [updV, upd, hq]
theorem s_zast {a len : Nat} {g : Nat → Int32} {i x : Int32} (hd : decode (zb m) pc = .ok (.bastore, 1)) (hf : f a = .inl (2, len, .inl g)) (ha : a < n) (hin : vp_in i len) (kk : wp0 m Q (pc + 1) lo st cs ss n (va_up f a (.inl (2, len, .inl (upd g i.toNatClampNeg (vp_nar .boolean x)))))) : wp0 m Q pc lo (.int x :: .int i :: .ref a :: st) cs ss n f := by
  intro p l e s mi args below meth c o n0 H locs ls C S
  have hat := S.1 a ha
  rw [hf] at hat
  have hat : H[o.1 + a]? = some (arrV (o.2.2 2) len (fun j => .int (g j))) := hat
  refine W.zast C.1 C.2.1 hat ((C.2.2.2.2.2.2.2.2.1.1.2 2 _ rfl).1 len (fun j => .int (g j))) (fun q => by cases q) (by rw [arrV_size]; exact hin) rfl rfl hd fun H1 ee z oq => ?_
  refine kk p l e s mi args below meth c o n0 H1 _ ls C ⟨S.1.put ?_ oq, S.2.1, by rw [z]; exact S.2.2.1, S.2.2.2.1, S.2.2.2.2.1.put z oq (zmem C S ha), S.2.2.2.2.2⟩
  show H1[o.1 + a]? = some (vp_cell _ _)
  rw [ee, vp_cell_i, arrV_store]
  congr 2
  funext q
  by_cases hq : q = i.toNatClampNeg
  · subst hq
    simp [updV, upd, vp_nar]
    try rfl
  · simp [updV, upd, hq]
theorem s_last {a len : Nat} {g : Nat → Int64} {i : Int32} {x : Int64} (hd : decode (zb m) pc = .ok (.lastore, 1)) (hf : f a = .inl (1, len, .inr (.inl g))) (ha : a < n) (hin : vp_in i len) (kk : wp0 m Q (pc + 1) lo st cs ss n (va_up f a (.inl (1, len, .inr (.inl (vp_updL g i.toNatClampNeg x)))))) : wp0 m Q pc lo (.long x :: .int i :: .ref a :: st) cs ss n f := by
  intro p l e s mi args below meth c o n0 H locs ls C S
  have hat := S.1 a ha
  rw [hf] at hat
  have hat : H[o.1 + a]? = some (arrV (o.2.2 1) len (fun j => .long (g j))) := hat
  refine W.last C.1 C.2.1 hat ((C.2.2.2.2.2.2.2.2.1.1.2 1 _ rfl).1 len (fun j => .long (g j))) (fun q => by cases q) (by rw [arrV_size]; exact hin) rfl rfl hd fun H1 ee z oq => ?_
  refine kk p l e s mi args below meth c o n0 H1 _ ls C ⟨S.1.put ?_ oq, S.2.1, by rw [z]; exact S.2.2.1, S.2.2.2.1, S.2.2.2.2.1.put z oq (zmem C S ha), S.2.2.2.2.2⟩
  show H1[o.1 + a]? = some (vp_cell _ _)
  rw [ee, vp_cell_l, arrV_store]
  congr 2
  funext q
  by_cases hq : q = i.toNatClampNeg
  · subst hq
    simp [updV, vp_updL]
  · simp [updV, vp_updL, hq]
theorem s_aast {t a b len cib : Nat} {g : Nat → Option Nat} {i : Int32} {r : vw_C} {fsb : List Value} (hd : decode (zb m) pc = .ok (.aastore, 1)) (ht : ∀ o : Zo, (ztys o)[t]? = some (o.2.2 t, .object r.1)) (hf : f a = .inl (t, len, .inr (.inr g))) (ha : a < n) (hin : vp_in i len) (hfb : f b = .inr (cib, fsb)) (hb : b < n) (hr : zcl[cib]? = some r) (kk : wp0 m Q (pc + 1) lo st cs ss n (va_up f a (.inl (t, len, .inr (.inr (va_up g i.toNatClampNeg (some b))))))) : wp0 m Q pc lo (.ref b :: .int i :: .ref a :: st) cs ss n f := by
  intro p l e s mi args below meth c o n0 H locs ls C S
  have hK := C.2.2.2.2.2.2.2.2.1.1
  have hat := S.1 a ha
  rw [hf] at hat
  have hat : H[o.1 + a]? = some (arrV (o.2.2 t) len (fun j => va_rf ((g j).map (fun a => o.1 + a)))) := hat
  have hbt := S.1 b hb
  rw [hfb] at hbt
  have hlt : i.toNatClampNeg < len := Nat.not_le.mp fun q => hin (Or.inr q)
  have h0 : ¬ i < 0 := fun q => hin (Or.inl q)
  obtain ⟨r', hr', cellV, g1, g2, g3, -⟩ := hbt
  have hcls := (hK.1 cib r hr).2
  obtain ⟨kA, comp, k1, k2, k3, -⟩ := (hK.2 t _ (ht o)).2
  have hcomp : comp = o.2.1.1 cib := Option.some.inj (k3.symm.trans hcls.1)
  subst hcomp
  obtain ⟨kC, hkC, -⟩ := hcls.2
  refine W.aast C.1 C.2.1 hat (fun q h => by cases h) (fun h => by cases h) k1 k2 rfl hkC ⟨h0, by rw [arrV_size]; exact hlt⟩ g1 (fun q h => by rw [g3] at h; cases h) (by rw [g2]; exact hkC) (by rw [g2]; exact va_assign hcls) rfl rfl hd fun H1 ee z oq => ?_
  refine kk p l e s mi args below meth c o n0 H1 _ ls C ⟨S.1.put ?_ oq, S.2.1, by rw [z]; exact S.2.2.1, S.2.2.2.1, S.2.2.2.2.1.put z oq (zmem C S ha), S.2.2.2.2.2⟩
  show H1[o.1 + a]? = some (vp_cell _ _)
  rw [ee, vp_cell_q, arrV_store]
  congr 2
  funext q
  by_cases hq : q = i.toNatClampNeg
  · subst hq
    simp [updV, va_up, va_rf]
  · simp [updV, va_up, hq]
end ZHP
end
section
/-! the rows of the logic that call -/
/-- a call's static part: room, and what the tables say of the method -/
def Zc (m m' : Zm) (index np : Nat) : Prop := (zR m').frames + 1 ≤ (zR m).frames ∧ 8 + (zl m' + 11) + (zR m').locals ≤ (zR m).locals ∧ (zg m' = true → zg m = true) ∧ Cond.code (zy m') (zb m') (zl m') (zr m') ∈ zG ∧ Cond.initialized (zy m').cls ∈ zG ∧ ((zy m').cls ≠ "java/lang/invoke/MethodHandle" ∧ (zy m').cls ≠ "java/lang/invoke/VarHandle") ∧ (parseMethodDescriptor (zy m').desc).map (fun d => d.parameters.length) = some np
section ZCA
variable {m m' : Zm} {Q Q' : Option Value → Nat → (Nat → En) → Prop} {pc : Nat} {lo lo' : List (Nat × Value)} {st st0 : List Value} {cs ss n : Nat} {f : Nat → En} {as : List Value} {index np : Nat}
theorem zpay {s : State} {args : Array Value} (h : ∀ w ∈ zw m, w.before args s = true) (hc : Cond.code (zy m') (zb m') (zl m') (zr m') ∈ zG) : ∀ w ∈ zw m', ∀ (a' : Array Value) (U : State), s.WarmedH U.vm → w.before a' U = true := by
  intro w hw a' U hW
  have hg : w ∈ zG := by
    rcases List.mem_cons.mp hw with rfl | hw
    · exact hc
    · exact hw
  exact word_at hW (zg_good hg) (h w (List.mem_cons_of_mem _ hg))
theorem zcb {p : Program} {s : State} {mi : MethodId} {args : Array Value} {meth : Method} {c : Code} {o : Zo} {n0 : Nat} (C : Zx m p s mi args meth c o n0) (hz : Zc m m' index np) (hl : Cond.methodLink (zy m).cls index (zy m') ∈ zG) : CallB (headSpec (zw m) (zR m)).room s args (zy m).cls index (zy m') (zb m') (zl m') (zr m') (zw m') (zR m') (zR m').cells (zR m').slots np := by
  have hts := C.2.2.2.2.2.1
  obtain ⟨h1, h2, -, h4, h5, h6, h7⟩ := hz
  exact ⟨rfl, rfl, h1, h2, zpay hts h4, List.mem_cons_self, hts _ (List.mem_cons_of_mem _ h4), hts _ (List.mem_cons_of_mem _ h5), h6, fun sig h => by rw [h] at h7; exact (Option.some.inj h7).symm, hts _ (List.mem_cons_of_mem _ hl)⟩
/-- behind a call -/
theorem zback {p : Program} {l : Launch} {e : Env} {s : State} {mi : MethodId} {args : Array Value} {below : List Frame} {meth : Method} {c : Code} {o : Zo} {n0 : Nat} {H : Heap} {locs : List Loc} {ls : Array Slot} (C : Zx m p s mi args meth c o n0) (S : Zs m s o n0 H locs ls lo n f) (hgg : zg m' = true → zg m = true) {a : Array Value}
    (hr : va_Run p l e (headSpec (zw m) (zR m)).room s mi args below meth c H locs cs ss (zR m').cells (zR m').slots (F0 mi pc ls (st0.map (trV o.1))) (st.map (trV o.1)) (Zq m' o n Q' (zA o.1 n H.size) a) (zA o.1 n H.size))
    (kk : ∀ (v : Option Value) (n' : Nat) (f' : Nat → En), Q' v n' f' → wp0 m Q (pc + 3) lo (v.toList ++ st) (cs + (zR m').cells) (ss + (zR m').slots) n' f') :
    W p l e (headSpec (zw m) (zR m)).room s mi args below meth c H locs cs ss (MQ below (Zq m o n0 Q (zA o.1 n0 s.heap.size)) args s (zR m).cells (zR m).slots (zA o.1 n0 s.heap.size)) (F0 mi pc ls (st0.map (trV o.1))) := by
  intro T hT X
  obtain ⟨v, st₀, t, T', L, h0, X', hL, e1, e2, ⟨⟨v', n', f', hv, hq, hn, hH, hsz, hg⟩, hz, hk⟩, stp⟩ := hr T hT X
  cases hv
  rw [h0] at hz hk hsz
  have hA : ∀ q, zA o.1 n H.size q → zA o.1 n0 s.heap.size q := by
    intro q hq
    have hS1 := S.2.2.2.2.1.1
    rcases hq with ⟨g1, g2⟩ | g1
    · have := zmem C S (a := q - o.1) (by omega)
      rwa [show o.1 + (q - o.1) = q by omega] at this
    · exact Or.inr (by omega)
  obtain ⟨t2, a1, b1⟩ := kk v' n' f' hq p l e s mi args below meth c o n0 T'.heap (locs ++ L) ls C
    ⟨by rw [e1]; exact hH, Nat.le_trans S.2.1 hn, by rw [e1]; have := S.2.2.1; omega, fun hgm => by
      have h1 := S.2.2.2.1 hgm
      have h2 : zg m' = false := by
        cases hgm' : zg m' with
        | false => rfl
        | true => rw [hgg hgm'] at hgm; cases hgm
      have h3 := hg h2
      omega,
     ⟨Nat.le_trans S.2.2.2.2.1.1 (by rw [e1]; exact hz), fun q h1 h2 => by
        rw [e1, hk q (Nat.lt_of_lt_of_le h1 S.2.2.2.2.1.1) (fun z => h2 (hA q z))]
        exact S.2.2.2.2.1.2.1 q h1 h2, fun q hq => by
        rcases List.mem_append.mp hq with h | h
        · exact S.2.2.2.2.1.2.2 q h
        · exact hA _ (hL q h)⟩, S.2.2.2.2.2⟩ T' rfl X'
  refine ⟨t2, ?_, b1⟩
  refine stp t2 ?_
  have e3 : (v'.map (trV o.1)).toList ++ st.map (trV o.1) = (v'.toList ++ st).map (trV o.1) := by
    cases v' <;> rfl
  show Steps p.tables e below (T'.setTop (F0 mi (pc + 3) ls ((v'.map (trV o.1)).toList ++ st.map (trV o.1)))) t2
  rw [e3]
  exact a1
theorem zcat (B : Nat) : ∀ st : List Value, ((st.map (trV B)).map fun v => v.category).sum = (st.map fun v => v.category).sum
  | [] => rfl
  | v :: vs => by
    have := zcat B vs
    simp only [List.map_cons, List.sum_cons, trV_cat, this]
theorem zpre {p : Program} {s : State} {mi : MethodId} {args : Array Value} {meth : Method} {c : Code} {o : Zo} {n0 : Nat} {H : Heap} {locs : List Loc} {ls : Array Slot} (C : Zx m p s mi args meth c o n0) (S : Zs m s o n0 H locs ls lo n f) (hgg : zg m' = true → zg m = true) : ∀ U : State, U.heap = H → s.WarmedH U.vm → (va_Pc (as.map (trV o.1)) (fun U => U.heap.size = H.size ∧ Hw o n f U.heap ∧ Zk o U ∧ (zg m' = true → H.size = o.1 + n) ∧ o.1 + n ≤ H.size)) (as.map (trV o.1)).toArray U := by
  intro U hU hW
  refine ⟨rfl, by rw [hU], by rw [hU]; exact S.1, Zk.warm hW C.2.2.2.2.2.2.2.2.1, fun hg => zaddr C S (hgg hg), ?_⟩
  have h1 := C.2.2.2.2.2.2.2.2.2.2
  have h2 := S.2.2.1
  omega
theorem zblind {n2 sz : Nat} {o : Zo} {gg : Bool} : FrameBlind (va_Pc as (fun U => U.heap.size = sz ∧ Hw o n f U.heap ∧ Zk o U ∧ (gg = true → sz = o.1 + n) ∧ o.1 + n ≤ sz)) := fun a U g mk q => by
  obtain ⟨q0, q1, q2, q3, q4⟩ := q
  exact ⟨q0, q1, q2, Zk.same (u := U) (U := U.calling g mk a) rfl q3, q4⟩
theorem s_callV {b ci : Nat} {fs : List Value} {q : vw_C} (hd : decode (zb m) pc = .ok (.invokevirtual index, 3)) (hz : Zc m m' index np) (hl : Cond.methodLink (zy m).cls index (zy m') ∈ zG) (hi : Cond.instanceMethod (zy m') ∈ zG) (hs : Cond.selects (zy m').cls (zy m') (zy m') ∈ zG) (hq : zcl[ci]? = some q) (hqn : q.1 = (zy m').cls) (hf : f b = .inr (ci, fs)) (hb : b < n) (hst : st0 = as.reverse ++ .ref b :: st) (hn : as.length = np) (hW : (st.map fun v => v.category).sum ≤ 8) (hc : cs + (zR m').cells ≤ (zR m).cells) (hs2 : ss + (zR m').slots ≤ (zR m).slots)
    (hM : Call0 m' (.ref b :: as) n f Q') (kk : ∀ (v : Option Value) (n' : Nat) (f' : Nat → En), Q' v n' f' → wp0 m Q (pc + 3) lo (v.toList ++ st) (cs + (zR m').cells) (ss + (zR m').slots) n' f') : wp0 m Q pc lo st0 cs ss n f := by
  subst hst
  intro p l e s mi args below meth c o n0 H locs ls C S
  have hts := C.2.2.2.2.2.1
  refine zback (Q' := Q') (st := st) (a := (Value.ref (o.1 + b) :: as.map (trV o.1)).toArray) C S hz.2.2.1 ?_ kk
  exact va_runV (As := as.map (trV o.1)) (rest := st.map (trV o.1)) (b := o.1 + b) (C := (zy m').cls) (g := F0 mi pc ls ((as.reverse ++ .ref b :: st).map (trV o.1))) (cells := cs) (slots := ss) (locs := locs) (H := H)
    (S := (⟨C.1, C.2.1, C.2.2.2.1, C.2.2.2.2.1, hts⟩ : CallFix p mi c (zb m) (zl m) s args (zw m) (zy m).cls)) (hM l o H.size) ⟨zcb C hz hl, hts _ (List.mem_cons_of_mem _ hi), hts _ (List.mem_cons_of_mem _ hs)⟩
    ⟨zblind (n2 := 0), by
      have hbt := S.1 b hb
      rw [hf] at hbt
      obtain ⟨q', h1, cell, g1, g2, g3, -⟩ := hbt
      exact ⟨cell, g1, by rw [g3]; rfl, by rw [g2, ← hqn]; exact (C.2.2.2.2.2.2.2.2.1.1.1 ci q hq).2.1⟩, zpre (as := .ref b :: as) C S hz.2.2.1⟩
    rfl (by rw [List.length_map]; exact hn) S.2.2.2.2.2.1 (by show ((as.reverse ++ .ref b :: st).map (trV o.1)) = _; rw [List.map_append, List.map_reverse]; rfl) (lv_room (by rw [zcat]; exact hW)) hd ⟨hc, hs2⟩
theorem s_callS (hd : decode (zb m) pc = .ok (.invokestatic index, 3)) (hz : Zc m m' index np) (hl : Cond.methodLink (zy m).cls index (zy m') ∈ zG) (hi : Cond.static (zy m') ∈ zG) (hst : st0 = as.reverse ++ st) (hn : as.length = np) (hW : (st.map fun v => v.category).sum ≤ 8) (hc : cs + (zR m').cells ≤ (zR m).cells) (hs2 : ss + (zR m').slots ≤ (zR m).slots)
    (hM : Call0 m' as n f Q') (kk : ∀ (v : Option Value) (n' : Nat) (f' : Nat → En), Q' v n' f' → wp0 m Q (pc + 3) lo (v.toList ++ st) (cs + (zR m').cells) (ss + (zR m').slots) n' f') : wp0 m Q pc lo st0 cs ss n f := by
  subst hst
  intro p l e s mi args below meth c o n0 H locs ls C S
  have hts := C.2.2.2.2.2.1
  refine zback (Q' := Q') (st := st) (a := (as.map (trV o.1)).toArray) C S hz.2.2.1 ?_ kk
  exact va_runS (As := as.map (trV o.1)) (rest := st.map (trV o.1)) (g := F0 mi pc ls ((as.reverse ++ st).map (trV o.1))) (cells := cs) (slots := ss) (locs := locs) (H := H)
    (S := (⟨C.1, C.2.1, C.2.2.2.1, C.2.2.2.2.1, hts⟩ : CallFix p mi c (zb m) (zl m) s args (zw m) (zy m).cls)) (hM l o H.size) ⟨zcb C hz hl, hts _ (List.mem_cons_of_mem _ hi)⟩
    ⟨zblind (n2 := 0), zpre (as := as) C S hz.2.2.1⟩
    rfl (by rw [List.length_map]; exact hn) S.2.2.2.2.2.1 (by show ((as.reverse ++ st).map (trV o.1)) = _; rw [List.map_append, List.map_reverse]) (lv_room (by rw [zcat]; exact hW)) hd ⟨hc, hs2⟩
theorem s_callI {b : Nat} (hd : decode (zb m) pc = .ok (.invokespecial index, 3)) (hz : Zc m m' index np) (hl : Cond.methodLink (zy m).cls index (zy m') ∈ zG) (hi : Cond.instanceMethod (zy m') ∈ zG) (hni : (zy m').name = "<init>") (hrn : zr m' = none) (hst : st0 = as.reverse ++ .ref b :: st) (hn : as.length = np) (hW : (st.map fun v => v.category).sum ≤ 8) (hc : cs + (zR m').cells ≤ (zR m).cells) (hs2 : ss + (zR m').slots ≤ (zR m).slots)
    (hM : Call0 m' (.ref b :: as) n f Q') (kk : ∀ (v : Option Value) (n' : Nat) (f' : Nat → En), Q' v n' f' → wp0 m Q (pc + 3) lo (v.toList ++ st) (cs + (zR m').cells) (ss + (zR m').slots) n' f') : wp0 m Q pc lo st0 cs ss n f := by
  subst hst
  intro p l e s mi args below meth c o n0 H locs ls C S
  have hts := C.2.2.2.2.2.1
  have hcb := zcb C hz hl
  rw [hrn] at hcb
  refine zback (Q' := Q') (st := st) (a := (Value.ref (o.1 + b) :: as.map (trV o.1)).toArray) C S hz.2.2.1 ?_ kk
  exact va_runI (As := as.map (trV o.1)) (rest := st.map (trV o.1)) (b := o.1 + b) (g := F0 mi pc ls ((as.reverse ++ .ref b :: st).map (trV o.1))) (cells := cs) (slots := ss) (locs := locs) (H := H)
    (S := (⟨C.1, C.2.1, C.2.2.2.1, C.2.2.2.2.1, hts⟩ : CallFix p mi c (zb m) (zl m) s args (zw m) (zy m).cls)) (hM l o H.size) ⟨hcb, hni, hts _ (List.mem_cons_of_mem _ hi)⟩
    ⟨zblind (n2 := 0), zpre (as := .ref b :: as) C S hz.2.2.1⟩
    rfl (by rw [List.length_map]; exact hn) S.2.2.2.2.2.1 (by show ((as.reverse ++ .ref b :: st).map (trV o.1)) = _; rw [List.map_append, List.map_reverse]; rfl) (lv_room (by rw [zcat]; exact hW)) hd ⟨hc, hs2⟩
/-- a nest mate's private constructor -/
theorem s_callN {b : Nat} {host : String} (hd : decode (zb m) pc = .ok (.invokespecial index, 3)) (hz : Zc m m' index np) (hl : ((zy m).cls, index, zy m', host) ∈ znest) (hi : Cond.instanceMethod (zy m') ∈ zG) (hni : (zy m').name = "<init>") (hrn : zr m' = none) (hst : st0 = as.reverse ++ .ref b :: st) (hn : as.length = np) (hW : (st.map fun v => v.category).sum ≤ 8) (hc : cs + (zR m').cells ≤ (zR m).cells) (hs2 : ss + (zR m').slots ≤ (zR m).slots)
    (hM : Call0 m' (.ref b :: as) n f Q') (kk : ∀ (v : Option Value) (n' : Nat) (f' : Nat → En), Q' v n' f' → wp0 m Q (pc + 3) lo (v.toList ++ st) (cs + (zR m').cells) (ss + (zR m').slots) n' f') : wp0 m Q pc lo st0 cs ss n f := by
  subst hst
  intro p l e s mi args below meth c o n0 H locs ls C S
  have hts := C.2.2.2.2.2.1
  obtain ⟨h1, h2, h3, h4, h5, h6, h7⟩ := id hz
  have hcb : va_CN (headSpec (zw m) (zR m)).room s args (zy m).cls index (zy m') host (zb m') (zl m') none (zw m') (zR m') (zR m').cells (zR m').slots np := by
    rw [← hrn]
    exact ⟨⟨rfl, rfl, h1, h2, zpay hts h4, List.mem_cons_self⟩, hts _ (List.mem_cons_of_mem _ h4), hts _ (List.mem_cons_of_mem _ h5), h6, fun sig h => by rw [h] at h7; exact (Option.some.inj h7).symm, va_Nw.use rfl (C.2.2.2.2.2.2.2.2.1.2.2 _ hl)⟩
  refine zback (Q' := Q') (st := st) (a := (Value.ref (o.1 + b) :: as.map (trV o.1)).toArray) C S hz.2.2.1 ?_ kk
  exact va_runIN (As := as.map (trV o.1)) (rest := st.map (trV o.1)) (b := o.1 + b) (g := F0 mi pc ls ((as.reverse ++ .ref b :: st).map (trV o.1))) (cells := cs) (slots := ss) (locs := locs) (H := H)
    (S := (⟨C.1, C.2.1, C.2.2.2.1, C.2.2.2.2.1, hts⟩ : CallFix p mi c (zb m) (zl m) s args (zw m) (zy m).cls)) (hM l o H.size) ⟨hcb, hni, hts _ (List.mem_cons_of_mem _ hi)⟩
    ⟨zblind (n2 := 0), zpre (as := .ref b :: as) C S hz.2.2.1⟩
    rfl (by rw [List.length_map]; exact hn) S.2.2.2.2.2.1 (by show ((as.reverse ++ .ref b :: st).map (trV o.1)) = _; rw [List.map_append, List.map_reverse]; rfl) (lv_room (by rw [zcat]; exact hW)) hd ⟨hc, hs2⟩
theorem s_objInit {a : Nat} (hd : decode (zb m) pc = .ok (.invokespecial index, 3)) (hl : Cond.methodLink (zy m).cls index Lib.objectInit ∈ zG) (hi : Cond.instanceMethod Lib.objectInit ∈ zG) (hcd : Cond.code Lib.objectInit ⟨#[0xb1]⟩ 1 none ∈ zG) (hfr : 1 ≤ (zR m).frames) (hlo : (st.map fun v => v.category).sum + 12 ≤ (zR m).locals) (kk : wp0 m Q (pc + 3) lo st cs ss n f) : wp0 m Q pc lo (.ref a :: st) cs ss n f := by
  intro p l e s mi args below meth c o n0 H locs ls C S
  have hts := C.2.2.2.2.2.1
  exact W.objInit (g := F0 mi pc ls ((.ref a :: st).map (trV o.1))) C.1 C.2.1 C.2.2.2.2.1 (hts _ (List.mem_cons_of_mem _ hl)) (hts _ (List.mem_cons_of_mem _ hi)) (hts _ (List.mem_cons_of_mem _ hcd)) rfl (S.2.2.2.2.2.1.trans C.2.2.2.1.symm) rfl hd hfr (by show 2 * 0 + _ + 12 ≤ _; rw [zcat]; show _ ≤ (zR m).locals; omega) (kk p l e s mi args below meth c o n0 H locs ls C S)
section ZMA
variable {x y : Int32}
theorem s_mmax (hd : decode (zb m) pc = .ok (.invokestatic index, 3)) (hl : Cond.methodLink (zy m).cls index Lib.Math.max.name ∈ zG) (hst : Cond.static Lib.Math.max.name ∈ zG) (hin : Cond.initialized "java/lang/Math" ∈ zG) (hcd : Cond.code Lib.Math.max.name Lib.Math.max.code 2 (some .int) ∈ zG) (hfr : 1 ≤ (zR m).frames) (hlo : (st.map fun v => v.category).sum + 13 ≤ (zR m).locals) (hc : cs ≤ (zR m).cells) (hs : ss ≤ (zR m).slots) (kk : wp0 m Q (pc + 3) lo (.int (if x < y then y else x) :: st) cs ss n f) : wp0 m Q pc lo (.int y :: .int x :: st) cs ss n f := by
  intro p l e s mi args below meth c o n0 H locs ls C S
  have hts := C.2.2.2.2.2.1
  exact va_mmax C.1 C.2.1 (C.2.2.2.1.trans S.2.2.2.2.2.1.symm) C.2.2.2.2.1 (hts _ (List.mem_cons_of_mem _ hl)) (hts _ (List.mem_cons_of_mem _ hst)) (hts _ (List.mem_cons_of_mem _ hin)) (hts _ (List.mem_cons_of_mem _ hcd)) hfr (by rw [zcat]; exact hlo) hc hs hd (kk p l e s mi args below meth c o n0 H locs ls C S)
theorem s_mmin (hd : decode (zb m) pc = .ok (.invokestatic index, 3)) (hl : Cond.methodLink (zy m).cls index Lib.Math.min.name ∈ zG) (hst : Cond.static Lib.Math.min.name ∈ zG) (hin : Cond.initialized "java/lang/Math" ∈ zG) (hcd : Cond.code Lib.Math.min.name Lib.Math.min.code 2 (some .int) ∈ zG) (hfr : 1 ≤ (zR m).frames) (hlo : (st.map fun v => v.category).sum + 13 ≤ (zR m).locals) (hc : cs ≤ (zR m).cells) (hs : ss ≤ (zR m).slots) (kk : wp0 m Q (pc + 3) lo (.int (if y < x then y else x) :: st) cs ss n f) : wp0 m Q pc lo (.int y :: .int x :: st) cs ss n f := by
  intro p l e s mi args below meth c o n0 H locs ls C S
  have hts := C.2.2.2.2.2.1
  exact va_mmin C.1 C.2.1 (C.2.2.2.1.trans S.2.2.2.2.2.1.symm) C.2.2.2.2.1 (hts _ (List.mem_cons_of_mem _ hl)) (hts _ (List.mem_cons_of_mem _ hst)) (hts _ (List.mem_cons_of_mem _ hin)) (hts _ (List.mem_cons_of_mem _ hcd)) hfr (by rw [zcat]; exact hlo) hc hs hd (kk p l e s mi args below meth c o n0 H locs ls C S)
theorem s_mabs (hd : decode (zb m) pc = .ok (.invokestatic index, 3)) (hl : Cond.methodLink (zy m).cls index Lib.Math.abs.name ∈ zG) (hst : Cond.static Lib.Math.abs.name ∈ zG) (hin : Cond.initialized "java/lang/Math" ∈ zG) (hcd : Cond.code Lib.Math.abs.name Lib.Math.abs.code 1 (some .int) ∈ zG) (hfr : 1 ≤ (zR m).frames) (hlo : (st.map fun v => v.category).sum + 13 ≤ (zR m).locals) (hc : cs ≤ (zR m).cells) (hs : ss ≤ (zR m).slots) (kk : wp0 m Q (pc + 3) lo (.int (if 0 ≤ x then x else 0 - x) :: st) cs ss n f) : wp0 m Q pc lo (.int x :: st) cs ss n f := by
  intro p l e s mi args below meth c o n0 H locs ls C S
  have hts := C.2.2.2.2.2.1
  exact va_mabs C.1 C.2.1 (C.2.2.2.1.trans S.2.2.2.2.2.1.symm) C.2.2.2.2.1 (hts _ (List.mem_cons_of_mem _ hl)) (hts _ (List.mem_cons_of_mem _ hst)) (hts _ (List.mem_cons_of_mem _ hin)) (hts _ (List.mem_cons_of_mem _ hcd)) hfr (by rw [zcat]; exact hlo) hc hs hd (kk p l e s mi args below meth c o n0 H locs ls C S)
end ZMA
end ZCA
end
section
/-! the fixed layout: behind the constructors no cell is made and no reference moves; what moves are numbers: M.1 a k an int (a field's place k, an array's index k), M.2 a k a long -/
abbrev Sh : Type := Nat × Nat × Nat × Nat
abbrev Mem : Type := (Nat → Nat → Int32) × (Nat → Nat → Int64)
/-- the shape of a cell: below 10 an array's type, its length, and for references where the elements lie; from 10 on a class -/
def zsh (y : List Sh) (a : Nat) : Sh := y.getD a (0, 0, 0, 0)
def uI (M : Mem) (a k : Nat) (v : Int32) : Mem := (fun b => if b = a then upd (M.1 a) k v else M.1 b, M.2)
def uL (M : Mem) (a k : Nat) (v : Int64) : Mem := (M.1, fun b => if b = a then vp_updL (M.2 a) k v else M.2 b)
def fval (d : Nat × Nat) (k a : Nat) (M : Mem) : Value := if d.1 = 0 then .int (M.1 a k) else if d.1 = 1 then .long (M.2 a k) else .ref (a + d.2)
def fldV : List (Nat × Nat) → Nat → Nat → Mem → List Value
  | [], _, _, _ => []
  | d :: l, k, a, M => fval d k a M :: fldV l (k + 1) a M
def zfd (ci : Nat) : List (Nat × Nat) := match ci with
  | 0 => [(2, 1), (2, 2), (2, 3), (0, 0), (0, 0)]
  | 1 => [(2, 1), (2, 2), (2, 3), (2, 4), (2, 5), (2, 6), (2, 10), (2, 11), (0, 0), (0, 0)]
  | 2 => [(2, 1), (2, 2), (2, 3), (0, 0)]
  | 3 => [(2, 1), (0, 0), (0, 0), (0, 0)]
  | 4 => [(2, 1), (0, 0)]
  | 5 => [(2, 1), (2, 4), (2, 5)]
  | 6 => [(2, 1), (2, 2), (0, 0)]
  | 7 => [(2, 1), (2, 4), (2, 44), (2, 45), (2, 46), (2, 134), (2, 156), (2, 159), (0, 0), (1, 0)]
  | _ => [(2, 1), (2, 2), (2, 3), (2, 4), (0, 0), (2, 5), (2, 6), (0, 0), (0, 0), (2, 7), (2, 8), (2, 9), (0, 0), (2, 10), (2, 11), (2, 12), (2, 13), (0, 0), (2, 14), (2, 15), (2, 16), (2, 17), (2, 18), (0, 0), (0, 0), (2, 19), (2, 20), (2, 21)]
def entS (q : Sh) (a : Nat) (M : Mem) : En :=
  if 10 ≤ q.1 then .inr (q.1 - 10, fldV (zfd (q.1 - 10)) 0 a M)
  else if q.1 = 1 then .inl (1, q.2.1, .inr (.inl (M.2 a)))
  else if q.1 ≤ 2 then .inl (q.1, q.2.1, .inl (M.1 a))
  else .inl (q.1, q.2.1, .inr (.inr (fun i => if i < q.2.1 then some (a + q.2.2.1 + q.2.2.2 * i) else none)))
def ent (y : List Sh) (M : Mem) (a : Nat) : En := entS (zsh y a) a M
theorem fldV_len : ∀ (l : List (Nat × Nat)) (k a : Nat) (M : Mem), (fldV l k a M).length = l.length
  | [], _, _, _ => rfl
  | d :: l, k, a, M => by
    show (fldV l (k + 1) a M).length + 1 = l.length + 1
    rw [fldV_len l (k + 1) a M]
theorem fldV_get : ∀ (l : List (Nat × Nat)) (k0 a : Nat) (M : Mem) (k : Nat) (d : Nat × Nat), l[k]? = some d → (fldV l k0 a M)[k]? = some (fval d (k0 + k) a M)
  | [], _, _, _, k, d, h => by simp at h
  | e :: l, k0, a, M, 0, d, h => by
    cases h
    rfl
  | e :: l, k0, a, M, k + 1, d, h => by
    show (fldV l (k0 + 1) a M)[k]? = _
    rw [List.getElem?_cons_succ] at h
    rw [fldV_get l (k0 + 1) a M k d h]
    rw [show k0 + 1 + k = k0 + (k + 1) by omega]
theorem fldV_hiI : ∀ (l : List (Nat × Nat)) (k0 a : Nat) (M : Mem) (k : Nat) (v : Int32), k < k0 → fldV l k0 a (uI M a k v) = fldV l k0 a M
  | [], _, _, _, _, _, _ => rfl
  | d :: l, k0, a, M, k, v, h => by
    show fval d k0 a (uI M a k v) :: fldV l (k0 + 1) a (uI M a k v) = fval d k0 a M :: fldV l (k0 + 1) a M
    rw [fldV_hiI l (k0 + 1) a M k v (by omega)]
    congr 1
    have hne : k0 ≠ k := by omega
    simp [fval, uI, upd, hne]
theorem fldV_setI : ∀ (l : List (Nat × Nat)) (k0 a : Nat) (M : Mem) (k : Nat) (v : Int32), l[k]? = some (0, 0) → (fldV l k0 a M).set k (.int v) = fldV l k0 a (uI M a (k0 + k) v)
  | [], _, _, _, k, v, h => by simp at h
  | d :: l, k0, a, M, 0, v, h => by
    cases h
    show Value.int v :: fldV l (k0 + 1) a M = fval (0, 0) k0 a (uI M a k0 v) :: fldV l (k0 + 1) a (uI M a k0 v)
    rw [fldV_hiI l (k0 + 1) a M k0 v (by omega)]
    congr 1
    simp [fval, uI, upd]
  | d :: l, k0, a, M, k + 1, v, h => by
    rw [List.getElem?_cons_succ] at h
    show fval d k0 a M :: (fldV l (k0 + 1) a M).set k (.int v) = fval d k0 a (uI M a (k0 + (k + 1)) v) :: fldV l (k0 + 1) a (uI M a (k0 + (k + 1)) v)
    rw [fldV_setI l (k0 + 1) a M k v h, show k0 + 1 + k = k0 + (k + 1) by omega]
    congr 1
    have hne : k0 ≠ k0 + (k + 1) := by omega
    simp [fval, uI, upd, hne]
theorem fldV_hiL : ∀ (l : List (Nat × Nat)) (k0 a : Nat) (M : Mem) (k : Nat) (v : Int64), k < k0 → fldV l k0 a (uL M a k v) = fldV l k0 a M
  | [], _, _, _, _, _, _ => rfl
  | d :: l, k0, a, M, k, v, h => by
    show fval d k0 a (uL M a k v) :: fldV l (k0 + 1) a (uL M a k v) = fval d k0 a M :: fldV l (k0 + 1) a M
    rw [fldV_hiL l (k0 + 1) a M k v (by omega)]
    congr 1
    have hne : k0 ≠ k := by omega
    simp [fval, uL, vp_updL, hne]
theorem fldV_setL : ∀ (l : List (Nat × Nat)) (k0 a : Nat) (M : Mem) (k : Nat) (v : Int64), l[k]? = some (1, 0) → (fldV l k0 a M).set k (.long v) = fldV l k0 a (uL M a (k0 + k) v)
  | [], _, _, _, k, v, h => by simp at h
  | d :: l, k0, a, M, 0, v, h => by
    cases h
    show Value.long v :: fldV l (k0 + 1) a M = fval (1, 0) k0 a (uL M a k0 v) :: fldV l (k0 + 1) a (uL M a k0 v)
    rw [fldV_hiL l (k0 + 1) a M k0 v (by omega)]
    congr 1
    simp [fval, uL, vp_updL]
  | d :: l, k0, a, M, k + 1, v, h => by
    rw [List.getElem?_cons_succ] at h
    show fval d k0 a M :: (fldV l (k0 + 1) a M).set k (.long v) = fval d k0 a (uL M a (k0 + (k + 1)) v) :: fldV l (k0 + 1) a (uL M a (k0 + (k + 1)) v)
    rw [fldV_setL l (k0 + 1) a M k v h, show k0 + 1 + k = k0 + (k + 1) by omega]
    congr 1
    have hne : k0 ≠ k0 + (k + 1) := by omega
    simp [fval, uL, vp_updL, hne]
theorem fldV_neI : ∀ (l : List (Nat × Nat)) (k0 a b : Nat) (M : Mem) (k : Nat) (v : Int32), b ≠ a → fldV l k0 b (uI M a k v) = fldV l k0 b M
  | [], _, _, _, _, _, _, _ => rfl
  | d :: l, k0, a, b, M, k, v, h => by
    show fval d k0 b (uI M a k v) :: fldV l (k0 + 1) b (uI M a k v) = fval d k0 b M :: fldV l (k0 + 1) b M
    rw [fldV_neI l (k0 + 1) a b M k v h]
    congr 1
    simp [fval, uI, h]
theorem fldV_neL : ∀ (l : List (Nat × Nat)) (k0 a b : Nat) (M : Mem) (k : Nat) (v : Int64), b ≠ a → fldV l k0 b (uL M a k v) = fldV l k0 b M
  | [], _, _, _, _, _, _, _ => rfl
  | d :: l, k0, a, b, M, k, v, h => by
    show fval d k0 b (uL M a k v) :: fldV l (k0 + 1) b (uL M a k v) = fval d k0 b M :: fldV l (k0 + 1) b M
    rw [fldV_neL l (k0 + 1) a b M k v h]
    congr 1
    simp [fval, uL, h]
theorem ent_neI {y : List Sh} {M : Mem} {a b k : Nat} {v : Int32} (h : b ≠ a) : ent y (uI M a k v) b = ent y M b := by
  unfold ent entS
  rw [fldV_neI _ _ _ _ _ _ _ h]
  simp [uI, h]
theorem ent_neL {y : List Sh} {M : Mem} {a b k : Nat} {v : Int64} (h : b ≠ a) : ent y (uL M a k v) b = ent y M b := by
  unfold ent entS
  rw [fldV_neL _ _ _ _ _ _ _ h]
  simp [uL, h]
theorem ent_upI {y : List Sh} {M : Mem} {a k : Nat} {v : Int32} {e : En} (h : ent y (uI M a k v) a = e) : va_up (ent y M) a e = ent y (uI M a k v) := by
  funext b
  by_cases hb : b = a
  · subst hb
    rw [show va_up (ent y M) b e b = e from if_pos rfl, h]
  · rw [show va_up (ent y M) a e b = ent y M b from if_neg hb, ent_neI hb]
theorem ent_upL {y : List Sh} {M : Mem} {a k : Nat} {v : Int64} {e : En} (h : ent y (uL M a k v) a = e) : va_up (ent y M) a e = ent y (uL M a k v) := by
  funext b
  by_cases hb : b = a
  · subst hb
    rw [show va_up (ent y M) b e b = e from if_pos rfl, h]
  · rw [show va_up (ent y M) a e b = ent y M b from if_neg hb, ent_neL hb]
theorem zsh_lt {y : List Sh} {a t len b k : Nat} (h : zsh y a = (t, len, b, k)) (h0 : 0 < t ∨ 0 < len) : a < y.length := by
  rcases Nat.lt_or_ge a y.length with q | q
  · exact q
  · unfold zsh at h
    rw [List.getD_eq_getElem?_getD, List.getElem?_eq_none q] at h
    cases h
    omega
theorem vp_lt {i : Int32} {n : Nat} (h : vp_in i n) : i.toNatClampNeg < n := Nat.not_le.mp fun q => h (Or.inr q)
theorem vp_pos {i : Int32} {n : Nat} (h : vp_in i n) : 0 < n := Nat.lt_of_le_of_lt (Nat.zero_le _) (vp_lt h)
theorem ent_obj {y : List Sh} {a ci : Nat} {M : Mem} (h : zsh y a = (10 + ci, 0, 0, 0)) : ent y M a = .inr (ci, fldV (zfd ci) 0 a M) := by
  unfold ent entS
  rw [h, if_pos (show 10 ≤ 10 + ci by omega), show 10 + ci - 10 = ci by omega]
theorem ent_int {y : List Sh} {a len : Nat} {M : Mem} (h : zsh y a = (0, len, 0, 0)) : ent y M a = .inl (0, len, .inl (M.1 a)) := by
  unfold ent entS
  rw [h]
  rfl
theorem ent_bool {y : List Sh} {a len : Nat} {M : Mem} (h : zsh y a = (2, len, 0, 0)) : ent y M a = .inl (2, len, .inl (M.1 a)) := by
  unfold ent entS
  rw [h]
  rfl
theorem ent_long {y : List Sh} {a len : Nat} {M : Mem} (h : zsh y a = (1, len, 0, 0)) : ent y M a = .inl (1, len, .inr (.inl (M.2 a))) := by
  unfold ent entS
  rw [h]
  rfl
theorem ent_ref {y : List Sh} {a t len b k : Nat} {M : Mem} (h : zsh y a = (t, len, b, k)) (h3 : 3 ≤ t) (h9 : t < 10) : ent y M a = .inl (t, len, .inr (.inr (fun i => if i < len then some (a + b + k * i) else none))) := by
  unfold ent entS
  rw [h, if_neg (show ¬ 10 ≤ t by omega), if_neg (show ¬ t = 1 by omega), if_neg (show ¬ t ≤ 2 by omega)]
/-- the logic over the layout -/
def wp (y : List Sh) (m : Zm) (Q : Option Value → Mem → Prop) (pc : Nat) (lo : List (Nat × Value)) (st : List Value) (M : Mem) : Prop :=
  wp0 m (fun v n f => n = y.length ∧ ∃ M' : Mem, f = ent y M' ∧ Q v M') pc lo st 0 0 y.length (ent y M)
def Call (y : List Sh) (m : Zm) (as : List Value) (M : Mem) (Q : Option Value → Mem → Prop) : Prop :=
  Call0 m as y.length (ent y M) (fun v n f => n = y.length ∧ ∃ M' : Mem, f = ent y M' ∧ Q v M')
def CallI (y : List Sh) (m : Zm) (as : List Value) (M : Mem) (Q : Int32 → Mem → Prop) : Prop := Call y m as M (fun v M' => ∃ r : Int32, v = some (.int r) ∧ Q r M')
def CallL (y : List Sh) (m : Zm) (as : List Value) (M : Mem) (Q : Int64 → Mem → Prop) : Prop := Call y m as M (fun v M' => ∃ r : Int64, v = some (.long r) ∧ Q r M')
def CallR (y : List Sh) (m : Zm) (as : List Value) (M : Mem) (Q : Nat → Mem → Prop) : Prop := Call y m as M (fun v M' => ∃ r : Nat, v = some (.ref r) ∧ Q r M')
def CallV (y : List Sh) (m : Zm) (as : List Value) (M : Mem) (Q : Mem → Prop) : Prop := Call y m as M (fun v M' => v = none ∧ Q M')
theorem call_of {y : List Sh} {m : Zm} {as : List Value} {M : Mem} {Q : Option Value → Mem → Prop} (hpl : plainName (zy m).cls = true) (hlen : (lg_sl as).length ≤ zl m) (h : wp y m Q 0 (lv_args 0 as) [] M) : Call y m as M Q := call0_of hpl hlen h
end
section
/-! the rows of the logic over the layout -/
section ZRW
variable {yy : List Sh} {m m' : Zm} {Q : Option Value → Mem → Prop} {pc q : Nat} {lo lo' : List (Nat × Value)} {st st0 : List Value} {M : Mem}
theorem zt_sub (ks : List Nat) (hl : lv_pick lo ks = lo') (kk : wp yy m Q pc lo' st M) : wp yy m Q pc lo st M := s_sub ks hl kk

theorem zt_iconst {z : Int} {v : Int32} (hd : decode (zb m) pc = .ok (.iconst z, 1)) (hp : pc + 1 = q) (hv : Int32.ofInt z = v) (kk : wp yy m Q q lo (.int v :: st) M) : wp yy m Q pc lo st M := by
  subst hp
  exact s_iconst hd hv kk
theorem zt_bipush {z : Int} {v : Int32} (hd : decode (zb m) pc = .ok (.bipush z, 2)) (hp : pc + 2 = q) (hv : (Int8.ofInt z).toInt32 = v) (kk : wp yy m Q q lo (.int v :: st) M) : wp yy m Q pc lo st M := by
  subst hp
  exact s_bipush hd hv kk
theorem zt_sipush {z : Int} {v : Int32} (hd : decode (zb m) pc = .ok (.sipush z, 3)) (hp : pc + 3 = q) (hv : (Int16.ofInt z).toInt32 = v) (kk : wp yy m Q q lo (.int v :: st) M) : wp yy m Q pc lo st M := by
  subst hp
  exact s_sipush hd hv kk
theorem zt_lconst {z : Fin 2} {v : Int64} (hd : decode (zb m) pc = .ok (.lconst z, 1)) (hp : pc + 1 = q) (hv : Int64.ofNat (z : Nat) = v) (kk : wp yy m Q q lo (.long v :: st) M) : wp yy m Q pc lo st M := by
  subst hp
  exact s_lconst hd hv kk
theorem zt_ldc {i : Nat} {v : Int32} (hd : decode (zb m) pc = .ok (.ldc i, 2)) (hp : pc + 2 = q) (hw : Cond.constant (zy m).cls i v ∈ zG) (kk : wp yy m Q q lo (.int v :: st) M) : wp yy m Q pc lo st M := by
  subst hp
  exact s_ldc hd hw kk
theorem zt_ldc2_w {i : Nat} {v : Int64} (hd : decode (zb m) pc = .ok (.ldc2_w i, 3)) (hp : pc + 3 = q) (hw : Cond.constantLong (zy m).cls i v ∈ zG) (kk : wp yy m Q q lo (.long v :: st) M) : wp yy m Q pc lo st M := by
  subst hp
  exact s_ldc2_w hd hw kk
theorem zt_iload {i : Nat} {v : Int32} (k : Nat) (hd : decode (zb m) pc = .ok (.iload i, 2)) (hp : pc + 2 = q) (hl : lo[k]? = some (i, .int v)) (kk : wp yy m Q q lo (.int v :: st) M) : wp yy m Q pc lo st M := by
  subst hp
  exact s_iload k hd hl kk
theorem zt_iload_n {j : Fin 4} {i : Nat} {v : Int32} (k : Nat) (hd : decode (zb m) pc = .ok (.iload_n j, 1)) (hp : pc + 1 = q) (hi : (j : Nat) = i) (hl : lo[k]? = some (i, .int v)) (kk : wp yy m Q q lo (.int v :: st) M) : wp yy m Q pc lo st M := by
  subst hp
  exact s_iload_n k hd hi hl kk
theorem zt_lload {i : Nat} {v : Int64} (k : Nat) (hd : decode (zb m) pc = .ok (.lload i, 2)) (hp : pc + 2 = q) (hl : lo[k]? = some (i, .long v)) (kk : wp yy m Q q lo (.long v :: st) M) : wp yy m Q pc lo st M := by
  subst hp
  exact s_lload k hd hl kk
theorem zt_lload_n {j : Fin 4} {i : Nat} {v : Int64} (k : Nat) (hd : decode (zb m) pc = .ok (.lload_n j, 1)) (hp : pc + 1 = q) (hi : (j : Nat) = i) (hl : lo[k]? = some (i, .long v)) (kk : wp yy m Q q lo (.long v :: st) M) : wp yy m Q pc lo st M := by
  subst hp
  exact s_lload_n k hd hi hl kk
theorem zt_aload {i : Nat} {v : Nat} (k : Nat) (hd : decode (zb m) pc = .ok (.aload i, 2)) (hp : pc + 2 = q) (hl : lo[k]? = some (i, .ref v)) (kk : wp yy m Q q lo (.ref v :: st) M) : wp yy m Q pc lo st M := by
  subst hp
  exact s_aload k hd hl kk
theorem zt_aload_n {j : Fin 4} {i : Nat} {v : Nat} (k : Nat) (hd : decode (zb m) pc = .ok (.aload_n j, 1)) (hp : pc + 1 = q) (hi : (j : Nat) = i) (hl : lo[k]? = some (i, .ref v)) (kk : wp yy m Q q lo (.ref v :: st) M) : wp yy m Q pc lo st M := by
  subst hp
  exact s_aload_n k hd hi hl kk
theorem zt_istore {i : Nat} {v : Int32} (hd : decode (zb m) pc = .ok (.istore i, 2)) (hp : pc + 2 = q) (hn : i < zl m) (hl : (i, Value.int v) :: lo.filter (fun q => !(q.1 == i) && !(q.1 + 1 == i && q.2.category == 2)) = lo') (kk : wp yy m Q q lo' st M) : wp yy m Q pc lo (.int v :: st) M := by
  subst hp
  exact s_istore hd hn hl kk
theorem zt_istore_n {j : Fin 4} {i : Nat} {v : Int32} (hd : decode (zb m) pc = .ok (.istore_n j, 1)) (hp : pc + 1 = q) (hi : (j : Nat) = i) (hn : i < zl m) (hl : (i, Value.int v) :: lo.filter (fun q => !(q.1 == i) && !(q.1 + 1 == i && q.2.category == 2)) = lo') (kk : wp yy m Q q lo' st M) : wp yy m Q pc lo (.int v :: st) M := by
  subst hp
  exact s_istore_n hd hi hn hl kk
theorem zt_astore {i : Nat} {v : Nat} (hd : decode (zb m) pc = .ok (.astore i, 2)) (hp : pc + 2 = q) (hn : i < zl m) (hl : (i, Value.ref v) :: lo.filter (fun q => !(q.1 == i) && !(q.1 + 1 == i && q.2.category == 2)) = lo') (kk : wp yy m Q q lo' st M) : wp yy m Q pc lo (.ref v :: st) M := by
  subst hp
  exact s_astore hd hn hl kk
theorem zt_astore_n {j : Fin 4} {i : Nat} {v : Nat} (hd : decode (zb m) pc = .ok (.astore_n j, 1)) (hp : pc + 1 = q) (hi : (j : Nat) = i) (hn : i < zl m) (hl : (i, Value.ref v) :: lo.filter (fun q => !(q.1 == i) && !(q.1 + 1 == i && q.2.category == 2)) = lo') (kk : wp yy m Q q lo' st M) : wp yy m Q pc lo (.ref v :: st) M := by
  subst hp
  exact s_astore_n hd hi hn hl kk
theorem zt_lstore {i : Nat} {v : Int64} (hd : decode (zb m) pc = .ok (.lstore i, 2)) (hp : pc + 2 = q) (hn : i + 1 < zl m) (hl : (i, Value.long v) :: lo.filter (fun q => !(q.1 == i) && (!(q.1 == i + 1) && !(q.1 + 1 == i && q.2.category == 2))) = lo') (kk : wp yy m Q q lo' st M) : wp yy m Q pc lo (.long v :: st) M := by
  subst hp
  exact s_lstore hd hn hl kk
theorem zt_lstore_n {j : Fin 4} {i : Nat} {v : Int64} (hd : decode (zb m) pc = .ok (.lstore_n j, 1)) (hp : pc + 1 = q) (hi : (j : Nat) = i) (hn : i + 1 < zl m) (hl : (i, Value.long v) :: lo.filter (fun q => !(q.1 == i) && (!(q.1 == i + 1) && !(q.1 + 1 == i && q.2.category == 2))) = lo') (kk : wp yy m Q q lo' st M) : wp yy m Q pc lo (.long v :: st) M := by
  subst hp
  exact s_lstore_n hd hi hn hl kk
theorem zt_iinc {i : Nat} {z : Int} {x v : Int32} (k : Nat) (hd : decode (zb m) pc = .ok (.iinc i z, 3)) (hp : pc + 3 = q) (hk : lo[k]? = some (i, .int x)) (hv : x + Int32.ofInt z = v) (hn : i < zl m) (hl : (i, Value.int v) :: lo.filter (fun q => !(q.1 == i) && !(q.1 + 1 == i && q.2.category == 2)) = lo') (kk : wp yy m Q q lo' st M) : wp yy m Q pc lo st M := by
  subst hp
  exact s_iinc k hd hk hv hn hl kk
theorem zt_iadd {x y : Int32} (hd : decode (zb m) pc = .ok (.iadd, 1)) (hp : pc + 1 = q) (kk : wp yy m Q q lo (.int (x + y) :: st) M) : wp yy m Q pc lo (.int y :: .int x :: st) M := by
  subst hp
  exact s_iadd hd kk
theorem zt_isub {x y : Int32} (hd : decode (zb m) pc = .ok (.isub, 1)) (hp : pc + 1 = q) (kk : wp yy m Q q lo (.int (x - y) :: st) M) : wp yy m Q pc lo (.int y :: .int x :: st) M := by
  subst hp
  exact s_isub hd kk
theorem zt_imul {x y : Int32} (hd : decode (zb m) pc = .ok (.imul, 1)) (hp : pc + 1 = q) (kk : wp yy m Q q lo (.int (x * y) :: st) M) : wp yy m Q pc lo (.int y :: .int x :: st) M := by
  subst hp
  exact s_imul hd kk
theorem zt_iand {x y : Int32} (hd : decode (zb m) pc = .ok (.iand, 1)) (hp : pc + 1 = q) (kk : wp yy m Q q lo (.int (x &&& y) :: st) M) : wp yy m Q pc lo (.int y :: .int x :: st) M := by
  subst hp
  exact s_iand hd kk
theorem zt_ladd {x y : Int64} (hd : decode (zb m) pc = .ok (.ladd, 1)) (hp : pc + 1 = q) (kk : wp yy m Q q lo (.long (x + y) :: st) M) : wp yy m Q pc lo (.long y :: .long x :: st) M := by
  subst hp
  exact s_ladd hd kk
theorem zt_lmul {x y : Int64} (hd : decode (zb m) pc = .ok (.lmul, 1)) (hp : pc + 1 = q) (kk : wp yy m Q q lo (.long (x * y) :: st) M) : wp yy m Q pc lo (.long y :: .long x :: st) M := by
  subst hp
  exact s_lmul hd kk
theorem zt_idiv {x y : Int32} (hd : decode (zb m) pc = .ok (.idiv, 1)) (hp : pc + 1 = q) (hne : ¬ y = 0) (kk : wp yy m Q q lo (.int (x / y) :: st) M) : wp yy m Q pc lo (.int y :: .int x :: st) M := by
  subst hp
  exact s_idiv hd hne kk
theorem zt_irem {x y : Int32} (hd : decode (zb m) pc = .ok (.irem, 1)) (hp : pc + 1 = q) (hne : ¬ y = 0) (kk : wp yy m Q q lo (.int (x - x / y * y) :: st) M) : wp yy m Q pc lo (.int y :: .int x :: st) M := by
  subst hp
  exact s_irem hd hne kk
theorem zt_ineg {x : Int32} (hd : decode (zb m) pc = .ok (.ineg, 1)) (hp : pc + 1 = q) (kk : wp yy m Q q lo (.int (-x) :: st) M) : wp yy m Q pc lo (.int x :: st) M := by
  subst hp
  exact s_ineg hd kk
theorem zt_i2l {x : Int32} (hd : decode (zb m) pc = .ok (.i2l, 1)) (hp : pc + 1 = q) (kk : wp yy m Q q lo (.long x.toInt64 :: st) M) : wp yy m Q pc lo (.int x :: st) M := by
  subst hp
  exact s_i2l hd kk
theorem zt_lcmp {x y : Int64} (hd : decode (zb m) pc = .ok (.lcmp, 1)) (hp : pc + 1 = q) (kk : wp yy m Q q lo (.int (lg_cmp x y) :: st) M) : wp yy m Q pc lo (.long y :: .long x :: st) M := by
  subst hp
  exact s_lcmp hd kk
theorem zt_dup {v : Value} (hd : decode (zb m) pc = .ok (.dup, 1)) (hp : pc + 1 = q) (hv : v.category = 1) (kk : wp yy m Q q lo (v :: v :: st) M) : wp yy m Q pc lo (v :: st) M := by
  subst hp
  exact s_dup hd hv kk
theorem zt_pop {v : Value} (hd : decode (zb m) pc = .ok (.pop, 1)) (hp : pc + 1 = q) (hv : v.category = 1) (kk : wp yy m Q q lo st M) : wp yy m Q pc lo (v :: st) M := by
  subst hp
  exact s_pop hd hv kk
theorem zt_dup2 {v w : Value} (hd : decode (zb m) pc = .ok (.dup2, 1)) (hp : pc + 1 = q) (hv : v.category = 1) (hw : w.category = 1) (kk : wp yy m Q q lo (v :: w :: v :: w :: st) M) : wp yy m Q pc lo (v :: w :: st) M := by
  subst hp
  exact s_dup2 hd hv hw kk
theorem zt_goto {off : Int} {tgt : Nat} (hd : decode (zb m) pc = .ok (.goto off, 3)) (ht : (pc : Int) + off = (tgt : Int)) (kk : wp yy m Q tgt lo st M) : wp yy m Q pc lo st M := by
  exact s_goto hd ht kk
theorem zt_if_eq {x : Int32} {off : Int} {tgt : Nat} (hd : decode (zb m) pc = .ok (.ifCond .eq off, 3)) (hp : pc + 3 = q) (ht : (pc : Int) + off = (tgt : Int)) (kk : (x = 0 → wp yy m Q tgt lo st M) ∧ (¬ x = 0 → wp yy m Q q lo st M)) : wp yy m Q pc lo (.int x :: st) M := by
  subst hp
  exact s_if_eq hd ht kk
theorem zt_if_lt {x : Int32} {off : Int} {tgt : Nat} (hd : decode (zb m) pc = .ok (.ifCond .lt off, 3)) (hp : pc + 3 = q) (ht : (pc : Int) + off = (tgt : Int)) (kk : (x < 0 → wp yy m Q tgt lo st M) ∧ (¬ x < 0 → wp yy m Q q lo st M)) : wp yy m Q pc lo (.int x :: st) M := by
  subst hp
  exact s_if_lt hd ht kk
theorem zt_if_ge {x : Int32} {off : Int} {tgt : Nat} (hd : decode (zb m) pc = .ok (.ifCond .ge off, 3)) (hp : pc + 3 = q) (ht : (pc : Int) + off = (tgt : Int)) (kk : (0 ≤ x → wp yy m Q tgt lo st M) ∧ (¬ 0 ≤ x → wp yy m Q q lo st M)) : wp yy m Q pc lo (.int x :: st) M := by
  subst hp
  exact s_if_ge hd ht kk
theorem zt_if_gt {x : Int32} {off : Int} {tgt : Nat} (hd : decode (zb m) pc = .ok (.ifCond .gt off, 3)) (hp : pc + 3 = q) (ht : (pc : Int) + off = (tgt : Int)) (kk : (0 < x → wp yy m Q tgt lo st M) ∧ (¬ 0 < x → wp yy m Q q lo st M)) : wp yy m Q pc lo (.int x :: st) M := by
  subst hp
  exact s_if_gt hd ht kk
theorem zt_if_le {x : Int32} {off : Int} {tgt : Nat} (hd : decode (zb m) pc = .ok (.ifCond .le off, 3)) (hp : pc + 3 = q) (ht : (pc : Int) + off = (tgt : Int)) (kk : (x ≤ 0 → wp yy m Q tgt lo st M) ∧ (¬ x ≤ 0 → wp yy m Q q lo st M)) : wp yy m Q pc lo (.int x :: st) M := by
  subst hp
  exact s_if_le hd ht kk
theorem zt_if_ne {x : Int32} {off : Int} {tgt : Nat} (hd : decode (zb m) pc = .ok (.ifCond .ne off, 3)) (hp : pc + 3 = q) (ht : (pc : Int) + off = (tgt : Int)) (kk : (x = 0 → wp yy m Q q lo st M) ∧ (¬ x = 0 → wp yy m Q tgt lo st M)) : wp yy m Q pc lo (.int x :: st) M := by
  subst hp
  exact s_if_ne hd ht kk
theorem zt_icmp_eq {x y : Int32} {off : Int} {tgt : Nat} (hd : decode (zb m) pc = .ok (.if_icmp .eq off, 3)) (hp : pc + 3 = q) (ht : (pc : Int) + off = (tgt : Int)) (kk : (x = y → wp yy m Q tgt lo st M) ∧ (¬ x = y → wp yy m Q q lo st M)) : wp yy m Q pc lo (.int y :: .int x :: st) M := by
  subst hp
  exact s_icmp_eq hd ht kk
theorem zt_icmp_lt {x y : Int32} {off : Int} {tgt : Nat} (hd : decode (zb m) pc = .ok (.if_icmp .lt off, 3)) (hp : pc + 3 = q) (ht : (pc : Int) + off = (tgt : Int)) (kk : (x < y → wp yy m Q tgt lo st M) ∧ (¬ x < y → wp yy m Q q lo st M)) : wp yy m Q pc lo (.int y :: .int x :: st) M := by
  subst hp
  exact s_icmp_lt hd ht kk
theorem zt_icmp_ge {x y : Int32} {off : Int} {tgt : Nat} (hd : decode (zb m) pc = .ok (.if_icmp .ge off, 3)) (hp : pc + 3 = q) (ht : (pc : Int) + off = (tgt : Int)) (kk : (y ≤ x → wp yy m Q tgt lo st M) ∧ (¬ y ≤ x → wp yy m Q q lo st M)) : wp yy m Q pc lo (.int y :: .int x :: st) M := by
  subst hp
  exact s_icmp_ge hd ht kk
theorem zt_icmp_gt {x y : Int32} {off : Int} {tgt : Nat} (hd : decode (zb m) pc = .ok (.if_icmp .gt off, 3)) (hp : pc + 3 = q) (ht : (pc : Int) + off = (tgt : Int)) (kk : (y < x → wp yy m Q tgt lo st M) ∧ (¬ y < x → wp yy m Q q lo st M)) : wp yy m Q pc lo (.int y :: .int x :: st) M := by
  subst hp
  exact s_icmp_gt hd ht kk
theorem zt_icmp_le {x y : Int32} {off : Int} {tgt : Nat} (hd : decode (zb m) pc = .ok (.if_icmp .le off, 3)) (hp : pc + 3 = q) (ht : (pc : Int) + off = (tgt : Int)) (kk : (x ≤ y → wp yy m Q tgt lo st M) ∧ (¬ x ≤ y → wp yy m Q q lo st M)) : wp yy m Q pc lo (.int y :: .int x :: st) M := by
  subst hp
  exact s_icmp_le hd ht kk
theorem zt_icmp_ne {x y : Int32} {off : Int} {tgt : Nat} (hd : decode (zb m) pc = .ok (.if_icmp .ne off, 3)) (hp : pc + 3 = q) (ht : (pc : Int) + off = (tgt : Int)) (kk : (x = y → wp yy m Q q lo st M) ∧ (¬ x = y → wp yy m Q tgt lo st M)) : wp yy m Q pc lo (.int y :: .int x :: st) M := by
  subst hp
  exact s_icmp_ne hd ht kk
theorem zt_tabOut {dflt a b : Int} {offs : Array Int} {len : Nat} {x : Int32} {tgt : Nat} (hd : decode (zb m) pc = .ok (.tableswitch dflt a b offs, len)) (h : x.toInt < a ∨ b < x.toInt) (ht : (pc : Int) + dflt = (tgt : Int)) (kk : wp yy m Q tgt lo st M) : wp yy m Q pc lo (.int x :: st) M := by
  exact s_tabOut hd h ht kk
theorem zt_tabIn {dflt a b : Int} {offs : Array Int} {len : Nat} {x : Int32} {off : Int} {tgt : Nat} (hd : decode (zb m) pc = .ok (.tableswitch dflt a b offs, len)) (h1 : ¬ x.toInt < a) (h2 : ¬ b < x.toInt) (ho : offs[(x.toInt - a).toNat]? = some off) (ht : (pc : Int) + off = (tgt : Int)) (kk : wp yy m Q tgt lo st M) : wp yy m Q pc lo (.int x :: st) M := by
  exact s_tabIn hd h1 h2 ho ht kk
theorem zt_iret {v : Int32} (hr : zr m = some .int) (hd : decode (zb m) pc = .ok (.ireturn, 1))  (hq : Q (some (.int v)) M) : wp yy m Q pc lo [.int v] M := s_iret hr hd (Nat.zero_le _) (Nat.zero_le _) ⟨rfl, M, rfl, hq⟩
theorem zt_zret {v : Int32} (hr : zr m = some .boolean) (hd : decode (zb m) pc = .ok (.ireturn, 1))  (hn : narrow .boolean (.int v) = .int v) (hq : Q (some (.int v)) M) : wp yy m Q pc lo [.int v] M := s_zret hr hd (Nat.zero_le _) (Nat.zero_le _) hn ⟨rfl, M, rfl, hq⟩
theorem zt_lret {v : Int64} (hr : zr m = some .long) (hd : decode (zb m) pc = .ok (.lreturn, 1))  (hq : Q (some (.long v)) M) : wp yy m Q pc lo [.long v] M := s_lret hr hd (Nat.zero_le _) (Nat.zero_le _) ⟨rfl, M, rfl, hq⟩
theorem zt_vret  (hr : zr m = none) (hd : decode (zb m) pc = .ok (.return_, 1))  (hq : Q none M) : wp yy m Q pc lo [] M := s_vret hr hd (Nat.zero_le _) (Nat.zero_le _) ⟨rfl, M, rfl, hq⟩
theorem zt_aret {v : Nat} {rt : FieldType} (hr : zr m = some rt) (hrt : (∃ q, rt = .object q) ∨ ∃ t, rt = .array t) (hd : decode (zb m) pc = .ok (.areturn, 1))  (hq : Q (some (.ref v)) M) : wp yy m Q pc lo [.ref v] M := s_aret hr hrt hd (Nat.zero_le _) (Nat.zero_le _) ⟨rfl, M, rfl, hq⟩
/-- a field's site: its class and place, its link, its kind -/
def Zf (own : String) (index ci k : Nat) (d : Nat × Nat) (fin : Bool) (ty : FieldType) : Prop := ∃ cl : vw_C, zcl[ci]? = some cl ∧ k < cl.2.2 ∧ Cond.fieldLink own index (cl.2.1 k).1 (cl.2.1 k).2.1 (cl.2.1 k).2.2.1 ∈ zG ∧ (zfd ci)[k]? = some d ∧ (cl.2.1 k).2.2.2 = fin ∧ ztf ci k = ty
theorem zt_getI {ci k index a : Nat} {fin : Bool} {ty : FieldType} (hd : decode (zb m) pc = .ok (.getfield index, 3)) (hp : pc + 3 = q) (hz : Zf (zy m).cls index ci k (0, 0) fin ty) (hs : zsh yy a = (10 + ci, 0, 0, 0)) (kk : wp yy m Q q lo (.int (M.1 a k) :: st) M) : wp yy m Q pc lo (.ref a :: st) M := by
  subst hp
  obtain ⟨cl, h1, h2, h3, h4, h5, h6⟩ := hz
  exact s_get hd h1 h2 h3 (ent_obj hs) (zsh_lt hs (Or.inl (by omega))) (by rw [fldV_get _ _ _ _ _ _ h4, Nat.zero_add]; rfl) kk
theorem zt_getL {ci k index a : Nat} {fin : Bool} {ty : FieldType} (hd : decode (zb m) pc = .ok (.getfield index, 3)) (hp : pc + 3 = q) (hz : Zf (zy m).cls index ci k (1, 0) fin ty) (hs : zsh yy a = (10 + ci, 0, 0, 0)) (kk : wp yy m Q q lo (.long (M.2 a k) :: st) M) : wp yy m Q pc lo (.ref a :: st) M := by
  subst hp
  obtain ⟨cl, h1, h2, h3, h4, h5, h6⟩ := hz
  exact s_get hd h1 h2 h3 (ent_obj hs) (zsh_lt hs (Or.inl (by omega))) (by rw [fldV_get _ _ _ _ _ _ h4, Nat.zero_add]; rfl) kk
theorem zt_getR {ci k index a b off : Nat} {fin : Bool} {ty : FieldType} (hd : decode (zb m) pc = .ok (.getfield index, 3)) (hp : pc + 3 = q) (hz : Zf (zy m).cls index ci k (2, off) fin ty) (hb : a + off = b) (hs : zsh yy a = (10 + ci, 0, 0, 0)) (kk : wp yy m Q q lo (.ref b :: st) M) : wp yy m Q pc lo (.ref a :: st) M := by
  subst hp
  subst hb
  obtain ⟨cl, h1, h2, h3, h4, h5, h6⟩ := hz
  exact s_get hd h1 h2 h3 (ent_obj hs) (zsh_lt hs (Or.inl (by omega))) (by rw [fldV_get _ _ _ _ _ _ h4, Nat.zero_add]; rfl) kk
theorem zt_putI {ci k index a : Nat} {v : Int32} (hd : decode (zb m) pc = .ok (.putfield index, 3)) (hp : pc + 3 = q) (hz : Zf (zy m).cls index ci k (0, 0) false .int) (hs : zsh yy a = (10 + ci, 0, 0, 0)) (kk : wp yy m Q q lo st (uI M a k v)) : wp yy m Q pc lo (.int v :: .ref a :: st) M := by
  subst hp
  obtain ⟨cl, h1, h2, h3, h4, h5, h6⟩ := hz
  refine s_put hd h1 h2 h3 h5 (ent_obj hs) (zsh_lt hs (Or.inl (by omega))) (fun B => by rw [h6]; exact ⟨rfl, rfl⟩) (by rw [fldV_len]; exact (List.getElem?_eq_some_iff.mp h4).1) ?_
  rw [fldV_setI _ _ _ _ _ _ h4, Nat.zero_add, ent_upI (ent_obj hs)]
  exact kk
theorem zt_putZ {ci k index a : Nat} {v : Int32} (hd : decode (zb m) pc = .ok (.putfield index, 3)) (hp : pc + 3 = q) (hz : Zf (zy m).cls index ci k (0, 0) false .boolean) (hn : narrow .boolean (.int v) = .int v) (hfit : fits .boolean (.int v) = true) (hs : zsh yy a = (10 + ci, 0, 0, 0)) (kk : wp yy m Q q lo st (uI M a k v)) : wp yy m Q pc lo (.int v :: .ref a :: st) M := by
  subst hp
  obtain ⟨cl, h1, h2, h3, h4, h5, h6⟩ := hz
  refine s_put hd h1 h2 h3 h5 (ent_obj hs) (zsh_lt hs (Or.inl (by omega))) (fun B => by rw [h6]; exact ⟨hn, hfit⟩) (by rw [fldV_len]; exact (List.getElem?_eq_some_iff.mp h4).1) ?_
  rw [fldV_setI _ _ _ _ _ _ h4, Nat.zero_add, ent_upI (ent_obj hs)]
  exact kk
theorem zt_putL {ci k index a : Nat} {v : Int64} (hd : decode (zb m) pc = .ok (.putfield index, 3)) (hp : pc + 3 = q) (hz : Zf (zy m).cls index ci k (1, 0) false .long) (hs : zsh yy a = (10 + ci, 0, 0, 0)) (kk : wp yy m Q q lo st (uL M a k v)) : wp yy m Q pc lo (.long v :: .ref a :: st) M := by
  subst hp
  obtain ⟨cl, h1, h2, h3, h4, h5, h6⟩ := hz
  refine s_put hd h1 h2 h3 h5 (ent_obj hs) (zsh_lt hs (Or.inl (by omega))) (fun B => by rw [h6]; exact ⟨rfl, rfl⟩) (by rw [fldV_len]; exact (List.getElem?_eq_some_iff.mp h4).1) ?_
  rw [fldV_setL _ _ _ _ _ _ h4, Nat.zero_add, ent_upL (ent_obj hs)]
  exact kk
theorem zt_iald {a len : Nat} {i : Int32} (hd : decode (zb m) pc = .ok (.iaload, 1)) (hp : pc + 1 = q) (hs : zsh yy a = (0, len, 0, 0)) (hin : vp_in i len) (kk : wp yy m Q q lo (.int (M.1 a i.toNatClampNeg) :: st) M) : wp yy m Q pc lo (.int i :: .ref a :: st) M := by
  subst hp
  exact s_iald hd (ent_int hs) (zsh_lt hs (Or.inr (vp_pos hin))) hin kk
theorem zt_zald {a len : Nat} {i : Int32} (hd : decode (zb m) pc = .ok (.baload, 1)) (hp : pc + 1 = q) (hs : zsh yy a = (2, len, 0, 0)) (hin : vp_in i len) (kk : wp yy m Q q lo (.int (M.1 a i.toNatClampNeg) :: st) M) : wp yy m Q pc lo (.int i :: .ref a :: st) M := by
  subst hp
  exact s_zald hd (ent_bool hs) (zsh_lt hs (Or.inl (by omega))) hin kk
theorem zt_lald {a len : Nat} {i : Int32} (hd : decode (zb m) pc = .ok (.laload, 1)) (hp : pc + 1 = q) (hs : zsh yy a = (1, len, 0, 0)) (hin : vp_in i len) (kk : wp yy m Q q lo (.long (M.2 a i.toNatClampNeg) :: st) M) : wp yy m Q pc lo (.int i :: .ref a :: st) M := by
  subst hp
  exact s_lald hd (ent_long hs) (zsh_lt hs (Or.inl (by omega))) hin kk
theorem zt_aald {t a b len bs ks : Nat} {ty : FieldType} {i : Int32} (hd : decode (zb m) pc = .ok (.aaload, 1)) (hp : pc + 1 = q) (ht : ∀ o : Zo, (ztys o)[t]? = some (o.2.2 t, ty)) (hty : ty.isReference = true) (h3 : 3 ≤ t) (h9 : t < 10) (hs : zsh yy a = (t, len, bs, ks)) (hin : vp_in i len) (hb : a + bs + ks * i.toNatClampNeg = b) (kk : wp yy m Q q lo (.ref b :: st) M) : wp yy m Q pc lo (.int i :: .ref a :: st) M := by
  subst hp
  subst hb
  exact s_aald hd ht hty (ent_ref hs h3 h9) (zsh_lt hs (Or.inl (by omega))) hin (if_pos (vp_lt hin)) kk
theorem zt_alenI {a len : Nat} (hd : decode (zb m) pc = .ok (.arraylength, 1)) (hp : pc + 1 = q) (hs : zsh yy a = (0, len, 0, 0)) (h0 : 0 < len) (kk : wp yy m Q q lo (.int (Int32.ofNat len) :: st) M) : wp yy m Q pc lo (.ref a :: st) M := by
  subst hp
  exact s_alen (t := 0) hd (fun _ => rfl) (ent_int hs) (zsh_lt hs (Or.inr h0)) kk
theorem zt_iast {a len : Nat} {i x : Int32} (hd : decode (zb m) pc = .ok (.iastore, 1)) (hp : pc + 1 = q) (hs : zsh yy a = (0, len, 0, 0)) (hin : vp_in i len) (kk : wp yy m Q q lo st (uI M a i.toNatClampNeg x)) : wp yy m Q pc lo (.int x :: .int i :: .ref a :: st) M := by
  subst hp
  refine s_iast hd (ent_int hs) (zsh_lt hs (Or.inr (vp_pos hin))) hin ?_
  rw [ent_upI (k := i.toNatClampNeg) (v := x) (by rw [ent_int hs]; simp [uI])]
  exact kk
theorem zt_zast {a len : Nat} {i x : Int32} (hd : decode (zb m) pc = .ok (.bastore, 1)) (hp : pc + 1 = q) (hs : zsh yy a = (2, len, 0, 0)) (hin : vp_in i len) (kk : wp yy m Q q lo st (uI M a i.toNatClampNeg (vp_nar .boolean x))) : wp yy m Q pc lo (.int x :: .int i :: .ref a :: st) M := by
  subst hp
  refine s_zast hd (ent_bool hs) (zsh_lt hs (Or.inl (by omega))) hin ?_
  rw [ent_upI (k := i.toNatClampNeg) (v := vp_nar .boolean x) (by rw [ent_bool hs]; simp [uI])]
  exact kk
theorem zt_last {a len : Nat} {i : Int32} {x : Int64} (hd : decode (zb m) pc = .ok (.lastore, 1)) (hp : pc + 1 = q) (hs : zsh yy a = (1, len, 0, 0)) (hin : vp_in i len) (kk : wp yy m Q q lo st (uL M a i.toNatClampNeg x)) : wp yy m Q pc lo (.long x :: .int i :: .ref a :: st) M := by
  subst hp
  refine s_last hd (ent_long hs) (zsh_lt hs (Or.inl (by omega))) hin ?_
  rw [ent_upL (k := i.toNatClampNeg) (v := x) (by rw [ent_long hs]; simp [uL])]
  exact kk
/-- what the tables say of a method, whoever calls it -/
def Zm0 (m' : Zm) (np : Nat) : Prop := Cond.code (zy m') (zb m') (zl m') (zr m') ∈ zG ∧ Cond.initialized (zy m').cls ∈ zG ∧ ((zy m').cls ≠ "java/lang/invoke/MethodHandle" ∧ (zy m').cls ≠ "java/lang/invoke/VarHandle") ∧ (parseMethodDescriptor (zy m').desc).map (fun d => d.parameters.length) = some np
def ZmI (m' : Zm) (ci np : Nat) : Prop := Zm0 m' np ∧ Cond.instanceMethod (zy m') ∈ zG ∧ Cond.selects (zy m').cls (zy m') (zy m') ∈ zG ∧ (zR m').cells = 0 ∧ (zR m').slots = 0 ∧ zg m' = false ∧ ∃ cl : vw_C, zcl[ci]? = some cl ∧ cl.1 = (zy m').cls
def ZmS (m' : Zm) (np : Nat) : Prop := Zm0 m' np ∧ Cond.static (zy m') ∈ zG ∧ (zR m').cells = 0 ∧ (zR m').slots = 0 ∧ zg m' = false
/-- the room of a call -/
def Zro (m m' : Zm) : Prop := (zR m').frames + 1 ≤ (zR m).frames ∧ 8 + (zl m' + 11) + (zR m').locals ≤ (zR m).locals
theorem zt_callV {b ci np index : Nat} {as : List Value} {Q' : Option Value → Mem → Prop} (hd : decode (zb m) pc = .ok (.invokevirtual index, 3)) (hp : pc + 3 = q) (hm : ZmI m' ci np) (hro : Zro m m') (hl : Cond.methodLink (zy m).cls index (zy m') ∈ zG) (hst : st0 = as.reverse ++ .ref b :: st) (hn : as.length = np) (hW : (st.map fun v => v.category).sum ≤ 8) (hs : zsh yy b = (10 + ci, 0, 0, 0)) (hM : Call yy m' (.ref b :: as) M Q') (kk : ∀ v M1, Q' v M1 → wp yy m Q q lo (v.toList ++ st) M1) : wp yy m Q pc lo st0 M := by
  subst hp
  obtain ⟨⟨h1, h2, h3, h4⟩, h5, h6, h7, h8, h9, cl, h10, h11⟩ := hm
  refine s_callV hd ⟨hro.1, hro.2, (fun g => by rw [h9] at g; cases g), h1, h2, h3, h4⟩ hl h5 h6 h10 h11 (ent_obj hs) (zsh_lt hs (Or.inl (by omega))) hst hn hW (by rw [h7]; exact Nat.zero_le _) (by rw [h8]; exact Nat.zero_le _) hM ?_
  rintro v n' f' ⟨rfl, M1, rfl, hq⟩
  rw [h7, h8]
  exact kk v M1 hq
theorem zt_callS {np index : Nat} {as : List Value} {Q' : Option Value → Mem → Prop} (hd : decode (zb m) pc = .ok (.invokestatic index, 3)) (hp : pc + 3 = q) (hm : ZmS m' np) (hro : Zro m m') (hl : Cond.methodLink (zy m).cls index (zy m') ∈ zG) (hst : st0 = as.reverse ++ st) (hn : as.length = np) (hW : (st.map fun v => v.category).sum ≤ 8) (hM : Call yy m' as M Q') (kk : ∀ v M1, Q' v M1 → wp yy m Q q lo (v.toList ++ st) M1) : wp yy m Q pc lo st0 M := by
  subst hp
  obtain ⟨⟨h1, h2, h3, h4⟩, h5, h7, h8, h9⟩ := hm
  refine s_callS hd ⟨hro.1, hro.2, (fun g => by rw [h9] at g; cases g), h1, h2, h3, h4⟩ hl h5 hst hn hW (by rw [h7]; exact Nat.zero_le _) (by rw [h8]; exact Nat.zero_le _) hM ?_
  rintro v n' f' ⟨rfl, M1, rfl, hq⟩
  rw [h7, h8]
  exact kk v M1 hq
theorem zt_callVI {b ci np index : Nat} {as : List Value} (hd : decode (zb m) pc = .ok (.invokevirtual index, 3)) (hp : pc + 3 = q) (hm : ZmI m' ci np) (hro : Zro m m') (hl : Cond.methodLink (zy m).cls index (zy m') ∈ zG) (hst : st0 = as.reverse ++ .ref b :: st) (hn : as.length = np) (hW : (st.map fun v => v.category).sum ≤ 8) (hs : zsh yy b = (10 + ci, 0, 0, 0)) (hM : CallI yy m' (.ref b :: as) M (fun r M1 => wp yy m Q q lo (.int r :: st) M1)) : wp yy m Q pc lo st0 M :=
  zt_callV hd hp hm hro hl hst hn hW hs hM (fun v M1 h => by obtain ⟨r, rfl, h⟩ := h; exact h)
theorem zt_callSI {np index : Nat} {as : List Value} (hd : decode (zb m) pc = .ok (.invokestatic index, 3)) (hp : pc + 3 = q) (hm : ZmS m' np) (hro : Zro m m') (hl : Cond.methodLink (zy m).cls index (zy m') ∈ zG) (hst : st0 = as.reverse ++ st) (hn : as.length = np) (hW : (st.map fun v => v.category).sum ≤ 8) (hM : CallI yy m' as M (fun r M1 => wp yy m Q q lo (.int r :: st) M1)) : wp yy m Q pc lo st0 M :=
  zt_callS hd hp hm hro hl hst hn hW hM (fun v M1 h => by obtain ⟨r, rfl, h⟩ := h; exact h)
theorem zt_callVL {b ci np index : Nat} {as : List Value} (hd : decode (zb m) pc = .ok (.invokevirtual index, 3)) (hp : pc + 3 = q) (hm : ZmI m' ci np) (hro : Zro m m') (hl : Cond.methodLink (zy m).cls index (zy m') ∈ zG) (hst : st0 = as.reverse ++ .ref b :: st) (hn : as.length = np) (hW : (st.map fun v => v.category).sum ≤ 8) (hs : zsh yy b = (10 + ci, 0, 0, 0)) (hM : CallL yy m' (.ref b :: as) M (fun r M1 => wp yy m Q q lo (.long r :: st) M1)) : wp yy m Q pc lo st0 M :=
  zt_callV hd hp hm hro hl hst hn hW hs hM (fun v M1 h => by obtain ⟨r, rfl, h⟩ := h; exact h)
theorem zt_callSL {np index : Nat} {as : List Value} (hd : decode (zb m) pc = .ok (.invokestatic index, 3)) (hp : pc + 3 = q) (hm : ZmS m' np) (hro : Zro m m') (hl : Cond.methodLink (zy m).cls index (zy m') ∈ zG) (hst : st0 = as.reverse ++ st) (hn : as.length = np) (hW : (st.map fun v => v.category).sum ≤ 8) (hM : CallL yy m' as M (fun r M1 => wp yy m Q q lo (.long r :: st) M1)) : wp yy m Q pc lo st0 M :=
  zt_callS hd hp hm hro hl hst hn hW hM (fun v M1 h => by obtain ⟨r, rfl, h⟩ := h; exact h)
theorem zt_callVR {b ci np index : Nat} {as : List Value} (hd : decode (zb m) pc = .ok (.invokevirtual index, 3)) (hp : pc + 3 = q) (hm : ZmI m' ci np) (hro : Zro m m') (hl : Cond.methodLink (zy m).cls index (zy m') ∈ zG) (hst : st0 = as.reverse ++ .ref b :: st) (hn : as.length = np) (hW : (st.map fun v => v.category).sum ≤ 8) (hs : zsh yy b = (10 + ci, 0, 0, 0)) (hM : CallR yy m' (.ref b :: as) M (fun r M1 => wp yy m Q q lo (.ref r :: st) M1)) : wp yy m Q pc lo st0 M :=
  zt_callV hd hp hm hro hl hst hn hW hs hM (fun v M1 h => by obtain ⟨r, rfl, h⟩ := h; exact h)
theorem zt_callSR {np index : Nat} {as : List Value} (hd : decode (zb m) pc = .ok (.invokestatic index, 3)) (hp : pc + 3 = q) (hm : ZmS m' np) (hro : Zro m m') (hl : Cond.methodLink (zy m).cls index (zy m') ∈ zG) (hst : st0 = as.reverse ++ st) (hn : as.length = np) (hW : (st.map fun v => v.category).sum ≤ 8) (hM : CallR yy m' as M (fun r M1 => wp yy m Q q lo (.ref r :: st) M1)) : wp yy m Q pc lo st0 M :=
  zt_callS hd hp hm hro hl hst hn hW hM (fun v M1 h => by obtain ⟨r, rfl, h⟩ := h; exact h)
theorem zt_callVV {b ci np index : Nat} {as : List Value} (hd : decode (zb m) pc = .ok (.invokevirtual index, 3)) (hp : pc + 3 = q) (hm : ZmI m' ci np) (hro : Zro m m') (hl : Cond.methodLink (zy m).cls index (zy m') ∈ zG) (hst : st0 = as.reverse ++ .ref b :: st) (hn : as.length = np) (hW : (st.map fun v => v.category).sum ≤ 8) (hs : zsh yy b = (10 + ci, 0, 0, 0)) (hM : CallV yy m' (.ref b :: as) M (fun M1 => wp yy m Q q lo st M1)) : wp yy m Q pc lo st0 M :=
  zt_callV hd hp hm hro hl hst hn hW hs hM (fun v M1 h => by obtain ⟨rfl, h⟩ := h; exact h)
theorem zt_callSV {np index : Nat} {as : List Value} (hd : decode (zb m) pc = .ok (.invokestatic index, 3)) (hp : pc + 3 = q) (hm : ZmS m' np) (hro : Zro m m') (hl : Cond.methodLink (zy m).cls index (zy m') ∈ zG) (hst : st0 = as.reverse ++ st) (hn : as.length = np) (hW : (st.map fun v => v.category).sum ≤ 8) (hM : CallV yy m' as M (fun M1 => wp yy m Q q lo st M1)) : wp yy m Q pc lo st0 M :=
  zt_callS hd hp hm hro hl hst hn hW hM (fun v M1 h => by obtain ⟨rfl, h⟩ := h; exact h)
/-- Math's static functions -/
def Zma (m : Zm) (index : Nat) (y : MethodName) (b : ByteArray) (k : Nat) : Prop := Cond.methodLink (zy m).cls index y ∈ zG ∧ Cond.static y ∈ zG ∧ Cond.initialized "java/lang/Math" ∈ zG ∧ Cond.code y b k (some .int) ∈ zG ∧ 1 ≤ (zR m).frames
theorem zt_mmax {index : Nat} {x z : Int32} (hd : decode (zb m) pc = .ok (.invokestatic index, 3)) (hp : pc + 3 = q) (hz : Zma m index Lib.Math.max.name Lib.Math.max.code 2) (hlo : (st.map fun v => v.category).sum + 13 ≤ (zR m).locals) (kk : wp yy m Q q lo (.int (if x < z then z else x) :: st) M) : wp yy m Q pc lo (.int z :: .int x :: st) M := by
  subst hp
  exact s_mmax hd hz.1 hz.2.1 hz.2.2.1 hz.2.2.2.1 hz.2.2.2.2 hlo (Nat.zero_le _) (Nat.zero_le _) kk
theorem zt_mmin {index : Nat} {x z : Int32} (hd : decode (zb m) pc = .ok (.invokestatic index, 3)) (hp : pc + 3 = q) (hz : Zma m index Lib.Math.min.name Lib.Math.min.code 2) (hlo : (st.map fun v => v.category).sum + 13 ≤ (zR m).locals) (kk : wp yy m Q q lo (.int (if z < x then z else x) :: st) M) : wp yy m Q pc lo (.int z :: .int x :: st) M := by
  subst hp
  exact s_mmin hd hz.1 hz.2.1 hz.2.2.1 hz.2.2.2.1 hz.2.2.2.2 hlo (Nat.zero_le _) (Nat.zero_le _) kk
theorem zt_mabs {index : Nat} {x : Int32} (hd : decode (zb m) pc = .ok (.invokestatic index, 3)) (hp : pc + 3 = q) (hz : Zma m index Lib.Math.abs.name Lib.Math.abs.code 1) (hlo : (st.map fun v => v.category).sum + 13 ≤ (zR m).locals) (kk : wp yy m Q q lo (.int (if 0 ≤ x then x else 0 - x) :: st) M) : wp yy m Q pc lo (.int x :: st) M := by
  subst hp
  exact s_mabs hd hz.1 hz.2.1 hz.2.2.1 hz.2.2.2.1 hz.2.2.2.2 hlo (Nat.zero_le _) (Nat.zero_le _) kk
end ZRW
end
section
/-! the tables' words that are used, by their places -/
theorem ws_0 : (Cond.selects "EditGuess" ⟨"EditGuess", "poolChanged", "()V"⟩ ⟨"EditGuess", "poolChanged", "()V"⟩) ∈ zG := zgm (List.mem_append_left _ (List.mem_of_getElem? (i := 0) (by decide +kernel))) rfl
theorem ws_1 : (Cond.selects "EditGuess" ⟨"EditGuess", "exampleFault", "()I"⟩ ⟨"EditGuess", "exampleFault", "()I"⟩) ∈ zG := zgm (List.mem_append_left _ (List.mem_of_getElem? (i := 1) (by decide +kernel))) rfl
theorem ws_2 : (Cond.selects "EditGuess" ⟨"EditGuess", "lineFault", "()I"⟩ ⟨"EditGuess", "lineFault", "()I"⟩) ∈ zG := zgm (List.mem_append_left _ (List.mem_of_getElem? (i := 2) (by decide +kernel))) rfl
theorem ws_3 : (Cond.selects "EditGuess" ⟨"EditGuess", "examplesChanged", "()V"⟩ ⟨"EditGuess", "examplesChanged", "()V"⟩) ∈ zG := zgm (List.mem_append_left _ (List.mem_of_getElem? (i := 3) (by decide +kernel))) rfl
theorem ws_4 : (Cond.selects "EditGuess" ⟨"EditGuess", "guess", "()V"⟩ ⟨"EditGuess", "guess", "()V"⟩) ∈ zG := zgm (List.mem_append_left _ (List.mem_of_getElem? (i := 4) (by decide +kernel))) rfl
theorem ws_5 : (Cond.selects "EditGuess$Row" ⟨"EditGuess$Row", "countAlike", "(LEditGuess$Signs;II)I"⟩ ⟨"EditGuess$Row", "countAlike", "(LEditGuess$Signs;II)I"⟩) ∈ zG := zgm (List.mem_append_left _ (List.mem_of_getElem? (i := 5) (by decide +kernel))) rfl
theorem ws_6 : (Cond.selects "EditGuess$Fitting" ⟨"EditGuess$Fitting", "groupMarks", "()V"⟩ ⟨"EditGuess$Fitting", "groupMarks", "()V"⟩) ∈ zG := zgm (List.mem_append_left _ (List.mem_of_getElem? (i := 6) (by decide +kernel))) rfl
theorem ws_7 : (Cond.selects "EditGuess$Fitting" ⟨"EditGuess$Fitting", "isToldInAll", "(I)Z"⟩ ⟨"EditGuess$Fitting", "isToldInAll", "(I)Z"⟩) ∈ zG := zgm (List.mem_append_left _ (List.mem_of_getElem? (i := 7) (by decide +kernel))) rfl
theorem ws_8 : (Cond.selects "EditGuess$Fitting" ⟨"EditGuess$Fitting", "joinGroup", "(I)V"⟩ ⟨"EditGuess$Fitting", "joinGroup", "(I)V"⟩) ∈ zG := zgm (List.mem_append_left _ (List.mem_of_getElem? (i := 8) (by decide +kernel))) rfl
theorem ws_9 : (Cond.selects "EditGuess$Fitting" ⟨"EditGuess$Fitting", "tellSame", "(II)Z"⟩ ⟨"EditGuess$Fitting", "tellSame", "(II)Z"⟩) ∈ zG := zgm (List.mem_append_left _ (List.mem_of_getElem? (i := 9) (by decide +kernel))) rfl
theorem ws_10 : (Cond.selects "EditGuess$Fitting" ⟨"EditGuess$Fitting", "lastState", "()I"⟩ ⟨"EditGuess$Fitting", "lastState", "()I"⟩) ∈ zG := zgm (List.mem_append_left _ (List.mem_of_getElem? (i := 10) (by decide +kernel))) rfl
theorem ws_11 : (Cond.selects "EditGuess$Fitting" ⟨"EditGuess$Fitting", "listMoves", "(I)V"⟩ ⟨"EditGuess$Fitting", "listMoves", "(I)V"⟩) ∈ zG := zgm (List.mem_append_left _ (List.mem_of_getElem? (i := 11) (by decide +kernel))) rfl
theorem ws_12 : (Cond.selects "EditGuess$Fitting" ⟨"EditGuess$Fitting", "reach", "(I)V"⟩ ⟨"EditGuess$Fitting", "reach", "(I)V"⟩) ∈ zG := zgm (List.mem_append_left _ (List.mem_of_getElem? (i := 12) (by decide +kernel))) rfl
theorem ws_13 : (Cond.selects "EditGuess$Fitting" ⟨"EditGuess$Fitting", "canBegin", "(I)Z"⟩ ⟨"EditGuess$Fitting", "canBegin", "(I)Z"⟩) ∈ zG := zgm (List.mem_append_left _ (List.mem_of_getElem? (i := 13) (by decide +kernel))) rfl
theorem ws_14 : (Cond.selects "EditGuess$Fitting" ⟨"EditGuess$Fitting", "listCuts", "(II)V"⟩ ⟨"EditGuess$Fitting", "listCuts", "(II)V"⟩) ∈ zG := zgm (List.mem_append_left _ (List.mem_of_getElem? (i := 14) (by decide +kernel))) rfl
theorem ws_15 : (Cond.selects "EditGuess$Fitting" ⟨"EditGuess$Fitting", "cutTarget", "(III)I"⟩ ⟨"EditGuess$Fitting", "cutTarget", "(III)I"⟩) ∈ zG := zgm (List.mem_append_left _ (List.mem_of_getElem? (i := 15) (by decide +kernel))) rfl
theorem ws_16 : (Cond.selects "EditGuess$Fitting" ⟨"EditGuess$Fitting", "longestText", "()I"⟩ ⟨"EditGuess$Fitting", "longestText", "()I"⟩) ∈ zG := zgm (List.mem_append_left _ (List.mem_of_getElem? (i := 16) (by decide +kernel))) rfl
theorem ws_17 : (Cond.selects "EditGuess$Fitting" ⟨"EditGuess$Fitting", "isNextInAll", "(I)Z"⟩ ⟨"EditGuess$Fitting", "isNextInAll", "(I)Z"⟩) ∈ zG := zgm (List.mem_append_left _ (List.mem_of_getElem? (i := 17) (by decide +kernel))) rfl
theorem ws_18 : (Cond.selects "EditGuess$Fitting" ⟨"EditGuess$Fitting", "textTarget", "(II)I"⟩ ⟨"EditGuess$Fitting", "textTarget", "(II)I"⟩) ∈ zG := zgm (List.mem_append_left _ (List.mem_of_getElem? (i := 18) (by decide +kernel))) rfl
theorem ws_19 : (Cond.selects "EditGuess$Fitting" ⟨"EditGuess$Fitting", "addWays", "(IJ)V"⟩ ⟨"EditGuess$Fitting", "addWays", "(IJ)V"⟩) ∈ zG := zgm (List.mem_append_left _ (List.mem_of_getElem? (i := 19) (by decide +kernel))) rfl
theorem ws_20 : (Cond.selects "EditGuess$Fitting" ⟨"EditGuess$Fitting", "leastFrom", "(I)I"⟩ ⟨"EditGuess$Fitting", "leastFrom", "(I)I"⟩) ∈ zG := zgm (List.mem_append_left _ (List.mem_of_getElem? (i := 20) (by decide +kernel))) rfl
theorem ws_21 : (Cond.selects "EditGuess$Fitting" ⟨"EditGuess$Fitting", "tellCut", "(ILEditGuess$Plan;)I"⟩ ⟨"EditGuess$Fitting", "tellCut", "(ILEditGuess$Plan;)I"⟩) ∈ zG := zgm (List.mem_append_left _ (List.mem_of_getElem? (i := 21) (by decide +kernel))) rfl
theorem ws_22 : (Cond.selects "EditGuess$Fitting" ⟨"EditGuess$Fitting", "tellText", "(ILEditGuess$Plan;)I"⟩ ⟨"EditGuess$Fitting", "tellText", "(ILEditGuess$Plan;)I"⟩) ∈ zG := zgm (List.mem_append_left _ (List.mem_of_getElem? (i := 22) (by decide +kernel))) rfl
theorem ws_23 : (Cond.selects "EditGuess" ⟨"EditGuess", "makesResult", "(I)Z"⟩ ⟨"EditGuess", "makesResult", "(I)Z"⟩) ∈ zG := zgm (List.mem_append_left _ (List.mem_of_getElem? (i := 23) (by decide +kernel))) rfl
theorem ws_24 : (Cond.selects "EditGuess" ⟨"EditGuess", "countAgreeing", "(I)J"⟩ ⟨"EditGuess", "countAgreeing", "(I)J"⟩) ∈ zG := zgm (List.mem_append_left _ (List.mem_of_getElem? (i := 24) (by decide +kernel))) rfl
theorem ws_25 : (Cond.selects "EditGuessModel" ⟨"EditGuessModel", "exampleFault", "()I"⟩ ⟨"EditGuessModel", "exampleFault", "()I"⟩) ∈ zG := zgm (List.mem_append_left _ (List.mem_of_getElem? (i := 25) (by decide +kernel))) rfl
theorem ws_26 : (Cond.selects "EditGuessModel" ⟨"EditGuessModel", "lineFault", "()I"⟩ ⟨"EditGuessModel", "lineFault", "()I"⟩) ∈ zG := zgm (List.mem_append_left _ (List.mem_of_getElem? (i := 26) (by decide +kernel))) rfl
theorem ws_27 : (Cond.selects "EditGuessModel" ⟨"EditGuessModel", "goFrom", "(I)V"⟩ ⟨"EditGuessModel", "goFrom", "(I)V"⟩) ∈ zG := zgm (List.mem_append_left _ (List.mem_of_getElem? (i := 27) (by decide +kernel))) rfl
theorem ws_28 : (Cond.selects "EditGuessModel" ⟨"EditGuessModel", "lookAtPad", "()V"⟩ ⟨"EditGuessModel", "lookAtPad", "()V"⟩) ∈ zG := zgm (List.mem_append_left _ (List.mem_of_getElem? (i := 28) (by decide +kernel))) rfl
theorem ws_29 : (Cond.selects "EditGuessModel" ⟨"EditGuessModel", "placeOf", "(I)I"⟩ ⟨"EditGuessModel", "placeOf", "(I)I"⟩) ∈ zG := zgm (List.mem_append_left _ (List.mem_of_getElem? (i := 29) (by decide +kernel))) rfl
theorem ws_30 : (Cond.selects "EditGuessModel" ⟨"EditGuessModel", "runAt", "(IIZ)I"⟩ ⟨"EditGuessModel", "runAt", "(IIZ)I"⟩) ∈ zG := zgm (List.mem_append_left _ (List.mem_of_getElem? (i := 30) (by decide +kernel))) rfl
theorem ws_31 : (Cond.selects "EditGuessModel" ⟨"EditGuessModel", "layExamples", "()V"⟩ ⟨"EditGuessModel", "layExamples", "()V"⟩) ∈ zG := zgm (List.mem_append_left _ (List.mem_of_getElem? (i := 31) (by decide +kernel))) rfl
theorem ws_32 : (Cond.selects "EditGuessModel" ⟨"EditGuessModel", "addWork", "()V"⟩ ⟨"EditGuessModel", "addWork", "()V"⟩) ∈ zG := zgm (List.mem_append_left _ (List.mem_of_getElem? (i := 32) (by decide +kernel))) rfl
theorem ws_33 : (Cond.selects "EditGuessModel" ⟨"EditGuessModel", "count", "()J"⟩ ⟨"EditGuessModel", "count", "()J"⟩) ∈ zG := zgm (List.mem_append_left _ (List.mem_of_getElem? (i := 33) (by decide +kernel))) rfl
theorem ws_34 : (Cond.selects "EditGuessModel" ⟨"EditGuessModel", "rows", "()I"⟩ ⟨"EditGuessModel", "rows", "()I"⟩) ∈ zG := zgm (List.mem_append_left _ (List.mem_of_getElem? (i := 34) (by decide +kernel))) rfl
theorem ws_35 : (Cond.selects "EditGuessModel" ⟨"EditGuessModel", "cut", "(III)I"⟩ ⟨"EditGuessModel", "cut", "(III)I"⟩) ∈ zG := zgm (List.mem_append_left _ (List.mem_of_getElem? (i := 35) (by decide +kernel))) rfl
theorem ws_36 : (Cond.selects "EditGuessModel" ⟨"EditGuessModel", "text", "(II)I"⟩ ⟨"EditGuessModel", "text", "(II)I"⟩) ∈ zG := zgm (List.mem_append_left _ (List.mem_of_getElem? (i := 36) (by decide +kernel))) rfl
theorem ws_37 : (Cond.selects "EditGuessModel" ⟨"EditGuessModel", "end", "()I"⟩ ⟨"EditGuessModel", "end", "()I"⟩) ∈ zG := zgm (List.mem_append_left _ (List.mem_of_getElem? (i := 37) (by decide +kernel))) rfl
theorem ws_38 : (Cond.selects "EditGuessModel" ⟨"EditGuessModel", "layBest", "()Z"⟩ ⟨"EditGuessModel", "layBest", "()Z"⟩) ∈ zG := zgm (List.mem_append_left _ (List.mem_of_getElem? (i := 38) (by decide +kernel))) rfl
theorem ws_39 : (Cond.selects "EditGuessModel" ⟨"EditGuessModel", "costOfCut", "(II)I"⟩ ⟨"EditGuessModel", "costOfCut", "(II)I"⟩) ∈ zG := zgm (List.mem_append_left _ (List.mem_of_getElem? (i := 39) (by decide +kernel))) rfl
theorem ws_40 : (Cond.selects "EditGuessModel" ⟨"EditGuessModel", "goOn", "(I)I"⟩ ⟨"EditGuessModel", "goOn", "(I)I"⟩) ∈ zG := zgm (List.mem_append_left _ (List.mem_of_getElem? (i := 40) (by decide +kernel))) rfl
theorem ws_41 : (Cond.selects "EditGuessModel" ⟨"EditGuessModel", "costOfPiece", "(I)I"⟩ ⟨"EditGuessModel", "costOfPiece", "(I)I"⟩) ∈ zG := zgm (List.mem_append_left _ (List.mem_of_getElem? (i := 41) (by decide +kernel))) rfl
theorem ws_42 : (Cond.selects "EditGuessModel" ⟨"EditGuessModel", "make", "()I"⟩ ⟨"EditGuessModel", "make", "()I"⟩) ∈ zG := zgm (List.mem_append_left _ (List.mem_of_getElem? (i := 42) (by decide +kernel))) rfl
theorem ws_43 : (Cond.selects "EditGuessModel" ⟨"EditGuessModel", "lookAtPool", "(I)V"⟩ ⟨"EditGuessModel", "lookAtPool", "(I)V"⟩) ∈ zG := zgm (List.mem_append_left _ (List.mem_of_getElem? (i := 43) (by decide +kernel))) rfl
theorem ws_44 : (Cond.selects "EditGuessModel" ⟨"EditGuessModel", "agreeingOf", "(I)J"⟩ ⟨"EditGuessModel", "agreeingOf", "(I)J"⟩) ∈ zG := zgm (List.mem_append_left _ (List.mem_of_getElem? (i := 44) (by decide +kernel))) rfl
theorem wd_1 : ((Jvm.Cond.initialized "EditGuess") : Cond) ∈ zG := zgm (List.mem_append_right _ (List.mem_append_left _ (List.mem_of_getElem? (l := tables_1_1) (i := 1) rfl))) rfl
theorem wd_2 : ((Jvm.Cond.initialized "EditGuess$Signs") : Cond) ∈ zG := zgm (List.mem_append_right _ (List.mem_append_left _ (List.mem_of_getElem? (l := tables_1_1) (i := 2) rfl))) rfl
theorem wd_3 : ((Jvm.Cond.initialized "java/lang/Math") : Cond) ∈ zG := zgm (List.mem_append_right _ (List.mem_append_left _ (List.mem_of_getElem? (l := tables_1_1) (i := 3) rfl))) rfl
theorem wd_4 : ((Jvm.Cond.initialized "EditGuess$Book") : Cond) ∈ zG := zgm (List.mem_append_right _ (List.mem_append_left _ (List.mem_of_getElem? (l := tables_1_1) (i := 4) rfl))) rfl
theorem wd_5 : ((Jvm.Cond.initialized "EditGuess$Fitting") : Cond) ∈ zG := zgm (List.mem_append_right _ (List.mem_append_left _ (List.mem_of_getElem? (l := tables_1_1) (i := 5) rfl))) rfl
theorem wd_6 : ((Jvm.Cond.initialized "EditGuess$Moves") : Cond) ∈ zG := zgm (List.mem_append_right _ (List.mem_append_left _ (List.mem_of_getElem? (l := tables_1_1) (i := 6) rfl))) rfl
theorem wd_7 : ((Jvm.Cond.initialized "EditGuess$Row") : Cond) ∈ zG := zgm (List.mem_append_right _ (List.mem_append_left _ (List.mem_of_getElem? (l := tables_1_1) (i := 7) rfl))) rfl
theorem wd_8 : ((Jvm.Cond.initialized "EditGuess$Plan") : Cond) ∈ zG := zgm (List.mem_append_right _ (List.mem_append_left _ (List.mem_of_getElem? (l := tables_1_1) (i := 8) rfl))) rfl
theorem wd_9 : ((Jvm.Cond.initialized "EditGuess$Piece") : Cond) ∈ zG := zgm (List.mem_append_right _ (List.mem_append_left _ (List.mem_of_getElem? (l := tables_1_1) (i := 9) rfl))) rfl
theorem wd_10 : ((Jvm.Cond.initialized "EditGuessModel") : Cond) ∈ zG := zgm (List.mem_append_right _ (List.mem_append_left _ (List.mem_of_getElem? (l := tables_1_1) (i := 10) rfl))) rfl
theorem wd_11 : ((Jvm.Cond.initialized "EditGuess$Marks") : Cond) ∈ zG := zgm (List.mem_append_right _ (List.mem_append_left _ (List.mem_of_getElem? (l := tables_1_1) (i := 11) rfl))) rfl
theorem wd_12 : ((Jvm.Cond.classLink "EditGuessLaw" (7 : Nat) "EditGuess") : Cond) ∈ zG := zgm (List.mem_append_right _ (List.mem_append_left _ (List.mem_of_getElem? (l := tables_1_1) (i := 12) rfl))) rfl
theorem wd_13 : ((Jvm.Cond.instantiable "EditGuess" (10 : Nat)) : Cond) ∈ zG := zgm (List.mem_append_right _ (List.mem_append_left _ (List.mem_of_getElem? (l := tables_1_1) (i := 13) rfl))) rfl
theorem wd_14 : ((Jvm.Cond.methodLink "EditGuessLaw" (9 : Nat) ({ cls := "EditGuess", name := "<init>", desc := "()V" } : Jvm.MethodName)) : Cond) ∈ zG := zgm (List.mem_append_right _ (List.mem_append_left _ (List.mem_of_getElem? (l := tables_1_1) (i := 14) rfl))) rfl
theorem wd_16 : ((Jvm.Cond.code ({ cls := "EditGuess", name := "<init>", desc := "()V" } : Jvm.MethodName) prog_1_method_1_code (2 : Nat) (Option.none : Option Jvm.ClassFile.FieldType)) : Cond) ∈ zG := zgm (List.mem_append_right _ (List.mem_append_left _ (List.mem_of_getElem? (l := tables_1_1) (i := 16) rfl))) rfl
theorem wd_17 : ((Jvm.Cond.methodLink "EditGuess" (1 : Nat) ({ cls := "java/lang/Object", name := "<init>", desc := "()V" } : Jvm.MethodName)) : Cond) ∈ zG := zgm (List.mem_append_right _ (List.mem_append_left _ (List.mem_of_getElem? (l := tables_1_1) (i := 17) rfl))) rfl
theorem wd_18 : ((Jvm.Cond.instanceMethod ({ cls := "java/lang/Object", name := "<init>", desc := "()V" } : Jvm.MethodName)) : Cond) ∈ zG := zgm (List.mem_append_right _ (List.mem_append_left _ (List.mem_of_getElem? (l := tables_1_1) (i := 18) rfl))) rfl
theorem wd_19 : ((Jvm.Cond.code ({ cls := "java/lang/Object", name := "<init>", desc := "()V" } : Jvm.MethodName) object_method_1_code (1 : Nat) (Option.none : Option Jvm.ClassFile.FieldType)) : Cond) ∈ zG := zgm (List.mem_append_right _ (List.mem_append_left _ (List.mem_of_getElem? (l := tables_1_1) (i := 19) rfl))) rfl
theorem wd_20 : ((Jvm.Cond.classLink "EditGuess" (7 : Nat) "EditGuess$Signs") : Cond) ∈ zG := zgm (List.mem_append_right _ (List.mem_append_left _ (List.mem_of_getElem? (l := tables_1_1) (i := 20) rfl))) rfl
theorem wd_21 : ((Jvm.Cond.instantiable "EditGuess$Signs" (3 : Nat)) : Cond) ∈ zG := zgm (List.mem_append_right _ (List.mem_append_left _ (List.mem_of_getElem? (l := tables_1_1) (i := 21) rfl))) rfl
theorem wd_22 : ((Jvm.Cond.methodLink "EditGuess" (11 : Nat) ({ cls := "EditGuess$Signs", name := "<init>", desc := "(I)V" } : Jvm.MethodName)) : Cond) ∈ zG := zgm (List.mem_append_right _ (List.mem_append_left _ (List.mem_of_getElem? (l := tables_1_1) (i := 22) rfl))) rfl
theorem wd_24 : ((Jvm.Cond.code ({ cls := "EditGuess$Signs", name := "<init>", desc := "(I)V" } : Jvm.MethodName) prog_9_method_1_code (3 : Nat) (Option.none : Option Jvm.ClassFile.FieldType)) : Cond) ∈ zG := zgm (List.mem_append_right _ (List.mem_append_left _ (List.mem_of_getElem? (l := tables_1_1) (i := 24) rfl))) rfl
theorem wd_25 : ((Jvm.Cond.methodLink "EditGuess$Signs" (3 : Nat) ({ cls := "java/lang/Object", name := "<init>", desc := "()V" } : Jvm.MethodName)) : Cond) ∈ zG := zgm (List.mem_append_right _ (List.mem_append_left _ (List.mem_of_getElem? (l := tables_1_1) (i := 25) rfl))) rfl
theorem wd_26 : ((Jvm.Cond.methodLink "EditGuess$Signs" (9 : Nat) ({ cls := "java/lang/Math", name := "max", desc := "(II)I" } : Jvm.MethodName)) : Cond) ∈ zG := zgm (List.mem_append_right _ (List.mem_append_left _ (List.mem_of_getElem? (l := tables_1_1) (i := 26) rfl))) rfl
theorem wd_27 : ((Jvm.Cond.static ({ cls := "java/lang/Math", name := "max", desc := "(II)I" } : Jvm.MethodName)) : Cond) ∈ zG := zgm (List.mem_append_right _ (List.mem_append_left _ (List.mem_of_getElem? (l := tables_1_1) (i := 27) rfl))) rfl
theorem wd_28 : ((Jvm.Cond.code ({ cls := "java/lang/Math", name := "max", desc := "(II)I" } : Jvm.MethodName) prog_12_method_65_code (2 : Nat) (Option.some Jvm.ClassFile.FieldType.int)) : Cond) ∈ zG := zgm (List.mem_append_right _ (List.mem_append_left _ (List.mem_of_getElem? (l := tables_1_1) (i := 28) rfl))) rfl
theorem wd_29 : ((Jvm.Cond.fieldLink "EditGuess$Signs" (15 : Nat) "EditGuess$Signs" "codes" "[I") : Cond) ∈ zG := zgm (List.mem_append_right _ (List.mem_append_left _ (List.mem_of_getElem? (l := tables_1_1) (i := 29) rfl))) rfl
theorem wd_30 : ((Jvm.Cond.fieldLink "EditGuess$Signs" (21 : Nat) "EditGuess$Signs" "kinds" "[I") : Cond) ∈ zG := zgm (List.mem_append_right _ (List.mem_append_left _ (List.mem_of_getElem? (l := tables_1_1) (i := 30) rfl))) rfl
theorem wd_31 : ((Jvm.Cond.fieldLink "EditGuess$Signs" (24 : Nat) "EditGuess$Signs" "many" "I") : Cond) ∈ zG := zgm (List.mem_append_right _ (List.mem_append_left _ (List.mem_of_getElem? (l := tables_1_1) (i := 31) rfl))) rfl
theorem wd_39 : ((Jvm.Cond.arrayClass Jvm.ClassFile.FieldType.int) : Cond) ∈ zG := zgm (List.mem_append_right _ (List.mem_append_left _ (List.mem_of_getElem? (l := tables_1_1) (i := 39) rfl))) rfl
theorem wd_40 : ((Jvm.Cond.classLink "EditGuess" (18 : Nat) "EditGuess$Book") : Cond) ∈ zG := zgm (List.mem_append_right _ (List.mem_append_left _ (List.mem_of_getElem? (l := tables_1_1) (i := 40) rfl))) rfl
theorem wd_41 : ((Jvm.Cond.instantiable "EditGuess$Book" (5 : Nat)) : Cond) ∈ zG := zgm (List.mem_append_right _ (List.mem_append_left _ (List.mem_of_getElem? (l := tables_1_1) (i := 41) rfl))) rfl
theorem wd_42 : ((Jvm.Cond.methodLink "EditGuess" (20 : Nat) ({ cls := "EditGuess$Book", name := "<init>", desc := "()V" } : Jvm.MethodName)) : Cond) ∈ zG := zgm (List.mem_append_right _ (List.mem_append_left _ (List.mem_of_getElem? (l := tables_1_1) (i := 42) rfl))) rfl
theorem wd_44 : ((Jvm.Cond.code ({ cls := "EditGuess$Book", name := "<init>", desc := "()V" } : Jvm.MethodName) prog_2_method_1_code (2 : Nat) (Option.none : Option Jvm.ClassFile.FieldType)) : Cond) ∈ zG := zgm (List.mem_append_right _ (List.mem_append_left _ (List.mem_of_getElem? (l := tables_1_1) (i := 44) rfl))) rfl
theorem wd_45 : ((Jvm.Cond.methodLink "EditGuess$Book" (3 : Nat) ({ cls := "java/lang/Object", name := "<init>", desc := "()V" } : Jvm.MethodName)) : Cond) ∈ zG := zgm (List.mem_append_right _ (List.mem_append_left _ (List.mem_of_getElem? (l := tables_1_1) (i := 45) rfl))) rfl
theorem wd_46 : ((Jvm.Cond.classLink "EditGuess$Book" (9 : Nat) "EditGuess$Signs") : Cond) ∈ zG := zgm (List.mem_append_right _ (List.mem_append_left _ (List.mem_of_getElem? (l := tables_1_1) (i := 46) rfl))) rfl
theorem wd_48 : ((Jvm.Cond.methodLink "EditGuess$Book" (23 : Nat) ({ cls := "EditGuess$Signs", name := "<init>", desc := "(I)V" } : Jvm.MethodName)) : Cond) ∈ zG := zgm (List.mem_append_right _ (List.mem_append_left _ (List.mem_of_getElem? (l := tables_1_1) (i := 48) rfl))) rfl
theorem wd_49 : ((Jvm.Cond.fieldLink "EditGuess$Book" (11 : Nat) "EditGuess$Book" "exampleLines" "[LEditGuess$Signs;") : Cond) ∈ zG := zgm (List.mem_append_right _ (List.mem_append_left _ (List.mem_of_getElem? (l := tables_1_1) (i := 49) rfl))) rfl
theorem wd_50 : ((Jvm.Cond.fieldLink "EditGuess$Book" (17 : Nat) "EditGuess$Book" "results" "[LEditGuess$Signs;") : Cond) ∈ zG := zgm (List.mem_append_right _ (List.mem_append_left _ (List.mem_of_getElem? (l := tables_1_1) (i := 50) rfl))) rfl
theorem wd_51 : ((Jvm.Cond.fieldLink "EditGuess$Book" (20 : Nat) "EditGuess$Book" "lines" "[LEditGuess$Signs;") : Cond) ∈ zG := zgm (List.mem_append_right _ (List.mem_append_left _ (List.mem_of_getElem? (l := tables_1_1) (i := 51) rfl))) rfl
theorem wd_52 : ((Jvm.Cond.fieldLink "EditGuess$Book" (26 : Nat) "EditGuess$Book" "examples" "I") : Cond) ∈ zG := zgm (List.mem_append_right _ (List.mem_append_left _ (List.mem_of_getElem? (l := tables_1_1) (i := 52) rfl))) rfl
theorem wd_53 : ((Jvm.Cond.fieldLink "EditGuess$Book" (30 : Nat) "EditGuess$Book" "pooled" "I") : Cond) ∈ zG := zgm (List.mem_append_right _ (List.mem_append_left _ (List.mem_of_getElem? (l := tables_1_1) (i := 53) rfl))) rfl
theorem wd_66 : ((Jvm.Cond.classLink "EditGuess" (33 : Nat) "EditGuess$Fitting") : Cond) ∈ zG := zgm (List.mem_append_right _ (List.mem_append_left _ (List.mem_of_getElem? (l := tables_1_1) (i := 66) rfl))) rfl
theorem wd_67 : ((Jvm.Cond.instantiable "EditGuess$Fitting" (10 : Nat)) : Cond) ∈ zG := zgm (List.mem_append_right _ (List.mem_append_left _ (List.mem_of_getElem? (l := tables_1_1) (i := 67) rfl))) rfl
theorem wd_68 : ((Jvm.Cond.methodLink "EditGuess" (35 : Nat) ({ cls := "EditGuess$Fitting", name := "<init>", desc := "()V" } : Jvm.MethodName)) : Cond) ∈ zG := zgm (List.mem_append_right _ (List.mem_append_left _ (List.mem_of_getElem? (l := tables_1_1) (i := 68) rfl))) rfl
theorem wd_70 : ((Jvm.Cond.code ({ cls := "EditGuess$Fitting", name := "<init>", desc := "()V" } : Jvm.MethodName) prog_3_method_1_code (2 : Nat) (Option.none : Option Jvm.ClassFile.FieldType)) : Cond) ∈ zG := zgm (List.mem_append_right _ (List.mem_append_left _ (List.mem_of_getElem? (l := tables_1_1) (i := 70) rfl))) rfl
theorem wd_71 : ((Jvm.Cond.methodLink "EditGuess$Fitting" (5 : Nat) ({ cls := "java/lang/Object", name := "<init>", desc := "()V" } : Jvm.MethodName)) : Cond) ∈ zG := zgm (List.mem_append_right _ (List.mem_append_left _ (List.mem_of_getElem? (l := tables_1_1) (i := 71) rfl))) rfl
theorem wd_72 : ((Jvm.Cond.classLink "EditGuess$Fitting" (11 : Nat) "EditGuess$Row") : Cond) ∈ zG := zgm (List.mem_append_right _ (List.mem_append_left _ (List.mem_of_getElem? (l := tables_1_1) (i := 72) rfl))) rfl
theorem wd_74 : ((Jvm.Cond.classLink "EditGuess$Fitting" (32 : Nat) "EditGuess$Moves") : Cond) ∈ zG := zgm (List.mem_append_right _ (List.mem_append_left _ (List.mem_of_getElem? (l := tables_1_1) (i := 74) rfl))) rfl
theorem wd_75 : ((Jvm.Cond.instantiable "EditGuess$Moves" (4 : Nat)) : Cond) ∈ zG := zgm (List.mem_append_right _ (List.mem_append_left _ (List.mem_of_getElem? (l := tables_1_1) (i := 75) rfl))) rfl
theorem wd_78 : ((Jvm.Cond.code ({ cls := "EditGuess$Moves", name := "<init>", desc := "()V" } : Jvm.MethodName) prog_5_method_1_code (1 : Nat) (Option.none : Option Jvm.ClassFile.FieldType)) : Cond) ∈ zG := zgm (List.mem_append_right _ (List.mem_append_left _ (List.mem_of_getElem? (l := tables_1_1) (i := 78) rfl))) rfl
theorem wd_79 : ((Jvm.Cond.methodLink "EditGuess$Moves" (5 : Nat) ({ cls := "java/lang/Object", name := "<init>", desc := "()V" } : Jvm.MethodName)) : Cond) ∈ zG := zgm (List.mem_append_right _ (List.mem_append_left _ (List.mem_of_getElem? (l := tables_1_1) (i := 79) rfl))) rfl
theorem wd_80 : ((Jvm.Cond.fieldLink "EditGuess$Moves" (13 : Nat) "EditGuess$Moves" "targets" "[I") : Cond) ∈ zG := zgm (List.mem_append_right _ (List.mem_append_left _ (List.mem_of_getElem? (l := tables_1_1) (i := 80) rfl))) rfl
theorem wd_81 : ((Jvm.Cond.fieldLink "EditGuess$Moves" (17 : Nat) "EditGuess$Moves" "times" "[I") : Cond) ∈ zG := zgm (List.mem_append_right _ (List.mem_append_left _ (List.mem_of_getElem? (l := tables_1_1) (i := 81) rfl))) rfl
theorem wd_82 : ((Jvm.Cond.fieldLink "EditGuess$Moves" (20 : Nat) "EditGuess$Moves" "prices" "[I") : Cond) ∈ zG := zgm (List.mem_append_right _ (List.mem_append_left _ (List.mem_of_getElem? (l := tables_1_1) (i := 82) rfl))) rfl
theorem wd_83 : ((Jvm.Cond.fieldLink "EditGuess$Moves" (23 : Nat) "EditGuess$Moves" "many" "I") : Cond) ∈ zG := zgm (List.mem_append_right _ (List.mem_append_left _ (List.mem_of_getElem? (l := tables_1_1) (i := 83) rfl))) rfl
theorem wd_93 : ((Jvm.Cond.arrayClass Jvm.ClassFile.FieldType.boolean) : Cond) ∈ zG := zgm (List.mem_append_right _ (List.mem_append_left _ (List.mem_of_getElem? (l := tables_1_1) (i := 93) rfl))) rfl
theorem wd_94 : ((Jvm.Cond.instantiable "EditGuess$Row" (3 : Nat)) : Cond) ∈ zG := zgm (List.mem_append_right _ (List.mem_append_left _ (List.mem_of_getElem? (l := tables_1_1) (i := 94) rfl))) rfl
theorem wd_97 : ((Jvm.Cond.code ({ cls := "EditGuess$Row", name := "<init>", desc := "()V" } : Jvm.MethodName) prog_8_method_1_code (1 : Nat) (Option.none : Option Jvm.ClassFile.FieldType)) : Cond) ∈ zG := zgm (List.mem_append_right _ (List.mem_append_left _ (List.mem_of_getElem? (l := tables_1_1) (i := 97) rfl))) rfl
theorem wd_98 : ((Jvm.Cond.methodLink "EditGuess$Row" (3 : Nat) ({ cls := "java/lang/Object", name := "<init>", desc := "()V" } : Jvm.MethodName)) : Cond) ∈ zG := zgm (List.mem_append_right _ (List.mem_append_left _ (List.mem_of_getElem? (l := tables_1_1) (i := 98) rfl))) rfl
theorem wd_99 : ((Jvm.Cond.classLink "EditGuess$Row" (9 : Nat) "EditGuess$Signs") : Cond) ∈ zG := zgm (List.mem_append_right _ (List.mem_append_left _ (List.mem_of_getElem? (l := tables_1_1) (i := 99) rfl))) rfl
theorem wd_100 : ((Jvm.Cond.methodLink "EditGuess$Row" (11 : Nat) ({ cls := "EditGuess$Signs", name := "<init>", desc := "(I)V" } : Jvm.MethodName)) : Cond) ∈ zG := zgm (List.mem_append_right _ (List.mem_append_left _ (List.mem_of_getElem? (l := tables_1_1) (i := 100) rfl))) rfl
theorem wd_101 : ((Jvm.Cond.classLink "EditGuess$Row" (26 : Nat) "[[I") : Cond) ∈ zG := zgm (List.mem_append_right _ (List.mem_append_left _ (List.mem_of_getElem? (l := tables_1_1) (i := 101) rfl))) rfl
theorem wd_103 : ((Jvm.Cond.fieldLink "EditGuess$Row" (14 : Nat) "EditGuess$Row" "result" "LEditGuess$Signs;") : Cond) ∈ zG := zgm (List.mem_append_right _ (List.mem_append_left _ (List.mem_of_getElem? (l := tables_1_1) (i := 103) rfl))) rfl
theorem wd_104 : ((Jvm.Cond.fieldLink "EditGuess$Row" (22 : Nat) "EditGuess$Row" "places" "[I") : Cond) ∈ zG := zgm (List.mem_append_right _ (List.mem_append_left _ (List.mem_of_getElem? (l := tables_1_1) (i := 104) rfl))) rfl
theorem wd_105 : ((Jvm.Cond.fieldLink "EditGuess$Row" (28 : Nat) "EditGuess$Row" "alike" "[[I") : Cond) ∈ zG := zgm (List.mem_append_right _ (List.mem_append_left _ (List.mem_of_getElem? (l := tables_1_1) (i := 105) rfl))) rfl
theorem wd_113 : ((Jvm.Cond.arrayClass Jvm.ClassFile.FieldType.long) : Cond) ∈ zG := zgm (List.mem_append_right _ (List.mem_append_left _ (List.mem_of_getElem? (l := tables_1_1) (i := 113) rfl))) rfl
theorem wd_114 : ((Jvm.Cond.fieldLink "EditGuess$Fitting" (13 : Nat) "EditGuess$Fitting" "rows" "[LEditGuess$Row;") : Cond) ∈ zG := zgm (List.mem_append_right _ (List.mem_append_left _ (List.mem_of_getElem? (l := tables_1_1) (i := 114) rfl))) rfl
theorem wd_115 : ((Jvm.Cond.fieldLink "EditGuess$Fitting" (17 : Nat) "EditGuess$Fitting" "reached" "[I") : Cond) ∈ zG := zgm (List.mem_append_right _ (List.mem_append_left _ (List.mem_of_getElem? (l := tables_1_1) (i := 115) rfl))) rfl
theorem wd_116 : ((Jvm.Cond.fieldLink "EditGuess$Fitting" (23 : Nat) "EditGuess$Fitting" "heads" "[I") : Cond) ∈ zG := zgm (List.mem_append_right _ (List.mem_append_left _ (List.mem_of_getElem? (l := tables_1_1) (i := 116) rfl))) rfl
theorem wd_117 : ((Jvm.Cond.fieldLink "EditGuess$Fitting" (26 : Nat) "EditGuess$Fitting" "sizes" "[I") : Cond) ∈ zG := zgm (List.mem_append_right _ (List.mem_append_left _ (List.mem_of_getElem? (l := tables_1_1) (i := 117) rfl))) rfl
theorem wd_118 : ((Jvm.Cond.fieldLink "EditGuess$Fitting" (29 : Nat) "EditGuess$Fitting" "prices" "[I") : Cond) ∈ zG := zgm (List.mem_append_right _ (List.mem_append_left _ (List.mem_of_getElem? (l := tables_1_1) (i := 118) rfl))) rfl
theorem wd_119 : ((Jvm.Cond.fieldLink "EditGuess$Fitting" (35 : Nat) "EditGuess$Fitting" "moves" "LEditGuess$Moves;") : Cond) ∈ zG := zgm (List.mem_append_right _ (List.mem_append_left _ (List.mem_of_getElem? (l := tables_1_1) (i := 119) rfl))) rfl
theorem wd_120 : ((Jvm.Cond.fieldLink "EditGuess$Fitting" (39 : Nat) "EditGuess$Fitting" "ways" "[J") : Cond) ∈ zG := zgm (List.mem_append_right _ (List.mem_append_left _ (List.mem_of_getElem? (l := tables_1_1) (i := 120) rfl))) rfl
theorem wd_121 : ((Jvm.Cond.fieldLink "EditGuess$Fitting" (43 : Nat) "EditGuess$Fitting" "least" "[I") : Cond) ∈ zG := zgm (List.mem_append_right _ (List.mem_append_left _ (List.mem_of_getElem? (l := tables_1_1) (i := 121) rfl))) rfl
theorem wd_122 : ((Jvm.Cond.fieldLink "EditGuess$Fitting" (47 : Nat) "EditGuess$Fitting" "many" "I") : Cond) ∈ zG := zgm (List.mem_append_right _ (List.mem_append_left _ (List.mem_of_getElem? (l := tables_1_1) (i := 122) rfl))) rfl
theorem wd_123 : ((Jvm.Cond.fieldLink "EditGuess$Fitting" (146 : Nat) "EditGuess$Fitting" "groups" "I") : Cond) ∈ zG := zgm (List.mem_append_right _ (List.mem_append_left _ (List.mem_of_getElem? (l := tables_1_1) (i := 123) rfl))) rfl
theorem wd_145 : ((Jvm.Cond.classLink "EditGuess" (40 : Nat) "EditGuess$Plan") : Cond) ∈ zG := zgm (List.mem_append_right _ (List.mem_append_left _ (List.mem_of_getElem? (l := tables_1_1) (i := 145) rfl))) rfl
theorem wd_146 : ((Jvm.Cond.instantiable "EditGuess$Plan" (2 : Nat)) : Cond) ∈ zG := zgm (List.mem_append_right _ (List.mem_append_left _ (List.mem_of_getElem? (l := tables_1_1) (i := 146) rfl))) rfl
theorem wd_147 : ((Jvm.Cond.methodLink "EditGuess" (42 : Nat) ({ cls := "EditGuess$Plan", name := "<init>", desc := "()V" } : Jvm.MethodName)) : Cond) ∈ zG := zgm (List.mem_append_right _ (List.mem_append_left _ (List.mem_of_getElem? (l := tables_1_1) (i := 147) rfl))) rfl
theorem wd_149 : ((Jvm.Cond.code ({ cls := "EditGuess$Plan", name := "<init>", desc := "()V" } : Jvm.MethodName) prog_7_method_1_code (2 : Nat) (Option.none : Option Jvm.ClassFile.FieldType)) : Cond) ∈ zG := zgm (List.mem_append_right _ (List.mem_append_left _ (List.mem_of_getElem? (l := tables_1_1) (i := 149) rfl))) rfl
theorem wd_150 : ((Jvm.Cond.methodLink "EditGuess$Plan" (3 : Nat) ({ cls := "java/lang/Object", name := "<init>", desc := "()V" } : Jvm.MethodName)) : Cond) ∈ zG := zgm (List.mem_append_right _ (List.mem_append_left _ (List.mem_of_getElem? (l := tables_1_1) (i := 150) rfl))) rfl
theorem wd_151 : ((Jvm.Cond.classLink "EditGuess$Plan" (9 : Nat) "EditGuess$Piece") : Cond) ∈ zG := zgm (List.mem_append_right _ (List.mem_append_left _ (List.mem_of_getElem? (l := tables_1_1) (i := 151) rfl))) rfl
theorem wd_153 : ((Jvm.Cond.instantiable "EditGuess$Piece" (4 : Nat)) : Cond) ∈ zG := zgm (List.mem_append_right _ (List.mem_append_left _ (List.mem_of_getElem? (l := tables_1_1) (i := 153) rfl))) rfl
theorem wd_156 : ((Jvm.Cond.code ({ cls := "EditGuess$Piece", name := "<init>", desc := "()V" } : Jvm.MethodName) prog_6_method_1_code (1 : Nat) (Option.none : Option Jvm.ClassFile.FieldType)) : Cond) ∈ zG := zgm (List.mem_append_right _ (List.mem_append_left _ (List.mem_of_getElem? (l := tables_1_1) (i := 156) rfl))) rfl
theorem wd_157 : ((Jvm.Cond.methodLink "EditGuess$Piece" (3 : Nat) ({ cls := "java/lang/Object", name := "<init>", desc := "()V" } : Jvm.MethodName)) : Cond) ∈ zG := zgm (List.mem_append_right _ (List.mem_append_left _ (List.mem_of_getElem? (l := tables_1_1) (i := 157) rfl))) rfl
theorem wd_158 : ((Jvm.Cond.classLink "EditGuess$Piece" (9 : Nat) "EditGuess$Signs") : Cond) ∈ zG := zgm (List.mem_append_right _ (List.mem_append_left _ (List.mem_of_getElem? (l := tables_1_1) (i := 158) rfl))) rfl
theorem wd_159 : ((Jvm.Cond.methodLink "EditGuess$Piece" (11 : Nat) ({ cls := "EditGuess$Signs", name := "<init>", desc := "(I)V" } : Jvm.MethodName)) : Cond) ∈ zG := zgm (List.mem_append_right _ (List.mem_append_left _ (List.mem_of_getElem? (l := tables_1_1) (i := 159) rfl))) rfl
theorem wd_160 : ((Jvm.Cond.fieldLink "EditGuess$Piece" (14 : Nat) "EditGuess$Piece" "text" "LEditGuess$Signs;") : Cond) ∈ zG := zgm (List.mem_append_right _ (List.mem_append_left _ (List.mem_of_getElem? (l := tables_1_1) (i := 160) rfl))) rfl
theorem wd_161 : ((Jvm.Cond.fieldLink "EditGuess$Piece" (20 : Nat) "EditGuess$Piece" "isText" "Z") : Cond) ∈ zG := zgm (List.mem_append_right _ (List.mem_append_left _ (List.mem_of_getElem? (l := tables_1_1) (i := 161) rfl))) rfl
theorem wd_162 : ((Jvm.Cond.fieldLink "EditGuess$Piece" (24 : Nat) "EditGuess$Piece" "first" "I") : Cond) ∈ zG := zgm (List.mem_append_right _ (List.mem_append_left _ (List.mem_of_getElem? (l := tables_1_1) (i := 162) rfl))) rfl
theorem wd_163 : ((Jvm.Cond.fieldLink "EditGuess$Piece" (28 : Nat) "EditGuess$Piece" "second" "I") : Cond) ∈ zG := zgm (List.mem_append_right _ (List.mem_append_left _ (List.mem_of_getElem? (l := tables_1_1) (i := 163) rfl))) rfl
theorem wd_173 : ((Jvm.Cond.fieldLink "EditGuess$Plan" (11 : Nat) "EditGuess$Plan" "pieces" "[LEditGuess$Piece;") : Cond) ∈ zG := zgm (List.mem_append_right _ (List.mem_append_left _ (List.mem_of_getElem? (l := tables_1_1) (i := 173) rfl))) rfl
theorem wd_174 : ((Jvm.Cond.fieldLink "EditGuess$Plan" (18 : Nat) "EditGuess$Plan" "many" "I") : Cond) ∈ zG := zgm (List.mem_append_right _ (List.mem_append_left _ (List.mem_of_getElem? (l := tables_1_1) (i := 174) rfl))) rfl
theorem wd_180 : ((Jvm.Cond.methodLink "EditGuess" (54 : Nat) ({ cls := "EditGuess", name := "poolChanged", desc := "()V" } : Jvm.MethodName)) : Cond) ∈ zG := zgm (List.mem_append_right _ (List.mem_append_left _ (List.mem_of_getElem? (l := tables_1_1) (i := 180) rfl))) rfl
theorem wd_182 : ((Jvm.Cond.instanceMethod ({ cls := "EditGuess", name := "poolChanged", desc := "()V" } : Jvm.MethodName)) : Cond) ∈ zG := zgm (List.mem_append_right _ (List.mem_append_left _ (List.mem_of_getElem? (l := tables_1_1) (i := 182) rfl))) rfl
theorem wd_183 : ((Jvm.Cond.code ({ cls := "EditGuess", name := "poolChanged", desc := "()V" } : Jvm.MethodName) prog_1_method_23_code (2 : Nat) (Option.none : Option Jvm.ClassFile.FieldType)) : Cond) ∈ zG := zgm (List.mem_append_right _ (List.mem_append_left _ (List.mem_of_getElem? (l := tables_1_1) (i := 183) rfl))) rfl
theorem wd_184 : ((Jvm.Cond.constantLong "EditGuess" (150 : Nat) (-1 : Int64)) : Cond) ∈ zG := zgm (List.mem_append_right _ (List.mem_append_left _ (List.mem_of_getElem? (l := tables_1_1) (i := 184) rfl))) rfl
theorem wd_185 : ((Jvm.Cond.fieldLink "EditGuess" (14 : Nat) "EditGuess" "pad" "LEditGuess$Signs;") : Cond) ∈ zG := zgm (List.mem_append_right _ (List.mem_append_left _ (List.mem_of_getElem? (l := tables_1_1) (i := 185) rfl))) rfl
theorem wd_186 : ((Jvm.Cond.fieldLink "EditGuess" (21 : Nat) "EditGuess" "book" "LEditGuess$Book;") : Cond) ∈ zG := zgm (List.mem_append_right _ (List.mem_append_left _ (List.mem_of_getElem? (l := tables_1_1) (i := 186) rfl))) rfl
theorem wd_187 : ((Jvm.Cond.fieldLink "EditGuess" (25 : Nat) "EditGuess" "images" "[LEditGuess$Book;") : Cond) ∈ zG := zgm (List.mem_append_right _ (List.mem_append_left _ (List.mem_of_getElem? (l := tables_1_1) (i := 187) rfl))) rfl
theorem wd_188 : ((Jvm.Cond.fieldLink "EditGuess" (29 : Nat) "EditGuess" "kept" "[Z") : Cond) ∈ zG := zgm (List.mem_append_right _ (List.mem_append_left _ (List.mem_of_getElem? (l := tables_1_1) (i := 188) rfl))) rfl
theorem wd_189 : ((Jvm.Cond.fieldLink "EditGuess" (36 : Nat) "EditGuess" "fitting" "LEditGuess$Fitting;") : Cond) ∈ zG := zgm (List.mem_append_right _ (List.mem_append_left _ (List.mem_of_getElem? (l := tables_1_1) (i := 189) rfl))) rfl
theorem wd_190 : ((Jvm.Cond.fieldLink "EditGuess" (43 : Nat) "EditGuess" "best" "LEditGuess$Plan;") : Cond) ∈ zG := zgm (List.mem_append_right _ (List.mem_append_left _ (List.mem_of_getElem? (l := tables_1_1) (i := 190) rfl))) rfl
theorem wd_191 : ((Jvm.Cond.fieldLink "EditGuess" (47 : Nat) "EditGuess" "made" "LEditGuess$Signs;") : Cond) ∈ zG := zgm (List.mem_append_right _ (List.mem_append_left _ (List.mem_of_getElem? (l := tables_1_1) (i := 191) rfl))) rfl
theorem wd_192 : ((Jvm.Cond.fieldLink "EditGuess" (50 : Nat) "EditGuess" "agreed" "[J") : Cond) ∈ zG := zgm (List.mem_append_right _ (List.mem_append_left _ (List.mem_of_getElem? (l := tables_1_1) (i := 192) rfl))) rfl
theorem wd_193 : ((Jvm.Cond.fieldLink "EditGuess" (168 : Nat) "EditGuess" "guessed" "Z") : Cond) ∈ zG := zgm (List.mem_append_right _ (List.mem_append_left _ (List.mem_of_getElem? (l := tables_1_1) (i := 193) rfl))) rfl
theorem wd_194 : ((Jvm.Cond.fieldLink "EditGuess" (109 : Nat) "EditGuess" "fitted" "J") : Cond) ∈ zG := zgm (List.mem_append_right _ (List.mem_append_left _ (List.mem_of_getElem? (l := tables_1_1) (i := 194) rfl))) rfl
theorem wd_216 : ((Jvm.Cond.methodLink "EditGuessLaw" (13 : Nat) ({ cls := "EditGuess", name := "say", desc := "(I)I" } : Jvm.MethodName)) : Cond) ∈ zG := zgm (List.mem_append_right _ (List.mem_append_left _ (List.mem_of_getElem? (l := tables_1_1) (i := 216) rfl))) rfl
theorem wd_217 : ((Jvm.Cond.instanceMethod ({ cls := "EditGuess", name := "say", desc := "(I)I" } : Jvm.MethodName)) : Cond) ∈ zG := zgm (List.mem_append_right _ (List.mem_append_left _ (List.mem_of_getElem? (l := tables_1_1) (i := 217) rfl))) rfl
theorem wd_218 : ((Jvm.Cond.selects "EditGuess" ({ cls := "EditGuess", name := "say", desc := "(I)I" } : Jvm.MethodName) ({ cls := "EditGuess", name := "say", desc := "(I)I" } : Jvm.MethodName)) : Cond) ∈ zG := zgm (List.mem_append_right _ (List.mem_append_left _ (List.mem_of_getElem? (l := tables_1_1) (i := 218) rfl))) rfl
theorem wd_219 : ((Jvm.Cond.code ({ cls := "EditGuess", name := "say", desc := "(I)I" } : Jvm.MethodName) prog_1_method_2_code (2 : Nat) (Option.some Jvm.ClassFile.FieldType.int)) : Cond) ∈ zG := zgm (List.mem_append_right _ (List.mem_append_left _ (List.mem_of_getElem? (l := tables_1_1) (i := 219) rfl))) rfl
theorem wd_220 : ((Jvm.Cond.methodLink "EditGuess" (57 : Nat) ({ cls := "EditGuess$Signs", name := "add", desc := "(I)Z" } : Jvm.MethodName)) : Cond) ∈ zG := zgm (List.mem_append_right _ (List.mem_append_left _ (List.mem_of_getElem? (l := tables_1_1) (i := 220) rfl))) rfl
theorem wd_221 : ((Jvm.Cond.instanceMethod ({ cls := "EditGuess$Signs", name := "add", desc := "(I)Z" } : Jvm.MethodName)) : Cond) ∈ zG := zgm (List.mem_append_right _ (List.mem_append_left _ (List.mem_of_getElem? (l := tables_1_1) (i := 221) rfl))) rfl
theorem wd_222 : ((Jvm.Cond.selects "EditGuess$Signs" ({ cls := "EditGuess$Signs", name := "add", desc := "(I)Z" } : Jvm.MethodName) ({ cls := "EditGuess$Signs", name := "add", desc := "(I)Z" } : Jvm.MethodName)) : Cond) ∈ zG := zgm (List.mem_append_right _ (List.mem_append_left _ (List.mem_of_getElem? (l := tables_1_1) (i := 222) rfl))) rfl
theorem wd_223 : ((Jvm.Cond.code ({ cls := "EditGuess$Signs", name := "add", desc := "(I)Z" } : Jvm.MethodName) prog_9_method_4_code (2 : Nat) (Option.some Jvm.ClassFile.FieldType.boolean)) : Cond) ∈ zG := zgm (List.mem_append_right _ (List.mem_append_left _ (List.mem_of_getElem? (l := tables_1_1) (i := 223) rfl))) rfl
theorem wd_224 : ((Jvm.Cond.methodLink "EditGuess$Signs" (28 : Nat) ({ cls := "EditGuess$Signs", name := "kindOf", desc := "(I)I" } : Jvm.MethodName)) : Cond) ∈ zG := zgm (List.mem_append_right _ (List.mem_append_left _ (List.mem_of_getElem? (l := tables_1_1) (i := 224) rfl))) rfl
theorem wd_225 : ((Jvm.Cond.static ({ cls := "EditGuess$Signs", name := "kindOf", desc := "(I)I" } : Jvm.MethodName)) : Cond) ∈ zG := zgm (List.mem_append_right _ (List.mem_append_left _ (List.mem_of_getElem? (l := tables_1_1) (i := 225) rfl))) rfl
theorem wd_226 : ((Jvm.Cond.code ({ cls := "EditGuess$Signs", name := "kindOf", desc := "(I)I" } : Jvm.MethodName) prog_9_method_5_code (1 : Nat) (Option.some Jvm.ClassFile.FieldType.int)) : Cond) ∈ zG := zgm (List.mem_append_right _ (List.mem_append_left _ (List.mem_of_getElem? (l := tables_1_1) (i := 226) rfl))) rfl
theorem wd_227 : ((Jvm.Cond.methodLink "EditGuess" (61 : Nat) ({ cls := "EditGuess$Signs", name := "many", desc := "()I" } : Jvm.MethodName)) : Cond) ∈ zG := zgm (List.mem_append_right _ (List.mem_append_left _ (List.mem_of_getElem? (l := tables_1_1) (i := 227) rfl))) rfl
theorem wd_228 : ((Jvm.Cond.instanceMethod ({ cls := "EditGuess$Signs", name := "many", desc := "()I" } : Jvm.MethodName)) : Cond) ∈ zG := zgm (List.mem_append_right _ (List.mem_append_left _ (List.mem_of_getElem? (l := tables_1_1) (i := 228) rfl))) rfl
theorem wd_229 : ((Jvm.Cond.selects "EditGuess$Signs" ({ cls := "EditGuess$Signs", name := "many", desc := "()I" } : Jvm.MethodName) ({ cls := "EditGuess$Signs", name := "many", desc := "()I" } : Jvm.MethodName)) : Cond) ∈ zG := zgm (List.mem_append_right _ (List.mem_append_left _ (List.mem_of_getElem? (l := tables_1_1) (i := 229) rfl))) rfl
theorem wd_230 : ((Jvm.Cond.code ({ cls := "EditGuess$Signs", name := "many", desc := "()I" } : Jvm.MethodName) prog_9_method_2_code (1 : Nat) (Option.some Jvm.ClassFile.FieldType.int)) : Cond) ∈ zG := zgm (List.mem_append_right _ (List.mem_append_left _ (List.mem_of_getElem? (l := tables_1_1) (i := 230) rfl))) rfl
theorem wd_231 : ((Jvm.Cond.methodLink "EditGuessLaw" (18 : Nat) ({ cls := "EditGuess", name := "wipe", desc := "()I" } : Jvm.MethodName)) : Cond) ∈ zG := zgm (List.mem_append_right _ (List.mem_append_left _ (List.mem_of_getElem? (l := tables_1_1) (i := 231) rfl))) rfl
theorem wd_232 : ((Jvm.Cond.instanceMethod ({ cls := "EditGuess", name := "wipe", desc := "()I" } : Jvm.MethodName)) : Cond) ∈ zG := zgm (List.mem_append_right _ (List.mem_append_left _ (List.mem_of_getElem? (l := tables_1_1) (i := 232) rfl))) rfl
theorem wd_233 : ((Jvm.Cond.selects "EditGuess" ({ cls := "EditGuess", name := "wipe", desc := "()I" } : Jvm.MethodName) ({ cls := "EditGuess", name := "wipe", desc := "()I" } : Jvm.MethodName)) : Cond) ∈ zG := zgm (List.mem_append_right _ (List.mem_append_left _ (List.mem_of_getElem? (l := tables_1_1) (i := 233) rfl))) rfl
theorem wd_234 : ((Jvm.Cond.code ({ cls := "EditGuess", name := "wipe", desc := "()I" } : Jvm.MethodName) prog_1_method_3_code (2 : Nat) (Option.some Jvm.ClassFile.FieldType.int)) : Cond) ∈ zG := zgm (List.mem_append_right _ (List.mem_append_left _ (List.mem_of_getElem? (l := tables_1_1) (i := 234) rfl))) rfl
theorem wd_235 : ((Jvm.Cond.methodLink "EditGuess" (65 : Nat) ({ cls := "EditGuess$Signs", name := "clear", desc := "()V" } : Jvm.MethodName)) : Cond) ∈ zG := zgm (List.mem_append_right _ (List.mem_append_left _ (List.mem_of_getElem? (l := tables_1_1) (i := 235) rfl))) rfl
theorem wd_236 : ((Jvm.Cond.instanceMethod ({ cls := "EditGuess$Signs", name := "clear", desc := "()V" } : Jvm.MethodName)) : Cond) ∈ zG := zgm (List.mem_append_right _ (List.mem_append_left _ (List.mem_of_getElem? (l := tables_1_1) (i := 236) rfl))) rfl
theorem wd_237 : ((Jvm.Cond.selects "EditGuess$Signs" ({ cls := "EditGuess$Signs", name := "clear", desc := "()V" } : Jvm.MethodName) ({ cls := "EditGuess$Signs", name := "clear", desc := "()V" } : Jvm.MethodName)) : Cond) ∈ zG := zgm (List.mem_append_right _ (List.mem_append_left _ (List.mem_of_getElem? (l := tables_1_1) (i := 237) rfl))) rfl
theorem wd_238 : ((Jvm.Cond.code ({ cls := "EditGuess$Signs", name := "clear", desc := "()V" } : Jvm.MethodName) prog_9_method_3_code (1 : Nat) (Option.none : Option Jvm.ClassFile.FieldType)) : Cond) ∈ zG := zgm (List.mem_append_right _ (List.mem_append_left _ (List.mem_of_getElem? (l := tables_1_1) (i := 238) rfl))) rfl
theorem wd_239 : ((Jvm.Cond.methodLink "EditGuessLaw" (23 : Nat) ({ cls := "EditGuess", name := "fault", desc := "(I)I" } : Jvm.MethodName)) : Cond) ∈ zG := zgm (List.mem_append_right _ (List.mem_append_left _ (List.mem_of_getElem? (l := tables_1_1) (i := 239) rfl))) rfl
theorem wd_240 : ((Jvm.Cond.instanceMethod ({ cls := "EditGuess", name := "fault", desc := "(I)I" } : Jvm.MethodName)) : Cond) ∈ zG := zgm (List.mem_append_right _ (List.mem_append_right _ (List.mem_append_left _ (List.mem_of_getElem? (l := tables_1_2) (i := 0) rfl)))) rfl
theorem wd_241 : ((Jvm.Cond.selects "EditGuess" ({ cls := "EditGuess", name := "fault", desc := "(I)I" } : Jvm.MethodName) ({ cls := "EditGuess", name := "fault", desc := "(I)I" } : Jvm.MethodName)) : Cond) ∈ zG := zgm (List.mem_append_right _ (List.mem_append_right _ (List.mem_append_left _ (List.mem_of_getElem? (l := tables_1_2) (i := 1) rfl)))) rfl
theorem wd_242 : ((Jvm.Cond.code ({ cls := "EditGuess", name := "fault", desc := "(I)I" } : Jvm.MethodName) prog_1_method_4_code (2 : Nat) (Option.some Jvm.ClassFile.FieldType.int)) : Cond) ∈ zG := zgm (List.mem_append_right _ (List.mem_append_right _ (List.mem_append_left _ (List.mem_of_getElem? (l := tables_1_2) (i := 2) rfl)))) rfl
theorem wd_243 : ((Jvm.Cond.methodLink "EditGuess" (68 : Nat) ({ cls := "EditGuess", name := "exampleFault", desc := "()I" } : Jvm.MethodName)) : Cond) ∈ zG := zgm (List.mem_append_right _ (List.mem_append_right _ (List.mem_append_left _ (List.mem_of_getElem? (l := tables_1_2) (i := 3) rfl)))) rfl
theorem wd_245 : ((Jvm.Cond.instanceMethod ({ cls := "EditGuess", name := "exampleFault", desc := "()I" } : Jvm.MethodName)) : Cond) ∈ zG := zgm (List.mem_append_right _ (List.mem_append_right _ (List.mem_append_left _ (List.mem_of_getElem? (l := tables_1_2) (i := 5) rfl)))) rfl
theorem wd_246 : ((Jvm.Cond.code ({ cls := "EditGuess", name := "exampleFault", desc := "()I" } : Jvm.MethodName) prog_1_method_21_code (3 : Nat) (Option.some Jvm.ClassFile.FieldType.int)) : Cond) ∈ zG := zgm (List.mem_append_right _ (List.mem_append_right _ (List.mem_append_left _ (List.mem_of_getElem? (l := tables_1_2) (i := 6) rfl)))) rfl
theorem wd_247 : ((Jvm.Cond.methodLink "EditGuess" (77 : Nat) ({ cls := "EditGuess$Signs", name := "signsEnd", desc := "(II)I" } : Jvm.MethodName)) : Cond) ∈ zG := zgm (List.mem_append_right _ (List.mem_append_right _ (List.mem_append_left _ (List.mem_of_getElem? (l := tables_1_2) (i := 7) rfl)))) rfl
theorem wd_248 : ((Jvm.Cond.instanceMethod ({ cls := "EditGuess$Signs", name := "signsEnd", desc := "(II)I" } : Jvm.MethodName)) : Cond) ∈ zG := zgm (List.mem_append_right _ (List.mem_append_right _ (List.mem_append_left _ (List.mem_of_getElem? (l := tables_1_2) (i := 8) rfl)))) rfl
theorem wd_249 : ((Jvm.Cond.selects "EditGuess$Signs" ({ cls := "EditGuess$Signs", name := "signsEnd", desc := "(II)I" } : Jvm.MethodName) ({ cls := "EditGuess$Signs", name := "signsEnd", desc := "(II)I" } : Jvm.MethodName)) : Cond) ∈ zG := zgm (List.mem_append_right _ (List.mem_append_right _ (List.mem_append_left _ (List.mem_of_getElem? (l := tables_1_2) (i := 9) rfl)))) rfl
theorem wd_250 : ((Jvm.Cond.code ({ cls := "EditGuess$Signs", name := "signsEnd", desc := "(II)I" } : Jvm.MethodName) prog_9_method_10_code (4 : Nat) (Option.some Jvm.ClassFile.FieldType.int)) : Cond) ∈ zG := zgm (List.mem_append_right _ (List.mem_append_right _ (List.mem_append_left _ (List.mem_of_getElem? (l := tables_1_2) (i := 10) rfl)))) rfl
theorem wd_251 : ((Jvm.Cond.methodLink "EditGuess$Signs" (46 : Nat) ({ cls := "EditGuess$Signs", name := "kindAt", desc := "(I)I" } : Jvm.MethodName)) : Cond) ∈ zG := zgm (List.mem_append_right _ (List.mem_append_right _ (List.mem_append_left _ (List.mem_of_getElem? (l := tables_1_2) (i := 11) rfl)))) rfl
theorem wd_252 : ((Jvm.Cond.instanceMethod ({ cls := "EditGuess$Signs", name := "kindAt", desc := "(I)I" } : Jvm.MethodName)) : Cond) ∈ zG := zgm (List.mem_append_right _ (List.mem_append_right _ (List.mem_append_left _ (List.mem_of_getElem? (l := tables_1_2) (i := 12) rfl)))) rfl
theorem wd_253 : ((Jvm.Cond.selects "EditGuess$Signs" ({ cls := "EditGuess$Signs", name := "kindAt", desc := "(I)I" } : Jvm.MethodName) ({ cls := "EditGuess$Signs", name := "kindAt", desc := "(I)I" } : Jvm.MethodName)) : Cond) ∈ zG := zgm (List.mem_append_right _ (List.mem_append_right _ (List.mem_append_left _ (List.mem_of_getElem? (l := tables_1_2) (i := 13) rfl)))) rfl
theorem wd_254 : ((Jvm.Cond.code ({ cls := "EditGuess$Signs", name := "kindAt", desc := "(I)I" } : Jvm.MethodName) prog_9_method_7_code (2 : Nat) (Option.some Jvm.ClassFile.FieldType.int)) : Cond) ∈ zG := zgm (List.mem_append_right _ (List.mem_append_right _ (List.mem_append_left _ (List.mem_of_getElem? (l := tables_1_2) (i := 14) rfl)))) rfl
theorem wd_255 : ((Jvm.Cond.methodLink "EditGuess" (141 : Nat) ({ cls := "EditGuess$Signs", name := "at", desc := "(I)I" } : Jvm.MethodName)) : Cond) ∈ zG := zgm (List.mem_append_right _ (List.mem_append_right _ (List.mem_append_left _ (List.mem_of_getElem? (l := tables_1_2) (i := 15) rfl)))) rfl
theorem wd_256 : ((Jvm.Cond.instanceMethod ({ cls := "EditGuess$Signs", name := "at", desc := "(I)I" } : Jvm.MethodName)) : Cond) ∈ zG := zgm (List.mem_append_right _ (List.mem_append_right _ (List.mem_append_left _ (List.mem_of_getElem? (l := tables_1_2) (i := 16) rfl)))) rfl
theorem wd_257 : ((Jvm.Cond.selects "EditGuess$Signs" ({ cls := "EditGuess$Signs", name := "at", desc := "(I)I" } : Jvm.MethodName) ({ cls := "EditGuess$Signs", name := "at", desc := "(I)I" } : Jvm.MethodName)) : Cond) ∈ zG := zgm (List.mem_append_right _ (List.mem_append_right _ (List.mem_append_left _ (List.mem_of_getElem? (l := tables_1_2) (i := 17) rfl)))) rfl
theorem wd_258 : ((Jvm.Cond.code ({ cls := "EditGuess$Signs", name := "at", desc := "(I)I" } : Jvm.MethodName) prog_9_method_6_code (2 : Nat) (Option.some Jvm.ClassFile.FieldType.int)) : Cond) ∈ zG := zgm (List.mem_append_right _ (List.mem_append_right _ (List.mem_append_left _ (List.mem_of_getElem? (l := tables_1_2) (i := 18) rfl)))) rfl
theorem wd_259 : ((Jvm.Cond.methodLink "EditGuess" (71 : Nat) ({ cls := "EditGuess", name := "lineFault", desc := "()I" } : Jvm.MethodName)) : Cond) ∈ zG := zgm (List.mem_append_right _ (List.mem_append_right _ (List.mem_append_left _ (List.mem_of_getElem? (l := tables_1_2) (i := 19) rfl)))) rfl
theorem wd_261 : ((Jvm.Cond.instanceMethod ({ cls := "EditGuess", name := "lineFault", desc := "()I" } : Jvm.MethodName)) : Cond) ∈ zG := zgm (List.mem_append_right _ (List.mem_append_right _ (List.mem_append_left _ (List.mem_of_getElem? (l := tables_1_2) (i := 21) rfl)))) rfl
theorem wd_262 : ((Jvm.Cond.code ({ cls := "EditGuess", name := "lineFault", desc := "()I" } : Jvm.MethodName) prog_1_method_20_code (2 : Nat) (Option.some Jvm.ClassFile.FieldType.int)) : Cond) ∈ zG := zgm (List.mem_append_right _ (List.mem_append_right _ (List.mem_append_left _ (List.mem_of_getElem? (l := tables_1_2) (i := 22) rfl)))) rfl
theorem wd_263 : ((Jvm.Cond.methodLink "EditGuessLaw" (27 : Nat) ({ cls := "EditGuess", name := "example", desc := "()I" } : Jvm.MethodName)) : Cond) ∈ zG := zgm (List.mem_append_right _ (List.mem_append_right _ (List.mem_append_left _ (List.mem_of_getElem? (l := tables_1_2) (i := 23) rfl)))) rfl
theorem wd_264 : ((Jvm.Cond.instanceMethod ({ cls := "EditGuess", name := "example", desc := "()I" } : Jvm.MethodName)) : Cond) ∈ zG := zgm (List.mem_append_right _ (List.mem_append_right _ (List.mem_append_left _ (List.mem_of_getElem? (l := tables_1_2) (i := 24) rfl)))) rfl
theorem wd_265 : ((Jvm.Cond.selects "EditGuess" ({ cls := "EditGuess", name := "example", desc := "()I" } : Jvm.MethodName) ({ cls := "EditGuess", name := "example", desc := "()I" } : Jvm.MethodName)) : Cond) ∈ zG := zgm (List.mem_append_right _ (List.mem_append_right _ (List.mem_append_left _ (List.mem_of_getElem? (l := tables_1_2) (i := 25) rfl)))) rfl
theorem wd_266 : ((Jvm.Cond.code ({ cls := "EditGuess", name := "example", desc := "()I" } : Jvm.MethodName) prog_1_method_5_code (2 : Nat) (Option.some Jvm.ClassFile.FieldType.int)) : Cond) ∈ zG := zgm (List.mem_append_right _ (List.mem_append_right _ (List.mem_append_left _ (List.mem_of_getElem? (l := tables_1_2) (i := 26) rfl)))) rfl
theorem wd_267 : ((Jvm.Cond.methodLink "EditGuess" (74 : Nat) ({ cls := "EditGuess$Book", name := "examples", desc := "()I" } : Jvm.MethodName)) : Cond) ∈ zG := zgm (List.mem_append_right _ (List.mem_append_right _ (List.mem_append_left _ (List.mem_of_getElem? (l := tables_1_2) (i := 27) rfl)))) rfl
theorem wd_268 : ((Jvm.Cond.instanceMethod ({ cls := "EditGuess$Book", name := "examples", desc := "()I" } : Jvm.MethodName)) : Cond) ∈ zG := zgm (List.mem_append_right _ (List.mem_append_right _ (List.mem_append_left _ (List.mem_of_getElem? (l := tables_1_2) (i := 28) rfl)))) rfl
theorem wd_269 : ((Jvm.Cond.selects "EditGuess$Book" ({ cls := "EditGuess$Book", name := "examples", desc := "()I" } : Jvm.MethodName) ({ cls := "EditGuess$Book", name := "examples", desc := "()I" } : Jvm.MethodName)) : Cond) ∈ zG := zgm (List.mem_append_right _ (List.mem_append_right _ (List.mem_append_left _ (List.mem_of_getElem? (l := tables_1_2) (i := 29) rfl)))) rfl
theorem wd_270 : ((Jvm.Cond.code ({ cls := "EditGuess$Book", name := "examples", desc := "()I" } : Jvm.MethodName) prog_2_method_2_code (1 : Nat) (Option.some Jvm.ClassFile.FieldType.int)) : Cond) ∈ zG := zgm (List.mem_append_right _ (List.mem_append_right _ (List.mem_append_left _ (List.mem_of_getElem? (l := tables_1_2) (i := 30) rfl)))) rfl
theorem wd_271 : ((Jvm.Cond.methodLink "EditGuess" (81 : Nat) ({ cls := "EditGuess$Book", name := "addExample", desc := "(LEditGuess$Signs;ILEditGuess$Signs;I)V" } : Jvm.MethodName)) : Cond) ∈ zG := zgm (List.mem_append_right _ (List.mem_append_right _ (List.mem_append_left _ (List.mem_of_getElem? (l := tables_1_2) (i := 31) rfl)))) rfl
theorem wd_272 : ((Jvm.Cond.instanceMethod ({ cls := "EditGuess$Book", name := "addExample", desc := "(LEditGuess$Signs;ILEditGuess$Signs;I)V" } : Jvm.MethodName)) : Cond) ∈ zG := zgm (List.mem_append_right _ (List.mem_append_right _ (List.mem_append_left _ (List.mem_of_getElem? (l := tables_1_2) (i := 32) rfl)))) rfl
theorem wd_273 : ((Jvm.Cond.selects "EditGuess$Book" ({ cls := "EditGuess$Book", name := "addExample", desc := "(LEditGuess$Signs;ILEditGuess$Signs;I)V" } : Jvm.MethodName) ({ cls := "EditGuess$Book", name := "addExample", desc := "(LEditGuess$Signs;ILEditGuess$Signs;I)V" } : Jvm.MethodName)) : Cond) ∈ zG := zgm (List.mem_append_right _ (List.mem_append_right _ (List.mem_append_left _ (List.mem_of_getElem? (l := tables_1_2) (i := 33) rfl)))) rfl
theorem wd_274 : ((Jvm.Cond.code ({ cls := "EditGuess$Book", name := "addExample", desc := "(LEditGuess$Signs;ILEditGuess$Signs;I)V" } : Jvm.MethodName) prog_2_method_8_code (5 : Nat) (Option.none : Option Jvm.ClassFile.FieldType)) : Cond) ∈ zG := zgm (List.mem_append_right _ (List.mem_append_right _ (List.mem_append_left _ (List.mem_of_getElem? (l := tables_1_2) (i := 34) rfl)))) rfl
theorem wd_275 : ((Jvm.Cond.methodLink "EditGuess$Book" (33 : Nat) ({ cls := "EditGuess$Signs", name := "clear", desc := "()V" } : Jvm.MethodName)) : Cond) ∈ zG := zgm (List.mem_append_right _ (List.mem_append_right _ (List.mem_append_left _ (List.mem_of_getElem? (l := tables_1_2) (i := 35) rfl)))) rfl
theorem wd_276 : ((Jvm.Cond.methodLink "EditGuess$Book" (36 : Nat) ({ cls := "EditGuess$Signs", name := "addFrom", desc := "(LEditGuess$Signs;II)V" } : Jvm.MethodName)) : Cond) ∈ zG := zgm (List.mem_append_right _ (List.mem_append_right _ (List.mem_append_left _ (List.mem_of_getElem? (l := tables_1_2) (i := 36) rfl)))) rfl
theorem wd_277 : ((Jvm.Cond.instanceMethod ({ cls := "EditGuess$Signs", name := "addFrom", desc := "(LEditGuess$Signs;II)V" } : Jvm.MethodName)) : Cond) ∈ zG := zgm (List.mem_append_right _ (List.mem_append_right _ (List.mem_append_left _ (List.mem_of_getElem? (l := tables_1_2) (i := 37) rfl)))) rfl
theorem wd_278 : ((Jvm.Cond.selects "EditGuess$Signs" ({ cls := "EditGuess$Signs", name := "addFrom", desc := "(LEditGuess$Signs;II)V" } : Jvm.MethodName) ({ cls := "EditGuess$Signs", name := "addFrom", desc := "(LEditGuess$Signs;II)V" } : Jvm.MethodName)) : Cond) ∈ zG := zgm (List.mem_append_right _ (List.mem_append_right _ (List.mem_append_left _ (List.mem_of_getElem? (l := tables_1_2) (i := 38) rfl)))) rfl
theorem wd_279 : ((Jvm.Cond.code ({ cls := "EditGuess$Signs", name := "addFrom", desc := "(LEditGuess$Signs;II)V" } : Jvm.MethodName) prog_9_method_8_code (5 : Nat) (Option.none : Option Jvm.ClassFile.FieldType)) : Cond) ∈ zG := zgm (List.mem_append_right _ (List.mem_append_right _ (List.mem_append_left _ (List.mem_of_getElem? (l := tables_1_2) (i := 39) rfl)))) rfl
theorem wd_280 : ((Jvm.Cond.methodLink "EditGuess$Signs" (32 : Nat) ({ cls := "EditGuess$Signs", name := "at", desc := "(I)I" } : Jvm.MethodName)) : Cond) ∈ zG := zgm (List.mem_append_right _ (List.mem_append_right _ (List.mem_append_left _ (List.mem_of_getElem? (l := tables_1_2) (i := 40) rfl)))) rfl
theorem wd_281 : ((Jvm.Cond.methodLink "EditGuess$Signs" (35 : Nat) ({ cls := "EditGuess$Signs", name := "add", desc := "(I)Z" } : Jvm.MethodName)) : Cond) ∈ zG := zgm (List.mem_append_right _ (List.mem_append_right _ (List.mem_append_left _ (List.mem_of_getElem? (l := tables_1_2) (i := 41) rfl)))) rfl
theorem wd_282 : ((Jvm.Cond.methodLink "EditGuess$Book" (40 : Nat) ({ cls := "EditGuess$Signs", name := "many", desc := "()I" } : Jvm.MethodName)) : Cond) ∈ zG := zgm (List.mem_append_right _ (List.mem_append_right _ (List.mem_append_left _ (List.mem_of_getElem? (l := tables_1_2) (i := 42) rfl)))) rfl
theorem wd_283 : ((Jvm.Cond.methodLink "EditGuess" (85 : Nat) ({ cls := "EditGuess", name := "examplesChanged", desc := "()V" } : Jvm.MethodName)) : Cond) ∈ zG := zgm (List.mem_append_right _ (List.mem_append_right _ (List.mem_append_left _ (List.mem_of_getElem? (l := tables_1_2) (i := 43) rfl)))) rfl
theorem wd_285 : ((Jvm.Cond.instanceMethod ({ cls := "EditGuess", name := "examplesChanged", desc := "()V" } : Jvm.MethodName)) : Cond) ∈ zG := zgm (List.mem_append_right _ (List.mem_append_right _ (List.mem_append_left _ (List.mem_of_getElem? (l := tables_1_2) (i := 45) rfl)))) rfl
theorem wd_286 : ((Jvm.Cond.code ({ cls := "EditGuess", name := "examplesChanged", desc := "()V" } : Jvm.MethodName) prog_1_method_22_code (1 : Nat) (Option.none : Option Jvm.ClassFile.FieldType)) : Cond) ∈ zG := zgm (List.mem_append_right _ (List.mem_append_right _ (List.mem_append_left _ (List.mem_of_getElem? (l := tables_1_2) (i := 46) rfl)))) rfl
theorem wd_287 : ((Jvm.Cond.methodLink "EditGuessLaw" (31 : Nat) ({ cls := "EditGuess", name := "forget", desc := "()I" } : Jvm.MethodName)) : Cond) ∈ zG := zgm (List.mem_append_right _ (List.mem_append_right _ (List.mem_append_left _ (List.mem_of_getElem? (l := tables_1_2) (i := 47) rfl)))) rfl
theorem wd_288 : ((Jvm.Cond.instanceMethod ({ cls := "EditGuess", name := "forget", desc := "()I" } : Jvm.MethodName)) : Cond) ∈ zG := zgm (List.mem_append_right _ (List.mem_append_right _ (List.mem_append_left _ (List.mem_of_getElem? (l := tables_1_2) (i := 48) rfl)))) rfl
theorem wd_289 : ((Jvm.Cond.selects "EditGuess" ({ cls := "EditGuess", name := "forget", desc := "()I" } : Jvm.MethodName) ({ cls := "EditGuess", name := "forget", desc := "()I" } : Jvm.MethodName)) : Cond) ∈ zG := zgm (List.mem_append_right _ (List.mem_append_right _ (List.mem_append_left _ (List.mem_of_getElem? (l := tables_1_2) (i := 49) rfl)))) rfl
theorem wd_290 : ((Jvm.Cond.code ({ cls := "EditGuess", name := "forget", desc := "()I" } : Jvm.MethodName) prog_1_method_6_code (1 : Nat) (Option.some Jvm.ClassFile.FieldType.int)) : Cond) ∈ zG := zgm (List.mem_append_right _ (List.mem_append_right _ (List.mem_append_left _ (List.mem_of_getElem? (l := tables_1_2) (i := 50) rfl)))) rfl
theorem wd_291 : ((Jvm.Cond.methodLink "EditGuess" (88 : Nat) ({ cls := "EditGuess$Book", name := "dropExample", desc := "()V" } : Jvm.MethodName)) : Cond) ∈ zG := zgm (List.mem_append_right _ (List.mem_append_right _ (List.mem_append_left _ (List.mem_of_getElem? (l := tables_1_2) (i := 51) rfl)))) rfl
theorem wd_292 : ((Jvm.Cond.instanceMethod ({ cls := "EditGuess$Book", name := "dropExample", desc := "()V" } : Jvm.MethodName)) : Cond) ∈ zG := zgm (List.mem_append_right _ (List.mem_append_right _ (List.mem_append_left _ (List.mem_of_getElem? (l := tables_1_2) (i := 52) rfl)))) rfl
theorem wd_293 : ((Jvm.Cond.selects "EditGuess$Book" ({ cls := "EditGuess$Book", name := "dropExample", desc := "()V" } : Jvm.MethodName) ({ cls := "EditGuess$Book", name := "dropExample", desc := "()V" } : Jvm.MethodName)) : Cond) ∈ zG := zgm (List.mem_append_right _ (List.mem_append_right _ (List.mem_append_left _ (List.mem_of_getElem? (l := tables_1_2) (i := 53) rfl)))) rfl
theorem wd_294 : ((Jvm.Cond.code ({ cls := "EditGuess$Book", name := "dropExample", desc := "()V" } : Jvm.MethodName) prog_2_method_9_code (1 : Nat) (Option.none : Option Jvm.ClassFile.FieldType)) : Cond) ∈ zG := zgm (List.mem_append_right _ (List.mem_append_right _ (List.mem_append_left _ (List.mem_of_getElem? (l := tables_1_2) (i := 54) rfl)))) rfl
theorem wd_295 : ((Jvm.Cond.methodLink "EditGuessLaw" (35 : Nat) ({ cls := "EditGuess", name := "pool", desc := "()I" } : Jvm.MethodName)) : Cond) ∈ zG := zgm (List.mem_append_right _ (List.mem_append_right _ (List.mem_append_left _ (List.mem_of_getElem? (l := tables_1_2) (i := 55) rfl)))) rfl
theorem wd_296 : ((Jvm.Cond.instanceMethod ({ cls := "EditGuess", name := "pool", desc := "()I" } : Jvm.MethodName)) : Cond) ∈ zG := zgm (List.mem_append_right _ (List.mem_append_right _ (List.mem_append_left _ (List.mem_of_getElem? (l := tables_1_2) (i := 56) rfl)))) rfl
theorem wd_297 : ((Jvm.Cond.selects "EditGuess" ({ cls := "EditGuess", name := "pool", desc := "()I" } : Jvm.MethodName) ({ cls := "EditGuess", name := "pool", desc := "()I" } : Jvm.MethodName)) : Cond) ∈ zG := zgm (List.mem_append_right _ (List.mem_append_right _ (List.mem_append_left _ (List.mem_of_getElem? (l := tables_1_2) (i := 57) rfl)))) rfl
theorem wd_298 : ((Jvm.Cond.code ({ cls := "EditGuess", name := "pool", desc := "()I" } : Jvm.MethodName) prog_1_method_7_code (1 : Nat) (Option.some Jvm.ClassFile.FieldType.int)) : Cond) ∈ zG := zgm (List.mem_append_right _ (List.mem_append_right _ (List.mem_append_left _ (List.mem_of_getElem? (l := tables_1_2) (i := 58) rfl)))) rfl
theorem wd_299 : ((Jvm.Cond.methodLink "EditGuess" (91 : Nat) ({ cls := "EditGuess$Book", name := "pooled", desc := "()I" } : Jvm.MethodName)) : Cond) ∈ zG := zgm (List.mem_append_right _ (List.mem_append_right _ (List.mem_append_left _ (List.mem_of_getElem? (l := tables_1_2) (i := 59) rfl)))) rfl
theorem wd_300 : ((Jvm.Cond.instanceMethod ({ cls := "EditGuess$Book", name := "pooled", desc := "()I" } : Jvm.MethodName)) : Cond) ∈ zG := zgm (List.mem_append_right _ (List.mem_append_right _ (List.mem_append_left _ (List.mem_of_getElem? (l := tables_1_2) (i := 60) rfl)))) rfl
theorem wd_301 : ((Jvm.Cond.selects "EditGuess$Book" ({ cls := "EditGuess$Book", name := "pooled", desc := "()I" } : Jvm.MethodName) ({ cls := "EditGuess$Book", name := "pooled", desc := "()I" } : Jvm.MethodName)) : Cond) ∈ zG := zgm (List.mem_append_right _ (List.mem_append_right _ (List.mem_append_left _ (List.mem_of_getElem? (l := tables_1_2) (i := 61) rfl)))) rfl
theorem wd_302 : ((Jvm.Cond.code ({ cls := "EditGuess$Book", name := "pooled", desc := "()I" } : Jvm.MethodName) prog_2_method_3_code (1 : Nat) (Option.some Jvm.ClassFile.FieldType.int)) : Cond) ∈ zG := zgm (List.mem_append_right _ (List.mem_append_right _ (List.mem_append_left _ (List.mem_of_getElem? (l := tables_1_2) (i := 62) rfl)))) rfl
theorem wd_303 : ((Jvm.Cond.methodLink "EditGuess" (94 : Nat) ({ cls := "EditGuess$Book", name := "addLine", desc := "(LEditGuess$Signs;)V" } : Jvm.MethodName)) : Cond) ∈ zG := zgm (List.mem_append_right _ (List.mem_append_right _ (List.mem_append_left _ (List.mem_of_getElem? (l := tables_1_2) (i := 63) rfl)))) rfl
theorem wd_304 : ((Jvm.Cond.instanceMethod ({ cls := "EditGuess$Book", name := "addLine", desc := "(LEditGuess$Signs;)V" } : Jvm.MethodName)) : Cond) ∈ zG := zgm (List.mem_append_right _ (List.mem_append_right _ (List.mem_append_left _ (List.mem_of_getElem? (l := tables_1_2) (i := 64) rfl)))) rfl
theorem wd_305 : ((Jvm.Cond.selects "EditGuess$Book" ({ cls := "EditGuess$Book", name := "addLine", desc := "(LEditGuess$Signs;)V" } : Jvm.MethodName) ({ cls := "EditGuess$Book", name := "addLine", desc := "(LEditGuess$Signs;)V" } : Jvm.MethodName)) : Cond) ∈ zG := zgm (List.mem_append_right _ (List.mem_append_right _ (List.mem_append_left _ (List.mem_of_getElem? (l := tables_1_2) (i := 65) rfl)))) rfl
theorem wd_306 : ((Jvm.Cond.code ({ cls := "EditGuess$Book", name := "addLine", desc := "(LEditGuess$Signs;)V" } : Jvm.MethodName) prog_2_method_10_code (2 : Nat) (Option.none : Option Jvm.ClassFile.FieldType)) : Cond) ∈ zG := zgm (List.mem_append_right _ (List.mem_append_right _ (List.mem_append_left _ (List.mem_of_getElem? (l := tables_1_2) (i := 66) rfl)))) rfl
theorem wd_307 : ((Jvm.Cond.methodLink "EditGuess$Book" (44 : Nat) ({ cls := "EditGuess$Signs", name := "copy", desc := "(LEditGuess$Signs;)V" } : Jvm.MethodName)) : Cond) ∈ zG := zgm (List.mem_append_right _ (List.mem_append_right _ (List.mem_append_left _ (List.mem_of_getElem? (l := tables_1_2) (i := 67) rfl)))) rfl
theorem wd_308 : ((Jvm.Cond.instanceMethod ({ cls := "EditGuess$Signs", name := "copy", desc := "(LEditGuess$Signs;)V" } : Jvm.MethodName)) : Cond) ∈ zG := zgm (List.mem_append_right _ (List.mem_append_right _ (List.mem_append_left _ (List.mem_of_getElem? (l := tables_1_2) (i := 68) rfl)))) rfl
theorem wd_309 : ((Jvm.Cond.selects "EditGuess$Signs" ({ cls := "EditGuess$Signs", name := "copy", desc := "(LEditGuess$Signs;)V" } : Jvm.MethodName) ({ cls := "EditGuess$Signs", name := "copy", desc := "(LEditGuess$Signs;)V" } : Jvm.MethodName)) : Cond) ∈ zG := zgm (List.mem_append_right _ (List.mem_append_right _ (List.mem_append_left _ (List.mem_of_getElem? (l := tables_1_2) (i := 69) rfl)))) rfl
theorem wd_310 : ((Jvm.Cond.code ({ cls := "EditGuess$Signs", name := "copy", desc := "(LEditGuess$Signs;)V" } : Jvm.MethodName) prog_9_method_9_code (2 : Nat) (Option.none : Option Jvm.ClassFile.FieldType)) : Cond) ∈ zG := zgm (List.mem_append_right _ (List.mem_append_right _ (List.mem_append_left _ (List.mem_of_getElem? (l := tables_1_2) (i := 70) rfl)))) rfl
theorem wd_311 : ((Jvm.Cond.methodLink "EditGuess$Signs" (39 : Nat) ({ cls := "EditGuess$Signs", name := "clear", desc := "()V" } : Jvm.MethodName)) : Cond) ∈ zG := zgm (List.mem_append_right _ (List.mem_append_right _ (List.mem_append_left _ (List.mem_of_getElem? (l := tables_1_2) (i := 71) rfl)))) rfl
theorem wd_312 : ((Jvm.Cond.methodLink "EditGuess$Signs" (42 : Nat) ({ cls := "EditGuess$Signs", name := "addFrom", desc := "(LEditGuess$Signs;II)V" } : Jvm.MethodName)) : Cond) ∈ zG := zgm (List.mem_append_right _ (List.mem_append_right _ (List.mem_append_left _ (List.mem_of_getElem? (l := tables_1_2) (i := 72) rfl)))) rfl
theorem wd_313 : ((Jvm.Cond.methodLink "EditGuessLaw" (39 : Nat) ({ cls := "EditGuess", name := "drain", desc := "(I)I" } : Jvm.MethodName)) : Cond) ∈ zG := zgm (List.mem_append_right _ (List.mem_append_right _ (List.mem_append_left _ (List.mem_of_getElem? (l := tables_1_2) (i := 73) rfl)))) rfl
theorem wd_314 : ((Jvm.Cond.instanceMethod ({ cls := "EditGuess", name := "drain", desc := "(I)I" } : Jvm.MethodName)) : Cond) ∈ zG := zgm (List.mem_append_right _ (List.mem_append_right _ (List.mem_append_left _ (List.mem_of_getElem? (l := tables_1_2) (i := 74) rfl)))) rfl
theorem wd_315 : ((Jvm.Cond.selects "EditGuess" ({ cls := "EditGuess", name := "drain", desc := "(I)I" } : Jvm.MethodName) ({ cls := "EditGuess", name := "drain", desc := "(I)I" } : Jvm.MethodName)) : Cond) ∈ zG := zgm (List.mem_append_right _ (List.mem_append_right _ (List.mem_append_left _ (List.mem_of_getElem? (l := tables_1_2) (i := 75) rfl)))) rfl
theorem wd_316 : ((Jvm.Cond.code ({ cls := "EditGuess", name := "drain", desc := "(I)I" } : Jvm.MethodName) prog_1_method_8_code (2 : Nat) (Option.some Jvm.ClassFile.FieldType.int)) : Cond) ∈ zG := zgm (List.mem_append_right _ (List.mem_append_right _ (List.mem_append_left _ (List.mem_of_getElem? (l := tables_1_2) (i := 76) rfl)))) rfl
theorem wd_317 : ((Jvm.Cond.methodLink "EditGuess" (98 : Nat) ({ cls := "EditGuess$Book", name := "knows", desc := "(I)Z" } : Jvm.MethodName)) : Cond) ∈ zG := zgm (List.mem_append_right _ (List.mem_append_right _ (List.mem_append_left _ (List.mem_of_getElem? (l := tables_1_2) (i := 77) rfl)))) rfl
theorem wd_318 : ((Jvm.Cond.instanceMethod ({ cls := "EditGuess$Book", name := "knows", desc := "(I)Z" } : Jvm.MethodName)) : Cond) ∈ zG := zgm (List.mem_append_right _ (List.mem_append_right _ (List.mem_append_left _ (List.mem_of_getElem? (l := tables_1_2) (i := 78) rfl)))) rfl
theorem wd_319 : ((Jvm.Cond.selects "EditGuess$Book" ({ cls := "EditGuess$Book", name := "knows", desc := "(I)Z" } : Jvm.MethodName) ({ cls := "EditGuess$Book", name := "knows", desc := "(I)Z" } : Jvm.MethodName)) : Cond) ∈ zG := zgm (List.mem_append_right _ (List.mem_append_right _ (List.mem_append_left _ (List.mem_of_getElem? (l := tables_1_2) (i := 79) rfl)))) rfl
theorem wd_320 : ((Jvm.Cond.code ({ cls := "EditGuess$Book", name := "knows", desc := "(I)Z" } : Jvm.MethodName) prog_2_method_4_code (2 : Nat) (Option.some Jvm.ClassFile.FieldType.boolean)) : Cond) ∈ zG := zgm (List.mem_append_right _ (List.mem_append_right _ (List.mem_append_left _ (List.mem_of_getElem? (l := tables_1_2) (i := 80) rfl)))) rfl
theorem wd_321 : ((Jvm.Cond.methodLink "EditGuess" (101 : Nat) ({ cls := "EditGuess$Book", name := "dropLine", desc := "(I)V" } : Jvm.MethodName)) : Cond) ∈ zG := zgm (List.mem_append_right _ (List.mem_append_right _ (List.mem_append_left _ (List.mem_of_getElem? (l := tables_1_2) (i := 81) rfl)))) rfl
theorem wd_322 : ((Jvm.Cond.instanceMethod ({ cls := "EditGuess$Book", name := "dropLine", desc := "(I)V" } : Jvm.MethodName)) : Cond) ∈ zG := zgm (List.mem_append_right _ (List.mem_append_right _ (List.mem_append_left _ (List.mem_of_getElem? (l := tables_1_2) (i := 82) rfl)))) rfl
theorem wd_323 : ((Jvm.Cond.selects "EditGuess$Book" ({ cls := "EditGuess$Book", name := "dropLine", desc := "(I)V" } : Jvm.MethodName) ({ cls := "EditGuess$Book", name := "dropLine", desc := "(I)V" } : Jvm.MethodName)) : Cond) ∈ zG := zgm (List.mem_append_right _ (List.mem_append_right _ (List.mem_append_left _ (List.mem_of_getElem? (l := tables_1_2) (i := 83) rfl)))) rfl
theorem wd_324 : ((Jvm.Cond.code ({ cls := "EditGuess$Book", name := "dropLine", desc := "(I)V" } : Jvm.MethodName) prog_2_method_11_code (3 : Nat) (Option.none : Option Jvm.ClassFile.FieldType)) : Cond) ∈ zG := zgm (List.mem_append_right _ (List.mem_append_right _ (List.mem_append_left _ (List.mem_of_getElem? (l := tables_1_2) (i := 84) rfl)))) rfl
theorem wd_325 : ((Jvm.Cond.methodLink "EditGuess$Book" (48 : Nat) ({ cls := "EditGuess$Book", name := "knows", desc := "(I)Z" } : Jvm.MethodName)) : Cond) ∈ zG := zgm (List.mem_append_right _ (List.mem_append_right _ (List.mem_append_left _ (List.mem_of_getElem? (l := tables_1_2) (i := 85) rfl)))) rfl
theorem wd_326 : ((Jvm.Cond.methodLink "EditGuessLaw" (43 : Nat) ({ cls := "EditGuess", name := "plans", desc := "()J" } : Jvm.MethodName)) : Cond) ∈ zG := zgm (List.mem_append_right _ (List.mem_append_right _ (List.mem_append_left _ (List.mem_of_getElem? (l := tables_1_2) (i := 86) rfl)))) rfl
theorem wd_327 : ((Jvm.Cond.instanceMethod ({ cls := "EditGuess", name := "plans", desc := "()J" } : Jvm.MethodName)) : Cond) ∈ zG := zgm (List.mem_append_right _ (List.mem_append_right _ (List.mem_append_left _ (List.mem_of_getElem? (l := tables_1_2) (i := 87) rfl)))) rfl
theorem wd_328 : ((Jvm.Cond.selects "EditGuess" ({ cls := "EditGuess", name := "plans", desc := "()J" } : Jvm.MethodName) ({ cls := "EditGuess", name := "plans", desc := "()J" } : Jvm.MethodName)) : Cond) ∈ zG := zgm (List.mem_append_right _ (List.mem_append_right _ (List.mem_append_left _ (List.mem_of_getElem? (l := tables_1_2) (i := 88) rfl)))) rfl
theorem wd_329 : ((Jvm.Cond.code ({ cls := "EditGuess", name := "plans", desc := "()J" } : Jvm.MethodName) prog_1_method_9_code (1 : Nat) (Option.some Jvm.ClassFile.FieldType.long)) : Cond) ∈ zG := zgm (List.mem_append_right _ (List.mem_append_right _ (List.mem_append_left _ (List.mem_of_getElem? (l := tables_1_2) (i := 89) rfl)))) rfl
theorem wd_330 : ((Jvm.Cond.constantLong "EditGuess" (104 : Nat) (-3 : Int64)) : Cond) ∈ zG := zgm (List.mem_append_right _ (List.mem_append_right _ (List.mem_append_left _ (List.mem_of_getElem? (l := tables_1_2) (i := 90) rfl)))) rfl
theorem wd_331 : ((Jvm.Cond.methodLink "EditGuess" (106 : Nat) ({ cls := "EditGuess", name := "guess", desc := "()V" } : Jvm.MethodName)) : Cond) ∈ zG := zgm (List.mem_append_right _ (List.mem_append_right _ (List.mem_append_left _ (List.mem_of_getElem? (l := tables_1_2) (i := 91) rfl)))) rfl
theorem wd_333 : ((Jvm.Cond.instanceMethod ({ cls := "EditGuess", name := "guess", desc := "()V" } : Jvm.MethodName)) : Cond) ∈ zG := zgm (List.mem_append_right _ (List.mem_append_right _ (List.mem_append_left _ (List.mem_of_getElem? (l := tables_1_2) (i := 93) rfl)))) rfl
theorem wd_334 : ((Jvm.Cond.code ({ cls := "EditGuess", name := "guess", desc := "()V" } : Jvm.MethodName) prog_1_method_24_code (2 : Nat) (Option.none : Option Jvm.ClassFile.FieldType)) : Cond) ∈ zG := zgm (List.mem_append_right _ (List.mem_append_right _ (List.mem_append_left _ (List.mem_of_getElem? (l := tables_1_2) (i := 94) rfl)))) rfl
theorem wd_335 : ((Jvm.Cond.methodLink "EditGuess" (172 : Nat) ({ cls := "EditGuess$Fitting", name := "clear", desc := "()V" } : Jvm.MethodName)) : Cond) ∈ zG := zgm (List.mem_append_right _ (List.mem_append_right _ (List.mem_append_left _ (List.mem_of_getElem? (l := tables_1_2) (i := 95) rfl)))) rfl
theorem wd_336 : ((Jvm.Cond.instanceMethod ({ cls := "EditGuess$Fitting", name := "clear", desc := "()V" } : Jvm.MethodName)) : Cond) ∈ zG := zgm (List.mem_append_right _ (List.mem_append_right _ (List.mem_append_left _ (List.mem_of_getElem? (l := tables_1_2) (i := 96) rfl)))) rfl
theorem wd_337 : ((Jvm.Cond.selects "EditGuess$Fitting" ({ cls := "EditGuess$Fitting", name := "clear", desc := "()V" } : Jvm.MethodName) ({ cls := "EditGuess$Fitting", name := "clear", desc := "()V" } : Jvm.MethodName)) : Cond) ∈ zG := zgm (List.mem_append_right _ (List.mem_append_right _ (List.mem_append_left _ (List.mem_of_getElem? (l := tables_1_2) (i := 97) rfl)))) rfl
theorem wd_338 : ((Jvm.Cond.code ({ cls := "EditGuess$Fitting", name := "clear", desc := "()V" } : Jvm.MethodName) prog_3_method_2_code (1 : Nat) (Option.none : Option Jvm.ClassFile.FieldType)) : Cond) ∈ zG := zgm (List.mem_append_right _ (List.mem_append_right _ (List.mem_append_left _ (List.mem_of_getElem? (l := tables_1_2) (i := 98) rfl)))) rfl
theorem wd_339 : ((Jvm.Cond.methodLink "EditGuess" (162 : Nat) ({ cls := "EditGuess$Book", name := "exampleLine", desc := "(I)LEditGuess$Signs;" } : Jvm.MethodName)) : Cond) ∈ zG := zgm (List.mem_append_right _ (List.mem_append_right _ (List.mem_append_left _ (List.mem_of_getElem? (l := tables_1_2) (i := 99) rfl)))) rfl
theorem wd_340 : ((Jvm.Cond.instanceMethod ({ cls := "EditGuess$Book", name := "exampleLine", desc := "(I)LEditGuess$Signs;" } : Jvm.MethodName)) : Cond) ∈ zG := zgm (List.mem_append_right _ (List.mem_append_right _ (List.mem_append_left _ (List.mem_of_getElem? (l := tables_1_2) (i := 100) rfl)))) rfl
theorem wd_341 : ((Jvm.Cond.selects "EditGuess$Book" ({ cls := "EditGuess$Book", name := "exampleLine", desc := "(I)LEditGuess$Signs;" } : Jvm.MethodName) ({ cls := "EditGuess$Book", name := "exampleLine", desc := "(I)LEditGuess$Signs;" } : Jvm.MethodName)) : Cond) ∈ zG := zgm (List.mem_append_right _ (List.mem_append_right _ (List.mem_append_left _ (List.mem_of_getElem? (l := tables_1_2) (i := 101) rfl)))) rfl
theorem wd_342 : ((Jvm.Cond.code ({ cls := "EditGuess$Book", name := "exampleLine", desc := "(I)LEditGuess$Signs;" } : Jvm.MethodName) prog_2_method_5_code (2 : Nat) (Option.some (Jvm.ClassFile.FieldType.object "EditGuess$Signs"))) : Cond) ∈ zG := zgm (List.mem_append_right _ (List.mem_append_right _ (List.mem_append_left _ (List.mem_of_getElem? (l := tables_1_2) (i := 102) rfl)))) rfl
theorem wd_343 : ((Jvm.Cond.methodLink "EditGuess" (165 : Nat) ({ cls := "EditGuess$Book", name := "result", desc := "(I)LEditGuess$Signs;" } : Jvm.MethodName)) : Cond) ∈ zG := zgm (List.mem_append_right _ (List.mem_append_right _ (List.mem_append_left _ (List.mem_of_getElem? (l := tables_1_2) (i := 103) rfl)))) rfl
theorem wd_344 : ((Jvm.Cond.instanceMethod ({ cls := "EditGuess$Book", name := "result", desc := "(I)LEditGuess$Signs;" } : Jvm.MethodName)) : Cond) ∈ zG := zgm (List.mem_append_right _ (List.mem_append_right _ (List.mem_append_left _ (List.mem_of_getElem? (l := tables_1_2) (i := 104) rfl)))) rfl
theorem wd_345 : ((Jvm.Cond.selects "EditGuess$Book" ({ cls := "EditGuess$Book", name := "result", desc := "(I)LEditGuess$Signs;" } : Jvm.MethodName) ({ cls := "EditGuess$Book", name := "result", desc := "(I)LEditGuess$Signs;" } : Jvm.MethodName)) : Cond) ∈ zG := zgm (List.mem_append_right _ (List.mem_append_right _ (List.mem_append_left _ (List.mem_of_getElem? (l := tables_1_2) (i := 105) rfl)))) rfl
theorem wd_346 : ((Jvm.Cond.code ({ cls := "EditGuess$Book", name := "result", desc := "(I)LEditGuess$Signs;" } : Jvm.MethodName) prog_2_method_6_code (2 : Nat) (Option.some (Jvm.ClassFile.FieldType.object "EditGuess$Signs"))) : Cond) ∈ zG := zgm (List.mem_append_right _ (List.mem_append_right _ (List.mem_append_left _ (List.mem_of_getElem? (l := tables_1_2) (i := 106) rfl)))) rfl
theorem wd_347 : ((Jvm.Cond.methodLink "EditGuess" (173 : Nat) ({ cls := "EditGuess$Fitting", name := "addRow", desc := "(LEditGuess$Signs;LEditGuess$Signs;)V" } : Jvm.MethodName)) : Cond) ∈ zG := zgm (List.mem_append_right _ (List.mem_append_right _ (List.mem_append_left _ (List.mem_of_getElem? (l := tables_1_2) (i := 107) rfl)))) rfl
theorem wd_348 : ((Jvm.Cond.instanceMethod ({ cls := "EditGuess$Fitting", name := "addRow", desc := "(LEditGuess$Signs;LEditGuess$Signs;)V" } : Jvm.MethodName)) : Cond) ∈ zG := zgm (List.mem_append_right _ (List.mem_append_right _ (List.mem_append_left _ (List.mem_of_getElem? (l := tables_1_2) (i := 108) rfl)))) rfl
theorem wd_349 : ((Jvm.Cond.selects "EditGuess$Fitting" ({ cls := "EditGuess$Fitting", name := "addRow", desc := "(LEditGuess$Signs;LEditGuess$Signs;)V" } : Jvm.MethodName) ({ cls := "EditGuess$Fitting", name := "addRow", desc := "(LEditGuess$Signs;LEditGuess$Signs;)V" } : Jvm.MethodName)) : Cond) ∈ zG := zgm (List.mem_append_right _ (List.mem_append_right _ (List.mem_append_left _ (List.mem_of_getElem? (l := tables_1_2) (i := 109) rfl)))) rfl
theorem wd_350 : ((Jvm.Cond.code ({ cls := "EditGuess$Fitting", name := "addRow", desc := "(LEditGuess$Signs;LEditGuess$Signs;)V" } : Jvm.MethodName) prog_3_method_3_code (3 : Nat) (Option.none : Option Jvm.ClassFile.FieldType)) : Cond) ∈ zG := zgm (List.mem_append_right _ (List.mem_append_right _ (List.mem_append_left _ (List.mem_of_getElem? (l := tables_1_2) (i := 110) rfl)))) rfl
theorem wd_351 : ((Jvm.Cond.methodLink "EditGuess$Fitting" (51 : Nat) ({ cls := "EditGuess$Row", name := "become", desc := "(LEditGuess$Signs;LEditGuess$Signs;)V" } : Jvm.MethodName)) : Cond) ∈ zG := zgm (List.mem_append_right _ (List.mem_append_right _ (List.mem_append_left _ (List.mem_of_getElem? (l := tables_1_2) (i := 111) rfl)))) rfl
theorem wd_352 : ((Jvm.Cond.instanceMethod ({ cls := "EditGuess$Row", name := "become", desc := "(LEditGuess$Signs;LEditGuess$Signs;)V" } : Jvm.MethodName)) : Cond) ∈ zG := zgm (List.mem_append_right _ (List.mem_append_right _ (List.mem_append_left _ (List.mem_of_getElem? (l := tables_1_2) (i := 112) rfl)))) rfl
theorem wd_353 : ((Jvm.Cond.selects "EditGuess$Row" ({ cls := "EditGuess$Row", name := "become", desc := "(LEditGuess$Signs;LEditGuess$Signs;)V" } : Jvm.MethodName) ({ cls := "EditGuess$Row", name := "become", desc := "(LEditGuess$Signs;LEditGuess$Signs;)V" } : Jvm.MethodName)) : Cond) ∈ zG := zgm (List.mem_append_right _ (List.mem_append_right _ (List.mem_append_left _ (List.mem_of_getElem? (l := tables_1_2) (i := 113) rfl)))) rfl
theorem wd_354 : ((Jvm.Cond.code ({ cls := "EditGuess$Row", name := "become", desc := "(LEditGuess$Signs;LEditGuess$Signs;)V" } : Jvm.MethodName) prog_8_method_2_code (5 : Nat) (Option.none : Option Jvm.ClassFile.FieldType)) : Cond) ∈ zG := zgm (List.mem_append_right _ (List.mem_append_right _ (List.mem_append_left _ (List.mem_of_getElem? (l := tables_1_2) (i := 114) rfl)))) rfl
theorem wd_355 : ((Jvm.Cond.methodLink "EditGuess$Row" (31 : Nat) ({ cls := "EditGuess$Signs", name := "copy", desc := "(LEditGuess$Signs;)V" } : Jvm.MethodName)) : Cond) ∈ zG := zgm (List.mem_append_right _ (List.mem_append_right _ (List.mem_append_left _ (List.mem_of_getElem? (l := tables_1_2) (i := 115) rfl)))) rfl
theorem wd_356 : ((Jvm.Cond.methodLink "EditGuess$Row" (35 : Nat) ({ cls := "EditGuess$Marks", name := "placeIn", desc := "(LEditGuess$Signs;I)I" } : Jvm.MethodName)) : Cond) ∈ zG := zgm (List.mem_append_right _ (List.mem_append_right _ (List.mem_append_left _ (List.mem_of_getElem? (l := tables_1_2) (i := 116) rfl)))) rfl
theorem wd_357 : ((Jvm.Cond.static ({ cls := "EditGuess$Marks", name := "placeIn", desc := "(LEditGuess$Signs;I)I" } : Jvm.MethodName)) : Cond) ∈ zG := zgm (List.mem_append_right _ (List.mem_append_right _ (List.mem_append_left _ (List.mem_of_getElem? (l := tables_1_2) (i := 117) rfl)))) rfl
theorem wd_358 : ((Jvm.Cond.code ({ cls := "EditGuess$Marks", name := "placeIn", desc := "(LEditGuess$Signs;I)I" } : Jvm.MethodName) prog_4_method_6_code (3 : Nat) (Option.some Jvm.ClassFile.FieldType.int)) : Cond) ∈ zG := zgm (List.mem_append_right _ (List.mem_append_right _ (List.mem_append_left _ (List.mem_of_getElem? (l := tables_1_2) (i := 118) rfl)))) rfl
theorem wd_359 : ((Jvm.Cond.methodLink "EditGuess$Marks" (27 : Nat) ({ cls := "EditGuess$Signs", name := "many", desc := "()I" } : Jvm.MethodName)) : Cond) ∈ zG := zgm (List.mem_append_right _ (List.mem_append_right _ (List.mem_append_left _ (List.mem_of_getElem? (l := tables_1_2) (i := 119) rfl)))) rfl
theorem wd_360 : ((Jvm.Cond.methodLink "EditGuess$Marks" (15 : Nat) ({ cls := "EditGuess$Marks", name := "kind", desc := "(I)I" } : Jvm.MethodName)) : Cond) ∈ zG := zgm (List.mem_append_right _ (List.mem_append_right _ (List.mem_append_left _ (List.mem_of_getElem? (l := tables_1_2) (i := 120) rfl)))) rfl
theorem wd_361 : ((Jvm.Cond.static ({ cls := "EditGuess$Marks", name := "kind", desc := "(I)I" } : Jvm.MethodName)) : Cond) ∈ zG := zgm (List.mem_append_right _ (List.mem_append_right _ (List.mem_append_left _ (List.mem_of_getElem? (l := tables_1_2) (i := 121) rfl)))) rfl
theorem wd_362 : ((Jvm.Cond.code ({ cls := "EditGuess$Marks", name := "kind", desc := "(I)I" } : Jvm.MethodName) prog_4_method_7_code (1 : Nat) (Option.some Jvm.ClassFile.FieldType.int)) : Cond) ∈ zG := zgm (List.mem_append_right _ (List.mem_append_right _ (List.mem_append_left _ (List.mem_of_getElem? (l := tables_1_2) (i := 122) rfl)))) rfl
theorem wd_363 : ((Jvm.Cond.methodLink "EditGuess$Marks" (19 : Nat) ({ cls := "EditGuess$Marks", name := "turn", desc := "(I)I" } : Jvm.MethodName)) : Cond) ∈ zG := zgm (List.mem_append_right _ (List.mem_append_right _ (List.mem_append_left _ (List.mem_of_getElem? (l := tables_1_2) (i := 123) rfl)))) rfl
theorem wd_364 : ((Jvm.Cond.static ({ cls := "EditGuess$Marks", name := "turn", desc := "(I)I" } : Jvm.MethodName)) : Cond) ∈ zG := zgm (List.mem_append_right _ (List.mem_append_right _ (List.mem_append_left _ (List.mem_of_getElem? (l := tables_1_2) (i := 124) rfl)))) rfl
theorem wd_365 : ((Jvm.Cond.code ({ cls := "EditGuess$Marks", name := "turn", desc := "(I)I" } : Jvm.MethodName) prog_4_method_8_code (2 : Nat) (Option.some Jvm.ClassFile.FieldType.int)) : Cond) ∈ zG := zgm (List.mem_append_right _ (List.mem_append_right _ (List.mem_append_left _ (List.mem_of_getElem? (l := tables_1_2) (i := 125) rfl)))) rfl
theorem wd_366 : ((Jvm.Cond.methodLink "EditGuess$Marks" (33 : Nat) ({ cls := "EditGuess$Marks", name := "runBegin", desc := "(LEditGuess$Signs;II)I" } : Jvm.MethodName)) : Cond) ∈ zG := zgm (List.mem_append_right _ (List.mem_append_right _ (List.mem_append_left _ (List.mem_of_getElem? (l := tables_1_2) (i := 126) rfl)))) rfl
theorem wd_367 : ((Jvm.Cond.static ({ cls := "EditGuess$Marks", name := "runBegin", desc := "(LEditGuess$Signs;II)I" } : Jvm.MethodName)) : Cond) ∈ zG := zgm (List.mem_append_right _ (List.mem_append_right _ (List.mem_append_left _ (List.mem_of_getElem? (l := tables_1_2) (i := 127) rfl)))) rfl
theorem wd_368 : ((Jvm.Cond.code ({ cls := "EditGuess$Marks", name := "runBegin", desc := "(LEditGuess$Signs;II)I" } : Jvm.MethodName) prog_4_method_9_code (6 : Nat) (Option.some Jvm.ClassFile.FieldType.int)) : Cond) ∈ zG := zgm (List.mem_append_right _ (List.mem_append_right _ (List.mem_append_left _ (List.mem_of_getElem? (l := tables_1_2) (i := 128) rfl)))) rfl
theorem wd_369 : ((Jvm.Cond.methodLink "EditGuess$Marks" (22 : Nat) ({ cls := "java/lang/Math", name := "abs", desc := "(I)I" } : Jvm.MethodName)) : Cond) ∈ zG := zgm (List.mem_append_right _ (List.mem_append_right _ (List.mem_append_left _ (List.mem_of_getElem? (l := tables_1_2) (i := 129) rfl)))) rfl
theorem wd_370 : ((Jvm.Cond.static ({ cls := "java/lang/Math", name := "abs", desc := "(I)I" } : Jvm.MethodName)) : Cond) ∈ zG := zgm (List.mem_append_right _ (List.mem_append_right _ (List.mem_append_left _ (List.mem_of_getElem? (l := tables_1_2) (i := 130) rfl)))) rfl
theorem wd_371 : ((Jvm.Cond.code ({ cls := "java/lang/Math", name := "abs", desc := "(I)I" } : Jvm.MethodName) prog_12_method_59_code (1 : Nat) (Option.some Jvm.ClassFile.FieldType.int)) : Cond) ∈ zG := zgm (List.mem_append_right _ (List.mem_append_right _ (List.mem_append_left _ (List.mem_of_getElem? (l := tables_1_2) (i := 131) rfl)))) rfl
theorem wd_372 : ((Jvm.Cond.methodLink "EditGuess$Marks" (41 : Nat) ({ cls := "EditGuess$Signs", name := "kindAt", desc := "(I)I" } : Jvm.MethodName)) : Cond) ∈ zG := zgm (List.mem_append_right _ (List.mem_append_right _ (List.mem_append_left _ (List.mem_of_getElem? (l := tables_1_2) (i := 132) rfl)))) rfl
theorem wd_373 : ((Jvm.Cond.methodLink "EditGuess$Marks" (37 : Nat) ({ cls := "EditGuess$Marks", name := "runEnd", desc := "(LEditGuess$Signs;I)I" } : Jvm.MethodName)) : Cond) ∈ zG := zgm (List.mem_append_right _ (List.mem_append_right _ (List.mem_append_left _ (List.mem_of_getElem? (l := tables_1_2) (i := 133) rfl)))) rfl
theorem wd_374 : ((Jvm.Cond.static ({ cls := "EditGuess$Marks", name := "runEnd", desc := "(LEditGuess$Signs;I)I" } : Jvm.MethodName)) : Cond) ∈ zG := zgm (List.mem_append_right _ (List.mem_append_right _ (List.mem_append_left _ (List.mem_of_getElem? (l := tables_1_2) (i := 134) rfl)))) rfl
theorem wd_375 : ((Jvm.Cond.code ({ cls := "EditGuess$Marks", name := "runEnd", desc := "(LEditGuess$Signs;I)I" } : Jvm.MethodName) prog_4_method_10_code (3 : Nat) (Option.some Jvm.ClassFile.FieldType.int)) : Cond) ∈ zG := zgm (List.mem_append_right _ (List.mem_append_right _ (List.mem_append_left _ (List.mem_of_getElem? (l := tables_1_2) (i := 135) rfl)))) rfl
theorem wd_376 : ((Jvm.Cond.methodLink "EditGuess$Row" (39 : Nat) ({ cls := "EditGuess$Row", name := "countAlike", desc := "(LEditGuess$Signs;II)I" } : Jvm.MethodName)) : Cond) ∈ zG := zgm (List.mem_append_right _ (List.mem_append_right _ (List.mem_append_left _ (List.mem_of_getElem? (l := tables_1_2) (i := 136) rfl)))) rfl
theorem wd_378 : ((Jvm.Cond.instanceMethod ({ cls := "EditGuess$Row", name := "countAlike", desc := "(LEditGuess$Signs;II)I" } : Jvm.MethodName)) : Cond) ∈ zG := zgm (List.mem_append_right _ (List.mem_append_right _ (List.mem_append_left _ (List.mem_of_getElem? (l := tables_1_2) (i := 138) rfl)))) rfl
theorem wd_379 : ((Jvm.Cond.code ({ cls := "EditGuess$Row", name := "countAlike", desc := "(LEditGuess$Signs;II)I" } : Jvm.MethodName) prog_8_method_3_code (4 : Nat) (Option.some Jvm.ClassFile.FieldType.int)) : Cond) ∈ zG := zgm (List.mem_append_right _ (List.mem_append_right _ (List.mem_append_left _ (List.mem_of_getElem? (l := tables_1_2) (i := 139) rfl)))) rfl
theorem wd_380 : ((Jvm.Cond.methodLink "EditGuess$Row" (43 : Nat) ({ cls := "EditGuess$Signs", name := "many", desc := "()I" } : Jvm.MethodName)) : Cond) ∈ zG := zgm (List.mem_append_right _ (List.mem_append_right _ (List.mem_append_left _ (List.mem_of_getElem? (l := tables_1_2) (i := 140) rfl)))) rfl
theorem wd_381 : ((Jvm.Cond.methodLink "EditGuess$Row" (47 : Nat) ({ cls := "EditGuess$Signs", name := "at", desc := "(I)I" } : Jvm.MethodName)) : Cond) ∈ zG := zgm (List.mem_append_right _ (List.mem_append_right _ (List.mem_append_left _ (List.mem_of_getElem? (l := tables_1_2) (i := 141) rfl)))) rfl
theorem wd_382 : ((Jvm.Cond.methodLink "EditGuess" (176 : Nat) ({ cls := "EditGuess$Fitting", name := "count", desc := "()J" } : Jvm.MethodName)) : Cond) ∈ zG := zgm (List.mem_append_right _ (List.mem_append_right _ (List.mem_append_left _ (List.mem_of_getElem? (l := tables_1_2) (i := 142) rfl)))) rfl
theorem wd_383 : ((Jvm.Cond.instanceMethod ({ cls := "EditGuess$Fitting", name := "count", desc := "()J" } : Jvm.MethodName)) : Cond) ∈ zG := zgm (List.mem_append_right _ (List.mem_append_right _ (List.mem_append_left _ (List.mem_of_getElem? (l := tables_1_2) (i := 143) rfl)))) rfl
theorem wd_384 : ((Jvm.Cond.selects "EditGuess$Fitting" ({ cls := "EditGuess$Fitting", name := "count", desc := "()J" } : Jvm.MethodName) ({ cls := "EditGuess$Fitting", name := "count", desc := "()J" } : Jvm.MethodName)) : Cond) ∈ zG := zgm (List.mem_append_right _ (List.mem_append_right _ (List.mem_append_left _ (List.mem_of_getElem? (l := tables_1_2) (i := 144) rfl)))) rfl
theorem wd_385 : ((Jvm.Cond.code ({ cls := "EditGuess$Fitting", name := "count", desc := "()J" } : Jvm.MethodName) prog_3_method_5_code (4 : Nat) (Option.some Jvm.ClassFile.FieldType.long)) : Cond) ∈ zG := zgm (List.mem_append_right _ (List.mem_append_right _ (List.mem_append_left _ (List.mem_of_getElem? (l := tables_1_2) (i := 145) rfl)))) rfl
theorem wd_386 : ((Jvm.Cond.methodLink "EditGuess$Fitting" (55 : Nat) ({ cls := "EditGuess$Fitting", name := "groupMarks", desc := "()V" } : Jvm.MethodName)) : Cond) ∈ zG := zgm (List.mem_append_right _ (List.mem_append_right _ (List.mem_append_left _ (List.mem_of_getElem? (l := tables_1_2) (i := 146) rfl)))) rfl
theorem wd_388 : ((Jvm.Cond.instanceMethod ({ cls := "EditGuess$Fitting", name := "groupMarks", desc := "()V" } : Jvm.MethodName)) : Cond) ∈ zG := zgm (List.mem_append_right _ (List.mem_append_right _ (List.mem_append_left _ (List.mem_of_getElem? (l := tables_1_2) (i := 148) rfl)))) rfl
theorem wd_389 : ((Jvm.Cond.code ({ cls := "EditGuess$Fitting", name := "groupMarks", desc := "()V" } : Jvm.MethodName) prog_3_method_14_code (2 : Nat) (Option.none : Option Jvm.ClassFile.FieldType)) : Cond) ∈ zG := zgm (List.mem_append_right _ (List.mem_append_right _ (List.mem_append_left _ (List.mem_of_getElem? (l := tables_1_2) (i := 149) rfl)))) rfl
theorem wd_390 : ((Jvm.Cond.methodLink "EditGuess$Fitting" (156 : Nat) ({ cls := "EditGuess$Fitting", name := "isToldInAll", desc := "(I)Z" } : Jvm.MethodName)) : Cond) ∈ zG := zgm (List.mem_append_right _ (List.mem_append_right _ (List.mem_append_left _ (List.mem_of_getElem? (l := tables_1_2) (i := 150) rfl)))) rfl
theorem wd_392 : ((Jvm.Cond.instanceMethod ({ cls := "EditGuess$Fitting", name := "isToldInAll", desc := "(I)Z" } : Jvm.MethodName)) : Cond) ∈ zG := zgm (List.mem_append_right _ (List.mem_append_right _ (List.mem_append_left _ (List.mem_of_getElem? (l := tables_1_2) (i := 152) rfl)))) rfl
theorem wd_393 : ((Jvm.Cond.code ({ cls := "EditGuess$Fitting", name := "isToldInAll", desc := "(I)Z" } : Jvm.MethodName) prog_3_method_16_code (3 : Nat) (Option.some Jvm.ClassFile.FieldType.boolean)) : Cond) ∈ zG := zgm (List.mem_append_right _ (List.mem_append_right _ (List.mem_append_left _ (List.mem_of_getElem? (l := tables_1_2) (i := 153) rfl)))) rfl
theorem wd_394 : ((Jvm.Cond.methodLink "EditGuess$Fitting" (166 : Nat) ({ cls := "EditGuess$Row", name := "placeOf", desc := "(I)I" } : Jvm.MethodName)) : Cond) ∈ zG := zgm (List.mem_append_right _ (List.mem_append_right _ (List.mem_append_left _ (List.mem_of_getElem? (l := tables_1_2) (i := 154) rfl)))) rfl
theorem wd_395 : ((Jvm.Cond.instanceMethod ({ cls := "EditGuess$Row", name := "placeOf", desc := "(I)I" } : Jvm.MethodName)) : Cond) ∈ zG := zgm (List.mem_append_right _ (List.mem_append_right _ (List.mem_append_left _ (List.mem_of_getElem? (l := tables_1_2) (i := 155) rfl)))) rfl
theorem wd_396 : ((Jvm.Cond.selects "EditGuess$Row" ({ cls := "EditGuess$Row", name := "placeOf", desc := "(I)I" } : Jvm.MethodName) ({ cls := "EditGuess$Row", name := "placeOf", desc := "(I)I" } : Jvm.MethodName)) : Cond) ∈ zG := zgm (List.mem_append_right _ (List.mem_append_right _ (List.mem_append_left _ (List.mem_of_getElem? (l := tables_1_2) (i := 156) rfl)))) rfl
theorem wd_397 : ((Jvm.Cond.code ({ cls := "EditGuess$Row", name := "placeOf", desc := "(I)I" } : Jvm.MethodName) prog_8_method_5_code (2 : Nat) (Option.some Jvm.ClassFile.FieldType.int)) : Cond) ∈ zG := zgm (List.mem_append_right _ (List.mem_append_right _ (List.mem_append_left _ (List.mem_of_getElem? (l := tables_1_2) (i := 157) rfl)))) rfl
theorem wd_398 : ((Jvm.Cond.methodLink "EditGuess$Fitting" (159 : Nat) ({ cls := "EditGuess$Fitting", name := "joinGroup", desc := "(I)V" } : Jvm.MethodName)) : Cond) ∈ zG := zgm (List.mem_append_right _ (List.mem_append_right _ (List.mem_append_left _ (List.mem_of_getElem? (l := tables_1_2) (i := 158) rfl)))) rfl
theorem wd_400 : ((Jvm.Cond.instanceMethod ({ cls := "EditGuess$Fitting", name := "joinGroup", desc := "(I)V" } : Jvm.MethodName)) : Cond) ∈ zG := zgm (List.mem_append_right _ (List.mem_append_right _ (List.mem_append_left _ (List.mem_of_getElem? (l := tables_1_2) (i := 160) rfl)))) rfl
theorem wd_401 : ((Jvm.Cond.code ({ cls := "EditGuess$Fitting", name := "joinGroup", desc := "(I)V" } : Jvm.MethodName) prog_3_method_15_code (3 : Nat) (Option.none : Option Jvm.ClassFile.FieldType)) : Cond) ∈ zG := zgm (List.mem_append_right _ (List.mem_append_right _ (List.mem_append_left _ (List.mem_of_getElem? (l := tables_1_2) (i := 161) rfl)))) rfl
theorem wd_402 : ((Jvm.Cond.methodLink "EditGuess$Fitting" (162 : Nat) ({ cls := "EditGuess$Fitting", name := "tellSame", desc := "(II)Z" } : Jvm.MethodName)) : Cond) ∈ zG := zgm (List.mem_append_right _ (List.mem_append_right _ (List.mem_append_left _ (List.mem_of_getElem? (l := tables_1_2) (i := 162) rfl)))) rfl
theorem wd_404 : ((Jvm.Cond.instanceMethod ({ cls := "EditGuess$Fitting", name := "tellSame", desc := "(II)Z" } : Jvm.MethodName)) : Cond) ∈ zG := zgm (List.mem_append_right _ (List.mem_append_right _ (List.mem_append_left _ (List.mem_of_getElem? (l := tables_1_2) (i := 164) rfl)))) rfl
theorem wd_405 : ((Jvm.Cond.code ({ cls := "EditGuess$Fitting", name := "tellSame", desc := "(II)Z" } : Jvm.MethodName) prog_3_method_17_code (4 : Nat) (Option.some Jvm.ClassFile.FieldType.boolean)) : Cond) ∈ zG := zgm (List.mem_append_right _ (List.mem_append_right _ (List.mem_append_left _ (List.mem_of_getElem? (l := tables_1_2) (i := 165) rfl)))) rfl
theorem wd_406 : ((Jvm.Cond.methodLink "EditGuess$Fitting" (110 : Nat) ({ cls := "EditGuess$Marks", name := "price", desc := "(I)I" } : Jvm.MethodName)) : Cond) ∈ zG := zgm (List.mem_append_right _ (List.mem_append_right _ (List.mem_append_left _ (List.mem_of_getElem? (l := tables_1_2) (i := 166) rfl)))) rfl
theorem wd_407 : ((Jvm.Cond.static ({ cls := "EditGuess$Marks", name := "price", desc := "(I)I" } : Jvm.MethodName)) : Cond) ∈ zG := zgm (List.mem_append_right _ (List.mem_append_right _ (List.mem_append_left _ (List.mem_of_getElem? (l := tables_1_2) (i := 167) rfl)))) rfl
theorem wd_408 : ((Jvm.Cond.code ({ cls := "EditGuess$Marks", name := "price", desc := "(I)I" } : Jvm.MethodName) prog_4_method_5_code (1 : Nat) (Option.some Jvm.ClassFile.FieldType.int)) : Cond) ∈ zG := zgm (List.mem_append_right _ (List.mem_append_right _ (List.mem_append_left _ (List.mem_of_getElem? (l := tables_1_2) (i := 168) rfl)))) rfl
theorem wd_409 : ((Jvm.Cond.methodLink "EditGuess$Fitting" (86 : Nat) ({ cls := "java/lang/Math", name := "min", desc := "(II)I" } : Jvm.MethodName)) : Cond) ∈ zG := zgm (List.mem_append_right _ (List.mem_append_right _ (List.mem_append_left _ (List.mem_of_getElem? (l := tables_1_2) (i := 169) rfl)))) rfl
theorem wd_410 : ((Jvm.Cond.static ({ cls := "java/lang/Math", name := "min", desc := "(II)I" } : Jvm.MethodName)) : Cond) ∈ zG := zgm (List.mem_append_right _ (List.mem_append_right _ (List.mem_append_left _ (List.mem_of_getElem? (l := tables_1_2) (i := 170) rfl)))) rfl
theorem wd_411 : ((Jvm.Cond.code ({ cls := "java/lang/Math", name := "min", desc := "(II)I" } : Jvm.MethodName) prog_12_method_69_code (2 : Nat) (Option.some Jvm.ClassFile.FieldType.int)) : Cond) ∈ zG := zgm (List.mem_append_right _ (List.mem_append_right _ (List.mem_append_left _ (List.mem_of_getElem? (l := tables_1_2) (i := 171) rfl)))) rfl
theorem wd_412 : ((Jvm.Cond.methodLink "EditGuess$Fitting" (58 : Nat) ({ cls := "EditGuess$Fitting", name := "lastState", desc := "()I" } : Jvm.MethodName)) : Cond) ∈ zG := zgm (List.mem_append_right _ (List.mem_append_right _ (List.mem_append_left _ (List.mem_of_getElem? (l := tables_1_2) (i := 172) rfl)))) rfl
theorem wd_414 : ((Jvm.Cond.instanceMethod ({ cls := "EditGuess$Fitting", name := "lastState", desc := "()I" } : Jvm.MethodName)) : Cond) ∈ zG := zgm (List.mem_append_right _ (List.mem_append_right _ (List.mem_append_left _ (List.mem_of_getElem? (l := tables_1_2) (i := 174) rfl)))) rfl
theorem wd_415 : ((Jvm.Cond.code ({ cls := "EditGuess$Fitting", name := "lastState", desc := "()I" } : Jvm.MethodName) prog_3_method_24_code (4 : Nat) (Option.some Jvm.ClassFile.FieldType.int)) : Cond) ∈ zG := zgm (List.mem_append_right _ (List.mem_append_right _ (List.mem_append_left _ (List.mem_of_getElem? (l := tables_1_2) (i := 175) rfl)))) rfl
theorem wd_416 : ((Jvm.Cond.methodLink "EditGuess$Fitting" (135 : Nat) ({ cls := "EditGuess$Row", name := "result", desc := "()LEditGuess$Signs;" } : Jvm.MethodName)) : Cond) ∈ zG := zgm (List.mem_append_right _ (List.mem_append_right _ (List.mem_append_left _ (List.mem_of_getElem? (l := tables_1_2) (i := 176) rfl)))) rfl
theorem wd_417 : ((Jvm.Cond.instanceMethod ({ cls := "EditGuess$Row", name := "result", desc := "()LEditGuess$Signs;" } : Jvm.MethodName)) : Cond) ∈ zG := zgm (List.mem_append_right _ (List.mem_append_right _ (List.mem_append_left _ (List.mem_of_getElem? (l := tables_1_2) (i := 177) rfl)))) rfl
theorem wd_418 : ((Jvm.Cond.selects "EditGuess$Row" ({ cls := "EditGuess$Row", name := "result", desc := "()LEditGuess$Signs;" } : Jvm.MethodName) ({ cls := "EditGuess$Row", name := "result", desc := "()LEditGuess$Signs;" } : Jvm.MethodName)) : Cond) ∈ zG := zgm (List.mem_append_right _ (List.mem_append_right _ (List.mem_append_left _ (List.mem_of_getElem? (l := tables_1_2) (i := 178) rfl)))) rfl
theorem wd_419 : ((Jvm.Cond.code ({ cls := "EditGuess$Row", name := "result", desc := "()LEditGuess$Signs;" } : Jvm.MethodName) prog_8_method_4_code (1 : Nat) (Option.some (Jvm.ClassFile.FieldType.object "EditGuess$Signs"))) : Cond) ∈ zG := zgm (List.mem_append_right _ (List.mem_append_right _ (List.mem_append_left _ (List.mem_of_getElem? (l := tables_1_2) (i := 179) rfl)))) rfl
theorem wd_420 : ((Jvm.Cond.methodLink "EditGuess$Fitting" (183 : Nat) ({ cls := "EditGuess$Signs", name := "many", desc := "()I" } : Jvm.MethodName)) : Cond) ∈ zG := zgm (List.mem_append_right _ (List.mem_append_right _ (List.mem_append_left _ (List.mem_of_getElem? (l := tables_1_2) (i := 180) rfl)))) rfl
theorem wd_421 : ((Jvm.Cond.methodLink "EditGuess$Fitting" (62 : Nat) ({ cls := "EditGuess$Fitting", name := "listMoves", desc := "(I)V" } : Jvm.MethodName)) : Cond) ∈ zG := zgm (List.mem_append_right _ (List.mem_append_right _ (List.mem_append_left _ (List.mem_of_getElem? (l := tables_1_2) (i := 181) rfl)))) rfl
theorem wd_423 : ((Jvm.Cond.instanceMethod ({ cls := "EditGuess$Fitting", name := "listMoves", desc := "(I)V" } : Jvm.MethodName)) : Cond) ∈ zG := zgm (List.mem_append_right _ (List.mem_append_right _ (List.mem_append_left _ (List.mem_of_getElem? (l := tables_1_2) (i := 183) rfl)))) rfl
theorem wd_424 : ((Jvm.Cond.code ({ cls := "EditGuess$Fitting", name := "listMoves", desc := "(I)V" } : Jvm.MethodName) prog_3_method_12_code (4 : Nat) (Option.none : Option Jvm.ClassFile.FieldType)) : Cond) ∈ zG := zgm (List.mem_append_right _ (List.mem_append_right _ (List.mem_append_left _ (List.mem_of_getElem? (l := tables_1_2) (i := 184) rfl)))) rfl
theorem wd_425 : ((Jvm.Cond.methodLink "EditGuess$Fitting" (143 : Nat) ({ cls := "EditGuess$Moves", name := "clear", desc := "()V" } : Jvm.MethodName)) : Cond) ∈ zG := zgm (List.mem_append_right _ (List.mem_append_right _ (List.mem_append_left _ (List.mem_of_getElem? (l := tables_1_2) (i := 185) rfl)))) rfl
theorem wd_426 : ((Jvm.Cond.instanceMethod ({ cls := "EditGuess$Moves", name := "clear", desc := "()V" } : Jvm.MethodName)) : Cond) ∈ zG := zgm (List.mem_append_right _ (List.mem_append_right _ (List.mem_append_left _ (List.mem_of_getElem? (l := tables_1_2) (i := 186) rfl)))) rfl
theorem wd_427 : ((Jvm.Cond.selects "EditGuess$Moves" ({ cls := "EditGuess$Moves", name := "clear", desc := "()V" } : Jvm.MethodName) ({ cls := "EditGuess$Moves", name := "clear", desc := "()V" } : Jvm.MethodName)) : Cond) ∈ zG := zgm (List.mem_append_right _ (List.mem_append_right _ (List.mem_append_left _ (List.mem_of_getElem? (l := tables_1_2) (i := 187) rfl)))) rfl
theorem wd_428 : ((Jvm.Cond.code ({ cls := "EditGuess$Moves", name := "clear", desc := "()V" } : Jvm.MethodName) prog_5_method_3_code (1 : Nat) (Option.none : Option Jvm.ClassFile.FieldType)) : Cond) ∈ zG := zgm (List.mem_append_right _ (List.mem_append_right _ (List.mem_append_left _ (List.mem_of_getElem? (l := tables_1_2) (i := 188) rfl)))) rfl
theorem wd_429 : ((Jvm.Cond.methodLink "EditGuess$Fitting" (92 : Nat) ({ cls := "EditGuess$Fitting", name := "reach", desc := "(I)V" } : Jvm.MethodName)) : Cond) ∈ zG := zgm (List.mem_append_right _ (List.mem_append_right _ (List.mem_append_left _ (List.mem_of_getElem? (l := tables_1_2) (i := 189) rfl)))) rfl
theorem wd_431 : ((Jvm.Cond.instanceMethod ({ cls := "EditGuess$Fitting", name := "reach", desc := "(I)V" } : Jvm.MethodName)) : Cond) ∈ zG := zgm (List.mem_append_right _ (List.mem_append_right _ (List.mem_append_left _ (List.mem_of_getElem? (l := tables_1_2) (i := 191) rfl)))) rfl
theorem wd_432 : ((Jvm.Cond.code ({ cls := "EditGuess$Fitting", name := "reach", desc := "(I)V" } : Jvm.MethodName) prog_3_method_18_code (4 : Nat) (Option.none : Option Jvm.ClassFile.FieldType)) : Cond) ∈ zG := zgm (List.mem_append_right _ (List.mem_append_right _ (List.mem_append_left _ (List.mem_of_getElem? (l := tables_1_2) (i := 192) rfl)))) rfl
theorem wd_433 : ((Jvm.Cond.methodLink "EditGuess$Fitting" (102 : Nat) ({ cls := "EditGuess$Fitting", name := "canBegin", desc := "(I)Z" } : Jvm.MethodName)) : Cond) ∈ zG := zgm (List.mem_append_right _ (List.mem_append_right _ (List.mem_append_left _ (List.mem_of_getElem? (l := tables_1_2) (i := 193) rfl)))) rfl
theorem wd_435 : ((Jvm.Cond.instanceMethod ({ cls := "EditGuess$Fitting", name := "canBegin", desc := "(I)Z" } : Jvm.MethodName)) : Cond) ∈ zG := zgm (List.mem_append_right _ (List.mem_append_right _ (List.mem_append_left _ (List.mem_of_getElem? (l := tables_1_2) (i := 195) rfl)))) rfl
theorem wd_436 : ((Jvm.Cond.code ({ cls := "EditGuess$Fitting", name := "canBegin", desc := "(I)Z" } : Jvm.MethodName) prog_3_method_19_code (3 : Nat) (Option.some Jvm.ClassFile.FieldType.boolean)) : Cond) ∈ zG := zgm (List.mem_append_right _ (List.mem_append_right _ (List.mem_append_left _ (List.mem_of_getElem? (l := tables_1_2) (i := 196) rfl)))) rfl
theorem wd_437 : ((Jvm.Cond.methodLink "EditGuess$Fitting" (169 : Nat) ({ cls := "EditGuess$Row", name := "longestFrom", desc := "(II)I" } : Jvm.MethodName)) : Cond) ∈ zG := zgm (List.mem_append_right _ (List.mem_append_right _ (List.mem_append_left _ (List.mem_of_getElem? (l := tables_1_2) (i := 197) rfl)))) rfl
theorem wd_438 : ((Jvm.Cond.instanceMethod ({ cls := "EditGuess$Row", name := "longestFrom", desc := "(II)I" } : Jvm.MethodName)) : Cond) ∈ zG := zgm (List.mem_append_right _ (List.mem_append_right _ (List.mem_append_left _ (List.mem_of_getElem? (l := tables_1_2) (i := 198) rfl)))) rfl
theorem wd_439 : ((Jvm.Cond.selects "EditGuess$Row" ({ cls := "EditGuess$Row", name := "longestFrom", desc := "(II)I" } : Jvm.MethodName) ({ cls := "EditGuess$Row", name := "longestFrom", desc := "(II)I" } : Jvm.MethodName)) : Cond) ∈ zG := zgm (List.mem_append_right _ (List.mem_append_right _ (List.mem_append_left _ (List.mem_of_getElem? (l := tables_1_2) (i := 199) rfl)))) rfl
theorem wd_440 : ((Jvm.Cond.code ({ cls := "EditGuess$Row", name := "longestFrom", desc := "(II)I" } : Jvm.MethodName) prog_8_method_6_code (3 : Nat) (Option.some Jvm.ClassFile.FieldType.int)) : Cond) ∈ zG := zgm (List.mem_append_right _ (List.mem_append_right _ (List.mem_append_left _ (List.mem_of_getElem? (l := tables_1_2) (i := 200) rfl)))) rfl
theorem wd_441 : ((Jvm.Cond.methodLink "EditGuess$Fitting" (149 : Nat) ({ cls := "EditGuess$Fitting", name := "listCuts", desc := "(II)V" } : Jvm.MethodName)) : Cond) ∈ zG := zgm (List.mem_append_right _ (List.mem_append_right _ (List.mem_append_left _ (List.mem_of_getElem? (l := tables_1_2) (i := 201) rfl)))) rfl
theorem wd_443 : ((Jvm.Cond.instanceMethod ({ cls := "EditGuess$Fitting", name := "listCuts", desc := "(II)V" } : Jvm.MethodName)) : Cond) ∈ zG := zgm (List.mem_append_right _ (List.mem_append_right _ (List.mem_append_left _ (List.mem_of_getElem? (l := tables_1_2) (i := 203) rfl)))) rfl
theorem wd_444 : ((Jvm.Cond.code ({ cls := "EditGuess$Fitting", name := "listCuts", desc := "(II)V" } : Jvm.MethodName) prog_3_method_13_code (6 : Nat) (Option.none : Option Jvm.ClassFile.FieldType)) : Cond) ∈ zG := zgm (List.mem_append_right _ (List.mem_append_right _ (List.mem_append_left _ (List.mem_of_getElem? (l := tables_1_2) (i := 204) rfl)))) rfl
theorem wd_445 : ((Jvm.Cond.methodLink "EditGuess$Fitting" (106 : Nat) ({ cls := "EditGuess$Fitting", name := "cutTarget", desc := "(III)I" } : Jvm.MethodName)) : Cond) ∈ zG := zgm (List.mem_append_right _ (List.mem_append_right _ (List.mem_append_left _ (List.mem_of_getElem? (l := tables_1_2) (i := 205) rfl)))) rfl
theorem wd_447 : ((Jvm.Cond.instanceMethod ({ cls := "EditGuess$Fitting", name := "cutTarget", desc := "(III)I" } : Jvm.MethodName)) : Cond) ∈ zG := zgm (List.mem_append_right _ (List.mem_append_right _ (List.mem_append_left _ (List.mem_of_getElem? (l := tables_1_2) (i := 207) rfl)))) rfl
theorem wd_448 : ((Jvm.Cond.code ({ cls := "EditGuess$Fitting", name := "cutTarget", desc := "(III)I" } : Jvm.MethodName) prog_3_method_20_code (8 : Nat) (Option.some Jvm.ClassFile.FieldType.int)) : Cond) ∈ zG := zgm (List.mem_append_right _ (List.mem_append_right _ (List.mem_append_left _ (List.mem_of_getElem? (l := tables_1_2) (i := 208) rfl)))) rfl
theorem wd_449 : ((Jvm.Cond.methodLink "EditGuess$Fitting" (172 : Nat) ({ cls := "EditGuess$Row", name := "cutLength", desc := "(III)I" } : Jvm.MethodName)) : Cond) ∈ zG := zgm (List.mem_append_right _ (List.mem_append_right _ (List.mem_append_left _ (List.mem_of_getElem? (l := tables_1_2) (i := 209) rfl)))) rfl
theorem wd_450 : ((Jvm.Cond.instanceMethod ({ cls := "EditGuess$Row", name := "cutLength", desc := "(III)I" } : Jvm.MethodName)) : Cond) ∈ zG := zgm (List.mem_append_right _ (List.mem_append_right _ (List.mem_append_left _ (List.mem_of_getElem? (l := tables_1_2) (i := 210) rfl)))) rfl
theorem wd_451 : ((Jvm.Cond.selects "EditGuess$Row" ({ cls := "EditGuess$Row", name := "cutLength", desc := "(III)I" } : Jvm.MethodName) ({ cls := "EditGuess$Row", name := "cutLength", desc := "(III)I" } : Jvm.MethodName)) : Cond) ∈ zG := zgm (List.mem_append_right _ (List.mem_append_right _ (List.mem_append_left _ (List.mem_of_getElem? (l := tables_1_2) (i := 211) rfl)))) rfl
theorem wd_452 : ((Jvm.Cond.code ({ cls := "EditGuess$Row", name := "cutLength", desc := "(III)I" } : Jvm.MethodName) prog_8_method_7_code (6 : Nat) (Option.some Jvm.ClassFile.FieldType.int)) : Cond) ∈ zG := zgm (List.mem_append_right _ (List.mem_append_right _ (List.mem_append_left _ (List.mem_of_getElem? (l := tables_1_2) (i := 212) rfl)))) rfl
theorem wd_453 : ((Jvm.Cond.methodLink "EditGuess$Row" (51 : Nat) ({ cls := "EditGuess$Row", name := "placeOf", desc := "(I)I" } : Jvm.MethodName)) : Cond) ∈ zG := zgm (List.mem_append_right _ (List.mem_append_right _ (List.mem_append_left _ (List.mem_of_getElem? (l := tables_1_2) (i := 213) rfl)))) rfl
theorem wd_454 : ((Jvm.Cond.methodLink "EditGuess$Row" (54 : Nat) ({ cls := "EditGuess$Row", name := "longestFrom", desc := "(II)I" } : Jvm.MethodName)) : Cond) ∈ zG := zgm (List.mem_append_right _ (List.mem_append_right _ (List.mem_append_left _ (List.mem_of_getElem? (l := tables_1_2) (i := 214) rfl)))) rfl
theorem wd_455 : ((Jvm.Cond.methodLink "EditGuess$Fitting" (111 : Nat) ({ cls := "EditGuess$Piece", name := "cutPrice", desc := "(II)I" } : Jvm.MethodName)) : Cond) ∈ zG := zgm (List.mem_append_right _ (List.mem_append_right _ (List.mem_append_left _ (List.mem_of_getElem? (l := tables_1_2) (i := 215) rfl)))) rfl
theorem wd_456 : ((Jvm.Cond.static ({ cls := "EditGuess$Piece", name := "cutPrice", desc := "(II)I" } : Jvm.MethodName)) : Cond) ∈ zG := zgm (List.mem_append_right _ (List.mem_append_right _ (List.mem_append_left _ (List.mem_of_getElem? (l := tables_1_2) (i := 216) rfl)))) rfl
theorem wd_457 : ((Jvm.Cond.code ({ cls := "EditGuess$Piece", name := "cutPrice", desc := "(II)I" } : Jvm.MethodName) prog_6_method_6_code (2 : Nat) (Option.some Jvm.ClassFile.FieldType.int)) : Cond) ∈ zG := zgm (List.mem_append_right _ (List.mem_append_right _ (List.mem_append_left _ (List.mem_of_getElem? (l := tables_1_2) (i := 217) rfl)))) rfl
theorem wd_458 : ((Jvm.Cond.methodLink "EditGuess$Fitting" (152 : Nat) ({ cls := "EditGuess$Moves", name := "add", desc := "(III)V" } : Jvm.MethodName)) : Cond) ∈ zG := zgm (List.mem_append_right _ (List.mem_append_right _ (List.mem_append_left _ (List.mem_of_getElem? (l := tables_1_2) (i := 218) rfl)))) rfl
theorem wd_459 : ((Jvm.Cond.instanceMethod ({ cls := "EditGuess$Moves", name := "add", desc := "(III)V" } : Jvm.MethodName)) : Cond) ∈ zG := zgm (List.mem_append_right _ (List.mem_append_right _ (List.mem_append_left _ (List.mem_of_getElem? (l := tables_1_2) (i := 219) rfl)))) rfl
theorem wd_460 : ((Jvm.Cond.selects "EditGuess$Moves" ({ cls := "EditGuess$Moves", name := "add", desc := "(III)V" } : Jvm.MethodName) ({ cls := "EditGuess$Moves", name := "add", desc := "(III)V" } : Jvm.MethodName)) : Cond) ∈ zG := zgm (List.mem_append_right _ (List.mem_append_right _ (List.mem_append_left _ (List.mem_of_getElem? (l := tables_1_2) (i := 220) rfl)))) rfl
theorem wd_461 : ((Jvm.Cond.code ({ cls := "EditGuess$Moves", name := "add", desc := "(III)V" } : Jvm.MethodName) prog_5_method_4_code (4 : Nat) (Option.none : Option Jvm.ClassFile.FieldType)) : Cond) ∈ zG := zgm (List.mem_append_right _ (List.mem_append_right _ (List.mem_append_left _ (List.mem_of_getElem? (l := tables_1_2) (i := 221) rfl)))) rfl
theorem wd_462 : ((Jvm.Cond.methodLink "EditGuess$Fitting" (126 : Nat) ({ cls := "EditGuess$Fitting", name := "longestText", desc := "()I" } : Jvm.MethodName)) : Cond) ∈ zG := zgm (List.mem_append_right _ (List.mem_append_right _ (List.mem_append_left _ (List.mem_of_getElem? (l := tables_1_2) (i := 222) rfl)))) rfl
theorem wd_464 : ((Jvm.Cond.instanceMethod ({ cls := "EditGuess$Fitting", name := "longestText", desc := "()I" } : Jvm.MethodName)) : Cond) ∈ zG := zgm (List.mem_append_right _ (List.mem_append_right _ (List.mem_append_left _ (List.mem_of_getElem? (l := tables_1_2) (i := 224) rfl)))) rfl
theorem wd_465 : ((Jvm.Cond.code ({ cls := "EditGuess$Fitting", name := "longestText", desc := "()I" } : Jvm.MethodName) prog_3_method_22_code (2 : Nat) (Option.some Jvm.ClassFile.FieldType.int)) : Cond) ∈ zG := zgm (List.mem_append_right _ (List.mem_append_right _ (List.mem_append_left _ (List.mem_of_getElem? (l := tables_1_2) (i := 225) rfl)))) rfl
theorem wd_466 : ((Jvm.Cond.methodLink "EditGuess$Fitting" (175 : Nat) ({ cls := "EditGuess$Fitting", name := "isNextInAll", desc := "(I)Z" } : Jvm.MethodName)) : Cond) ∈ zG := zgm (List.mem_append_right _ (List.mem_append_right _ (List.mem_append_left _ (List.mem_of_getElem? (l := tables_1_2) (i := 226) rfl)))) rfl
theorem wd_468 : ((Jvm.Cond.instanceMethod ({ cls := "EditGuess$Fitting", name := "isNextInAll", desc := "(I)Z" } : Jvm.MethodName)) : Cond) ∈ zG := zgm (List.mem_append_right _ (List.mem_append_right _ (List.mem_append_left _ (List.mem_of_getElem? (l := tables_1_2) (i := 228) rfl)))) rfl
theorem wd_469 : ((Jvm.Cond.code ({ cls := "EditGuess$Fitting", name := "isNextInAll", desc := "(I)Z" } : Jvm.MethodName) prog_3_method_23_code (4 : Nat) (Option.some Jvm.ClassFile.FieldType.boolean)) : Cond) ∈ zG := zgm (List.mem_append_right _ (List.mem_append_right _ (List.mem_append_left _ (List.mem_of_getElem? (l := tables_1_2) (i := 229) rfl)))) rfl
theorem wd_470 : ((Jvm.Cond.methodLink "EditGuess$Fitting" (178 : Nat) ({ cls := "EditGuess$Signs", name := "at", desc := "(I)I" } : Jvm.MethodName)) : Cond) ∈ zG := zgm (List.mem_append_right _ (List.mem_append_right _ (List.mem_append_left _ (List.mem_of_getElem? (l := tables_1_2) (i := 230) rfl)))) rfl
theorem wd_471 : ((Jvm.Cond.methodLink "EditGuess$Fitting" (129 : Nat) ({ cls := "EditGuess$Fitting", name := "textTarget", desc := "(II)I" } : Jvm.MethodName)) : Cond) ∈ zG := zgm (List.mem_append_right _ (List.mem_append_right _ (List.mem_append_left _ (List.mem_of_getElem? (l := tables_1_2) (i := 231) rfl)))) rfl
theorem wd_473 : ((Jvm.Cond.instanceMethod ({ cls := "EditGuess$Fitting", name := "textTarget", desc := "(II)I" } : Jvm.MethodName)) : Cond) ∈ zG := zgm (List.mem_append_right _ (List.mem_append_right _ (List.mem_append_left _ (List.mem_of_getElem? (l := tables_1_2) (i := 233) rfl)))) rfl
theorem wd_474 : ((Jvm.Cond.code ({ cls := "EditGuess$Fitting", name := "textTarget", desc := "(II)I" } : Jvm.MethodName) prog_3_method_21_code (6 : Nat) (Option.some Jvm.ClassFile.FieldType.int)) : Cond) ∈ zG := zgm (List.mem_append_right _ (List.mem_append_right _ (List.mem_append_left _ (List.mem_of_getElem? (l := tables_1_2) (i := 234) rfl)))) rfl
theorem wd_475 : ((Jvm.Cond.methodLink "EditGuess$Fitting" (132 : Nat) ({ cls := "EditGuess$Piece", name := "textPrice", desc := "(I)I" } : Jvm.MethodName)) : Cond) ∈ zG := zgm (List.mem_append_right _ (List.mem_append_right _ (List.mem_append_left _ (List.mem_of_getElem? (l := tables_1_2) (i := 235) rfl)))) rfl
theorem wd_476 : ((Jvm.Cond.static ({ cls := "EditGuess$Piece", name := "textPrice", desc := "(I)I" } : Jvm.MethodName)) : Cond) ∈ zG := zgm (List.mem_append_right _ (List.mem_append_right _ (List.mem_append_left _ (List.mem_of_getElem? (l := tables_1_2) (i := 236) rfl)))) rfl
theorem wd_477 : ((Jvm.Cond.code ({ cls := "EditGuess$Piece", name := "textPrice", desc := "(I)I" } : Jvm.MethodName) prog_6_method_5_code (1 : Nat) (Option.some Jvm.ClassFile.FieldType.int)) : Cond) ∈ zG := zgm (List.mem_append_right _ (List.mem_append_right _ (List.mem_append_left _ (List.mem_of_getElem? (l := tables_1_2) (i := 237) rfl)))) rfl
theorem wd_478 : ((Jvm.Cond.methodLink "EditGuess$Fitting" (66 : Nat) ({ cls := "EditGuess$Moves", name := "many", desc := "()I" } : Jvm.MethodName)) : Cond) ∈ zG := zgm (List.mem_append_right _ (List.mem_append_right _ (List.mem_append_left _ (List.mem_of_getElem? (l := tables_1_2) (i := 238) rfl)))) rfl
theorem wd_479 : ((Jvm.Cond.instanceMethod ({ cls := "EditGuess$Moves", name := "many", desc := "()I" } : Jvm.MethodName)) : Cond) ∈ zG := zgm (List.mem_append_right _ (List.mem_append_right _ (List.mem_append_left _ (List.mem_of_getElem? (l := tables_1_2) (i := 239) rfl)))) rfl
theorem wd_480 : ((Jvm.Cond.selects "EditGuess$Moves" ({ cls := "EditGuess$Moves", name := "many", desc := "()I" } : Jvm.MethodName) ({ cls := "EditGuess$Moves", name := "many", desc := "()I" } : Jvm.MethodName)) : Cond) ∈ zG := zgm (List.mem_append_right _ (List.mem_append_right _ (List.mem_append_right _ (List.mem_append_left _ (List.mem_of_getElem? (l := tables_1_3) (i := 0) rfl))))) rfl
theorem wd_481 : ((Jvm.Cond.code ({ cls := "EditGuess$Moves", name := "many", desc := "()I" } : Jvm.MethodName) prog_5_method_2_code (1 : Nat) (Option.some Jvm.ClassFile.FieldType.int)) : Cond) ∈ zG := zgm (List.mem_append_right _ (List.mem_append_right _ (List.mem_append_right _ (List.mem_append_left _ (List.mem_of_getElem? (l := tables_1_3) (i := 1) rfl))))) rfl
theorem wd_482 : ((Jvm.Cond.methodLink "EditGuess$Fitting" (68 : Nat) ({ cls := "EditGuess$Moves", name := "target", desc := "(I)I" } : Jvm.MethodName)) : Cond) ∈ zG := zgm (List.mem_append_right _ (List.mem_append_right _ (List.mem_append_right _ (List.mem_append_left _ (List.mem_of_getElem? (l := tables_1_3) (i := 2) rfl))))) rfl
theorem wd_483 : ((Jvm.Cond.instanceMethod ({ cls := "EditGuess$Moves", name := "target", desc := "(I)I" } : Jvm.MethodName)) : Cond) ∈ zG := zgm (List.mem_append_right _ (List.mem_append_right _ (List.mem_append_right _ (List.mem_append_left _ (List.mem_of_getElem? (l := tables_1_3) (i := 3) rfl))))) rfl
theorem wd_484 : ((Jvm.Cond.selects "EditGuess$Moves" ({ cls := "EditGuess$Moves", name := "target", desc := "(I)I" } : Jvm.MethodName) ({ cls := "EditGuess$Moves", name := "target", desc := "(I)I" } : Jvm.MethodName)) : Cond) ∈ zG := zgm (List.mem_append_right _ (List.mem_append_right _ (List.mem_append_right _ (List.mem_append_left _ (List.mem_of_getElem? (l := tables_1_3) (i := 4) rfl))))) rfl
theorem wd_485 : ((Jvm.Cond.code ({ cls := "EditGuess$Moves", name := "target", desc := "(I)I" } : Jvm.MethodName) prog_5_method_5_code (2 : Nat) (Option.some Jvm.ClassFile.FieldType.int)) : Cond) ∈ zG := zgm (List.mem_append_right _ (List.mem_append_right _ (List.mem_append_right _ (List.mem_append_left _ (List.mem_of_getElem? (l := tables_1_3) (i := 5) rfl))))) rfl
theorem wd_486 : ((Jvm.Cond.methodLink "EditGuess$Fitting" (72 : Nat) ({ cls := "EditGuess$Moves", name := "pieces", desc := "(I)I" } : Jvm.MethodName)) : Cond) ∈ zG := zgm (List.mem_append_right _ (List.mem_append_right _ (List.mem_append_right _ (List.mem_append_left _ (List.mem_of_getElem? (l := tables_1_3) (i := 6) rfl))))) rfl
theorem wd_487 : ((Jvm.Cond.instanceMethod ({ cls := "EditGuess$Moves", name := "pieces", desc := "(I)I" } : Jvm.MethodName)) : Cond) ∈ zG := zgm (List.mem_append_right _ (List.mem_append_right _ (List.mem_append_right _ (List.mem_append_left _ (List.mem_of_getElem? (l := tables_1_3) (i := 7) rfl))))) rfl
theorem wd_488 : ((Jvm.Cond.selects "EditGuess$Moves" ({ cls := "EditGuess$Moves", name := "pieces", desc := "(I)I" } : Jvm.MethodName) ({ cls := "EditGuess$Moves", name := "pieces", desc := "(I)I" } : Jvm.MethodName)) : Cond) ∈ zG := zgm (List.mem_append_right _ (List.mem_append_right _ (List.mem_append_right _ (List.mem_append_left _ (List.mem_of_getElem? (l := tables_1_3) (i := 8) rfl))))) rfl
theorem wd_489 : ((Jvm.Cond.code ({ cls := "EditGuess$Moves", name := "pieces", desc := "(I)I" } : Jvm.MethodName) prog_5_method_6_code (2 : Nat) (Option.some Jvm.ClassFile.FieldType.int)) : Cond) ∈ zG := zgm (List.mem_append_right _ (List.mem_append_right _ (List.mem_append_right _ (List.mem_append_left _ (List.mem_of_getElem? (l := tables_1_3) (i := 9) rfl))))) rfl
theorem wd_490 : ((Jvm.Cond.methodLink "EditGuess$Fitting" (75 : Nat) ({ cls := "EditGuess$Fitting", name := "addWays", desc := "(IJ)V" } : Jvm.MethodName)) : Cond) ∈ zG := zgm (List.mem_append_right _ (List.mem_append_right _ (List.mem_append_right _ (List.mem_append_left _ (List.mem_of_getElem? (l := tables_1_3) (i := 10) rfl))))) rfl
theorem wd_492 : ((Jvm.Cond.instanceMethod ({ cls := "EditGuess$Fitting", name := "addWays", desc := "(IJ)V" } : Jvm.MethodName)) : Cond) ∈ zG := zgm (List.mem_append_right _ (List.mem_append_right _ (List.mem_append_right _ (List.mem_append_left _ (List.mem_of_getElem? (l := tables_1_3) (i := 12) rfl))))) rfl
theorem wd_493 : ((Jvm.Cond.code ({ cls := "EditGuess$Fitting", name := "addWays", desc := "(IJ)V" } : Jvm.MethodName) prog_3_method_6_code (4 : Nat) (Option.none : Option Jvm.ClassFile.FieldType)) : Cond) ∈ zG := zgm (List.mem_append_right _ (List.mem_append_right _ (List.mem_append_right _ (List.mem_append_left _ (List.mem_of_getElem? (l := tables_1_3) (i := 13) rfl))))) rfl
theorem wd_494 : ((Jvm.Cond.methodLink "EditGuess" (180 : Nat) ({ cls := "EditGuess$Plan", name := "clear", desc := "()V" } : Jvm.MethodName)) : Cond) ∈ zG := zgm (List.mem_append_right _ (List.mem_append_right _ (List.mem_append_right _ (List.mem_append_left _ (List.mem_of_getElem? (l := tables_1_3) (i := 14) rfl))))) rfl
theorem wd_495 : ((Jvm.Cond.instanceMethod ({ cls := "EditGuess$Plan", name := "clear", desc := "()V" } : Jvm.MethodName)) : Cond) ∈ zG := zgm (List.mem_append_right _ (List.mem_append_right _ (List.mem_append_right _ (List.mem_append_left _ (List.mem_of_getElem? (l := tables_1_3) (i := 15) rfl))))) rfl
theorem wd_496 : ((Jvm.Cond.selects "EditGuess$Plan" ({ cls := "EditGuess$Plan", name := "clear", desc := "()V" } : Jvm.MethodName) ({ cls := "EditGuess$Plan", name := "clear", desc := "()V" } : Jvm.MethodName)) : Cond) ∈ zG := zgm (List.mem_append_right _ (List.mem_append_right _ (List.mem_append_right _ (List.mem_append_left _ (List.mem_of_getElem? (l := tables_1_3) (i := 16) rfl))))) rfl
theorem wd_497 : ((Jvm.Cond.code ({ cls := "EditGuess$Plan", name := "clear", desc := "()V" } : Jvm.MethodName) prog_7_method_3_code (1 : Nat) (Option.none : Option Jvm.ClassFile.FieldType)) : Cond) ∈ zG := zgm (List.mem_append_right _ (List.mem_append_right _ (List.mem_append_right _ (List.mem_append_left _ (List.mem_of_getElem? (l := tables_1_3) (i := 17) rfl))))) rfl
theorem wd_498 : ((Jvm.Cond.methodLink "EditGuess" (181 : Nat) ({ cls := "EditGuess$Fitting", name := "weigh", desc := "()V" } : Jvm.MethodName)) : Cond) ∈ zG := zgm (List.mem_append_right _ (List.mem_append_right _ (List.mem_append_right _ (List.mem_append_left _ (List.mem_of_getElem? (l := tables_1_3) (i := 18) rfl))))) rfl
theorem wd_499 : ((Jvm.Cond.instanceMethod ({ cls := "EditGuess$Fitting", name := "weigh", desc := "()V" } : Jvm.MethodName)) : Cond) ∈ zG := zgm (List.mem_append_right _ (List.mem_append_right _ (List.mem_append_right _ (List.mem_append_left _ (List.mem_of_getElem? (l := tables_1_3) (i := 19) rfl))))) rfl
theorem wd_500 : ((Jvm.Cond.selects "EditGuess$Fitting" ({ cls := "EditGuess$Fitting", name := "weigh", desc := "()V" } : Jvm.MethodName) ({ cls := "EditGuess$Fitting", name := "weigh", desc := "()V" } : Jvm.MethodName)) : Cond) ∈ zG := zgm (List.mem_append_right _ (List.mem_append_right _ (List.mem_append_right _ (List.mem_append_left _ (List.mem_of_getElem? (l := tables_1_3) (i := 20) rfl))))) rfl
theorem wd_501 : ((Jvm.Cond.code ({ cls := "EditGuess$Fitting", name := "weigh", desc := "()V" } : Jvm.MethodName) prog_3_method_7_code (5 : Nat) (Option.none : Option Jvm.ClassFile.FieldType)) : Cond) ∈ zG := zgm (List.mem_append_right _ (List.mem_append_right _ (List.mem_append_right _ (List.mem_append_left _ (List.mem_of_getElem? (l := tables_1_3) (i := 21) rfl))))) rfl
theorem wd_502 : ((Jvm.Cond.constant "EditGuess$Fitting" (79 : Nat) (1000000 : Int32)) : Cond) ∈ zG := zgm (List.mem_append_right _ (List.mem_append_right _ (List.mem_append_right _ (List.mem_append_left _ (List.mem_of_getElem? (l := tables_1_3) (i := 22) rfl))))) rfl
theorem wd_503 : ((Jvm.Cond.methodLink "EditGuess$Fitting" (80 : Nat) ({ cls := "EditGuess$Moves", name := "price", desc := "(I)I" } : Jvm.MethodName)) : Cond) ∈ zG := zgm (List.mem_append_right _ (List.mem_append_right _ (List.mem_append_right _ (List.mem_append_left _ (List.mem_of_getElem? (l := tables_1_3) (i := 23) rfl))))) rfl
theorem wd_504 : ((Jvm.Cond.instanceMethod ({ cls := "EditGuess$Moves", name := "price", desc := "(I)I" } : Jvm.MethodName)) : Cond) ∈ zG := zgm (List.mem_append_right _ (List.mem_append_right _ (List.mem_append_right _ (List.mem_append_left _ (List.mem_of_getElem? (l := tables_1_3) (i := 24) rfl))))) rfl
theorem wd_505 : ((Jvm.Cond.selects "EditGuess$Moves" ({ cls := "EditGuess$Moves", name := "price", desc := "(I)I" } : Jvm.MethodName) ({ cls := "EditGuess$Moves", name := "price", desc := "(I)I" } : Jvm.MethodName)) : Cond) ∈ zG := zgm (List.mem_append_right _ (List.mem_append_right _ (List.mem_append_right _ (List.mem_append_left _ (List.mem_of_getElem? (l := tables_1_3) (i := 25) rfl))))) rfl
theorem wd_506 : ((Jvm.Cond.code ({ cls := "EditGuess$Moves", name := "price", desc := "(I)I" } : Jvm.MethodName) prog_5_method_7_code (2 : Nat) (Option.some Jvm.ClassFile.FieldType.int)) : Cond) ∈ zG := zgm (List.mem_append_right _ (List.mem_append_right _ (List.mem_append_right _ (List.mem_append_left _ (List.mem_of_getElem? (l := tables_1_3) (i := 26) rfl))))) rfl
theorem wd_507 : ((Jvm.Cond.methodLink "EditGuess$Fitting" (83 : Nat) ({ cls := "EditGuess$Fitting", name := "leastFrom", desc := "(I)I" } : Jvm.MethodName)) : Cond) ∈ zG := zgm (List.mem_append_right _ (List.mem_append_right _ (List.mem_append_right _ (List.mem_append_left _ (List.mem_of_getElem? (l := tables_1_3) (i := 27) rfl))))) rfl
theorem wd_509 : ((Jvm.Cond.instanceMethod ({ cls := "EditGuess$Fitting", name := "leastFrom", desc := "(I)I" } : Jvm.MethodName)) : Cond) ∈ zG := zgm (List.mem_append_right _ (List.mem_append_right _ (List.mem_append_right _ (List.mem_append_left _ (List.mem_of_getElem? (l := tables_1_3) (i := 29) rfl))))) rfl
theorem wd_510 : ((Jvm.Cond.code ({ cls := "EditGuess$Fitting", name := "leastFrom", desc := "(I)I" } : Jvm.MethodName) prog_3_method_8_code (2 : Nat) (Option.some Jvm.ClassFile.FieldType.int)) : Cond) ∈ zG := zgm (List.mem_append_right _ (List.mem_append_right _ (List.mem_append_right _ (List.mem_append_left _ (List.mem_of_getElem? (l := tables_1_3) (i := 30) rfl))))) rfl
theorem wd_511 : ((Jvm.Cond.methodLink "EditGuess" (184 : Nat) ({ cls := "EditGuess$Fitting", name := "tell", desc := "(LEditGuess$Plan;)V" } : Jvm.MethodName)) : Cond) ∈ zG := zgm (List.mem_append_right _ (List.mem_append_right _ (List.mem_append_right _ (List.mem_append_left _ (List.mem_of_getElem? (l := tables_1_3) (i := 31) rfl))))) rfl
theorem wd_512 : ((Jvm.Cond.instanceMethod ({ cls := "EditGuess$Fitting", name := "tell", desc := "(LEditGuess$Plan;)V" } : Jvm.MethodName)) : Cond) ∈ zG := zgm (List.mem_append_right _ (List.mem_append_right _ (List.mem_append_right _ (List.mem_append_left _ (List.mem_of_getElem? (l := tables_1_3) (i := 32) rfl))))) rfl
theorem wd_513 : ((Jvm.Cond.selects "EditGuess$Fitting" ({ cls := "EditGuess$Fitting", name := "tell", desc := "(LEditGuess$Plan;)V" } : Jvm.MethodName) ({ cls := "EditGuess$Fitting", name := "tell", desc := "(LEditGuess$Plan;)V" } : Jvm.MethodName)) : Cond) ∈ zG := zgm (List.mem_append_right _ (List.mem_append_right _ (List.mem_append_right _ (List.mem_append_left _ (List.mem_of_getElem? (l := tables_1_3) (i := 33) rfl))))) rfl
theorem wd_514 : ((Jvm.Cond.code ({ cls := "EditGuess$Fitting", name := "tell", desc := "(LEditGuess$Plan;)V" } : Jvm.MethodName) prog_3_method_9_code (6 : Nat) (Option.none : Option Jvm.ClassFile.FieldType)) : Cond) ∈ zG := zgm (List.mem_append_right _ (List.mem_append_right _ (List.mem_append_right _ (List.mem_append_left _ (List.mem_of_getElem? (l := tables_1_3) (i := 34) rfl))))) rfl
theorem wd_515 : ((Jvm.Cond.methodLink "EditGuess$Fitting" (95 : Nat) ({ cls := "EditGuess$Fitting", name := "tellCut", desc := "(ILEditGuess$Plan;)I" } : Jvm.MethodName)) : Cond) ∈ zG := zgm (List.mem_append_right _ (List.mem_append_right _ (List.mem_append_right _ (List.mem_append_left _ (List.mem_of_getElem? (l := tables_1_3) (i := 35) rfl))))) rfl
theorem wd_517 : ((Jvm.Cond.instanceMethod ({ cls := "EditGuess$Fitting", name := "tellCut", desc := "(ILEditGuess$Plan;)I" } : Jvm.MethodName)) : Cond) ∈ zG := zgm (List.mem_append_right _ (List.mem_append_right _ (List.mem_append_right _ (List.mem_append_left _ (List.mem_of_getElem? (l := tables_1_3) (i := 37) rfl))))) rfl
theorem wd_518 : ((Jvm.Cond.code ({ cls := "EditGuess$Fitting", name := "tellCut", desc := "(ILEditGuess$Plan;)I" } : Jvm.MethodName) prog_3_method_10_code (8 : Nat) (Option.some Jvm.ClassFile.FieldType.int)) : Cond) ∈ zG := zgm (List.mem_append_right _ (List.mem_append_right _ (List.mem_append_right _ (List.mem_append_left _ (List.mem_of_getElem? (l := tables_1_3) (i := 38) rfl))))) rfl
theorem wd_519 : ((Jvm.Cond.methodLink "EditGuess$Fitting" (116 : Nat) ({ cls := "EditGuess$Plan", name := "next", desc := "()LEditGuess$Piece;" } : Jvm.MethodName)) : Cond) ∈ zG := zgm (List.mem_append_right _ (List.mem_append_right _ (List.mem_append_right _ (List.mem_append_left _ (List.mem_of_getElem? (l := tables_1_3) (i := 39) rfl))))) rfl
theorem wd_520 : ((Jvm.Cond.instanceMethod ({ cls := "EditGuess$Plan", name := "next", desc := "()LEditGuess$Piece;" } : Jvm.MethodName)) : Cond) ∈ zG := zgm (List.mem_append_right _ (List.mem_append_right _ (List.mem_append_right _ (List.mem_append_left _ (List.mem_of_getElem? (l := tables_1_3) (i := 40) rfl))))) rfl
theorem wd_521 : ((Jvm.Cond.selects "EditGuess$Plan" ({ cls := "EditGuess$Plan", name := "next", desc := "()LEditGuess$Piece;" } : Jvm.MethodName) ({ cls := "EditGuess$Plan", name := "next", desc := "()LEditGuess$Piece;" } : Jvm.MethodName)) : Cond) ∈ zG := zgm (List.mem_append_right _ (List.mem_append_right _ (List.mem_append_right _ (List.mem_append_left _ (List.mem_of_getElem? (l := tables_1_3) (i := 41) rfl))))) rfl
theorem wd_522 : ((Jvm.Cond.code ({ cls := "EditGuess$Plan", name := "next", desc := "()LEditGuess$Piece;" } : Jvm.MethodName) prog_7_method_5_code (2 : Nat) (Option.some (Jvm.ClassFile.FieldType.object "EditGuess$Piece"))) : Cond) ∈ zG := zgm (List.mem_append_right _ (List.mem_append_right _ (List.mem_append_right _ (List.mem_append_left _ (List.mem_of_getElem? (l := tables_1_3) (i := 42) rfl))))) rfl
theorem wd_523 : ((Jvm.Cond.methodLink "EditGuess$Plan" (22 : Nat) ({ cls := "EditGuess$Plan", name := "at", desc := "(I)LEditGuess$Piece;" } : Jvm.MethodName)) : Cond) ∈ zG := zgm (List.mem_append_right _ (List.mem_append_right _ (List.mem_append_right _ (List.mem_append_left _ (List.mem_of_getElem? (l := tables_1_3) (i := 43) rfl))))) rfl
theorem wd_524 : ((Jvm.Cond.instanceMethod ({ cls := "EditGuess$Plan", name := "at", desc := "(I)LEditGuess$Piece;" } : Jvm.MethodName)) : Cond) ∈ zG := zgm (List.mem_append_right _ (List.mem_append_right _ (List.mem_append_right _ (List.mem_append_left _ (List.mem_of_getElem? (l := tables_1_3) (i := 44) rfl))))) rfl
theorem wd_525 : ((Jvm.Cond.selects "EditGuess$Plan" ({ cls := "EditGuess$Plan", name := "at", desc := "(I)LEditGuess$Piece;" } : Jvm.MethodName) ({ cls := "EditGuess$Plan", name := "at", desc := "(I)LEditGuess$Piece;" } : Jvm.MethodName)) : Cond) ∈ zG := zgm (List.mem_append_right _ (List.mem_append_right _ (List.mem_append_right _ (List.mem_append_left _ (List.mem_of_getElem? (l := tables_1_3) (i := 45) rfl))))) rfl
theorem wd_526 : ((Jvm.Cond.code ({ cls := "EditGuess$Plan", name := "at", desc := "(I)LEditGuess$Piece;" } : Jvm.MethodName) prog_7_method_4_code (2 : Nat) (Option.some (Jvm.ClassFile.FieldType.object "EditGuess$Piece"))) : Cond) ∈ zG := zgm (List.mem_append_right _ (List.mem_append_right _ (List.mem_append_right _ (List.mem_append_left _ (List.mem_of_getElem? (l := tables_1_3) (i := 46) rfl))))) rfl
theorem wd_527 : ((Jvm.Cond.methodLink "EditGuess$Fitting" (122 : Nat) ({ cls := "EditGuess$Piece", name := "becomeCut", desc := "(II)V" } : Jvm.MethodName)) : Cond) ∈ zG := zgm (List.mem_append_right _ (List.mem_append_right _ (List.mem_append_right _ (List.mem_append_left _ (List.mem_of_getElem? (l := tables_1_3) (i := 47) rfl))))) rfl
theorem wd_528 : ((Jvm.Cond.instanceMethod ({ cls := "EditGuess$Piece", name := "becomeCut", desc := "(II)V" } : Jvm.MethodName)) : Cond) ∈ zG := zgm (List.mem_append_right _ (List.mem_append_right _ (List.mem_append_right _ (List.mem_append_left _ (List.mem_of_getElem? (l := tables_1_3) (i := 48) rfl))))) rfl
theorem wd_529 : ((Jvm.Cond.selects "EditGuess$Piece" ({ cls := "EditGuess$Piece", name := "becomeCut", desc := "(II)V" } : Jvm.MethodName) ({ cls := "EditGuess$Piece", name := "becomeCut", desc := "(II)V" } : Jvm.MethodName)) : Cond) ∈ zG := zgm (List.mem_append_right _ (List.mem_append_right _ (List.mem_append_right _ (List.mem_append_left _ (List.mem_of_getElem? (l := tables_1_3) (i := 49) rfl))))) rfl
theorem wd_530 : ((Jvm.Cond.code ({ cls := "EditGuess$Piece", name := "becomeCut", desc := "(II)V" } : Jvm.MethodName) prog_6_method_2_code (3 : Nat) (Option.none : Option Jvm.ClassFile.FieldType)) : Cond) ∈ zG := zgm (List.mem_append_right _ (List.mem_append_right _ (List.mem_append_right _ (List.mem_append_left _ (List.mem_of_getElem? (l := tables_1_3) (i := 50) rfl))))) rfl
theorem wd_531 : ((Jvm.Cond.methodLink "EditGuess$Fitting" (99 : Nat) ({ cls := "EditGuess$Fitting", name := "tellText", desc := "(ILEditGuess$Plan;)I" } : Jvm.MethodName)) : Cond) ∈ zG := zgm (List.mem_append_right _ (List.mem_append_right _ (List.mem_append_right _ (List.mem_append_left _ (List.mem_of_getElem? (l := tables_1_3) (i := 51) rfl))))) rfl
theorem wd_533 : ((Jvm.Cond.instanceMethod ({ cls := "EditGuess$Fitting", name := "tellText", desc := "(ILEditGuess$Plan;)I" } : Jvm.MethodName)) : Cond) ∈ zG := zgm (List.mem_append_right _ (List.mem_append_right _ (List.mem_append_right _ (List.mem_append_left _ (List.mem_of_getElem? (l := tables_1_3) (i := 53) rfl))))) rfl
theorem wd_534 : ((Jvm.Cond.code ({ cls := "EditGuess$Fitting", name := "tellText", desc := "(ILEditGuess$Plan;)I" } : Jvm.MethodName) prog_3_method_11_code (6 : Nat) (Option.some Jvm.ClassFile.FieldType.int)) : Cond) ∈ zG := zgm (List.mem_append_right _ (List.mem_append_right _ (List.mem_append_right _ (List.mem_append_left _ (List.mem_of_getElem? (l := tables_1_3) (i := 54) rfl))))) rfl
theorem wd_535 : ((Jvm.Cond.methodLink "EditGuess$Fitting" (139 : Nat) ({ cls := "EditGuess$Piece", name := "becomeText", desc := "(LEditGuess$Signs;II)V" } : Jvm.MethodName)) : Cond) ∈ zG := zgm (List.mem_append_right _ (List.mem_append_right _ (List.mem_append_right _ (List.mem_append_left _ (List.mem_of_getElem? (l := tables_1_3) (i := 55) rfl))))) rfl
theorem wd_536 : ((Jvm.Cond.instanceMethod ({ cls := "EditGuess$Piece", name := "becomeText", desc := "(LEditGuess$Signs;II)V" } : Jvm.MethodName)) : Cond) ∈ zG := zgm (List.mem_append_right _ (List.mem_append_right _ (List.mem_append_right _ (List.mem_append_left _ (List.mem_of_getElem? (l := tables_1_3) (i := 56) rfl))))) rfl
theorem wd_537 : ((Jvm.Cond.selects "EditGuess$Piece" ({ cls := "EditGuess$Piece", name := "becomeText", desc := "(LEditGuess$Signs;II)V" } : Jvm.MethodName) ({ cls := "EditGuess$Piece", name := "becomeText", desc := "(LEditGuess$Signs;II)V" } : Jvm.MethodName)) : Cond) ∈ zG := zgm (List.mem_append_right _ (List.mem_append_right _ (List.mem_append_right _ (List.mem_append_left _ (List.mem_of_getElem? (l := tables_1_3) (i := 57) rfl))))) rfl
theorem wd_538 : ((Jvm.Cond.code ({ cls := "EditGuess$Piece", name := "becomeText", desc := "(LEditGuess$Signs;II)V" } : Jvm.MethodName) prog_6_method_3_code (4 : Nat) (Option.none : Option Jvm.ClassFile.FieldType)) : Cond) ∈ zG := zgm (List.mem_append_right _ (List.mem_append_right _ (List.mem_append_right _ (List.mem_append_left _ (List.mem_of_getElem? (l := tables_1_3) (i := 58) rfl))))) rfl
theorem wd_539 : ((Jvm.Cond.methodLink "EditGuess$Piece" (31 : Nat) ({ cls := "EditGuess$Signs", name := "clear", desc := "()V" } : Jvm.MethodName)) : Cond) ∈ zG := zgm (List.mem_append_right _ (List.mem_append_right _ (List.mem_append_right _ (List.mem_append_left _ (List.mem_of_getElem? (l := tables_1_3) (i := 59) rfl))))) rfl
theorem wd_540 : ((Jvm.Cond.methodLink "EditGuess$Piece" (34 : Nat) ({ cls := "EditGuess$Signs", name := "addFrom", desc := "(LEditGuess$Signs;II)V" } : Jvm.MethodName)) : Cond) ∈ zG := zgm (List.mem_append_right _ (List.mem_append_right _ (List.mem_append_right _ (List.mem_append_left _ (List.mem_of_getElem? (l := tables_1_3) (i := 60) rfl))))) rfl
theorem wd_541 : ((Jvm.Cond.methodLink "EditGuessLaw" (48 : Nat) ({ cls := "EditGuess", name := "cost", desc := "(I)I" } : Jvm.MethodName)) : Cond) ∈ zG := zgm (List.mem_append_right _ (List.mem_append_right _ (List.mem_append_right _ (List.mem_append_left _ (List.mem_of_getElem? (l := tables_1_3) (i := 61) rfl))))) rfl
theorem wd_542 : ((Jvm.Cond.instanceMethod ({ cls := "EditGuess", name := "cost", desc := "(I)I" } : Jvm.MethodName)) : Cond) ∈ zG := zgm (List.mem_append_right _ (List.mem_append_right _ (List.mem_append_right _ (List.mem_append_left _ (List.mem_of_getElem? (l := tables_1_3) (i := 62) rfl))))) rfl
theorem wd_543 : ((Jvm.Cond.selects "EditGuess" ({ cls := "EditGuess", name := "cost", desc := "(I)I" } : Jvm.MethodName) ({ cls := "EditGuess", name := "cost", desc := "(I)I" } : Jvm.MethodName)) : Cond) ∈ zG := zgm (List.mem_append_right _ (List.mem_append_right _ (List.mem_append_right _ (List.mem_append_left _ (List.mem_of_getElem? (l := tables_1_3) (i := 63) rfl))))) rfl
theorem wd_544 : ((Jvm.Cond.code ({ cls := "EditGuess", name := "cost", desc := "(I)I" } : Jvm.MethodName) prog_1_method_10_code (2 : Nat) (Option.some Jvm.ClassFile.FieldType.int)) : Cond) ∈ zG := zgm (List.mem_append_right _ (List.mem_append_right _ (List.mem_append_right _ (List.mem_append_left _ (List.mem_of_getElem? (l := tables_1_3) (i := 64) rfl))))) rfl
theorem wd_545 : ((Jvm.Cond.methodLink "EditGuess" (113 : Nat) ({ cls := "EditGuess$Plan", name := "many", desc := "()I" } : Jvm.MethodName)) : Cond) ∈ zG := zgm (List.mem_append_right _ (List.mem_append_right _ (List.mem_append_right _ (List.mem_append_left _ (List.mem_of_getElem? (l := tables_1_3) (i := 65) rfl))))) rfl
theorem wd_546 : ((Jvm.Cond.instanceMethod ({ cls := "EditGuess$Plan", name := "many", desc := "()I" } : Jvm.MethodName)) : Cond) ∈ zG := zgm (List.mem_append_right _ (List.mem_append_right _ (List.mem_append_right _ (List.mem_append_left _ (List.mem_of_getElem? (l := tables_1_3) (i := 66) rfl))))) rfl
theorem wd_547 : ((Jvm.Cond.selects "EditGuess$Plan" ({ cls := "EditGuess$Plan", name := "many", desc := "()I" } : Jvm.MethodName) ({ cls := "EditGuess$Plan", name := "many", desc := "()I" } : Jvm.MethodName)) : Cond) ∈ zG := zgm (List.mem_append_right _ (List.mem_append_right _ (List.mem_append_right _ (List.mem_append_left _ (List.mem_of_getElem? (l := tables_1_3) (i := 67) rfl))))) rfl
theorem wd_548 : ((Jvm.Cond.code ({ cls := "EditGuess$Plan", name := "many", desc := "()I" } : Jvm.MethodName) prog_7_method_2_code (1 : Nat) (Option.some Jvm.ClassFile.FieldType.int)) : Cond) ∈ zG := zgm (List.mem_append_right _ (List.mem_append_right _ (List.mem_append_right _ (List.mem_append_left _ (List.mem_of_getElem? (l := tables_1_3) (i := 68) rfl))))) rfl
theorem wd_549 : ((Jvm.Cond.methodLink "EditGuess" (114 : Nat) ({ cls := "EditGuess$Plan", name := "price", desc := "()I" } : Jvm.MethodName)) : Cond) ∈ zG := zgm (List.mem_append_right _ (List.mem_append_right _ (List.mem_append_right _ (List.mem_append_left _ (List.mem_of_getElem? (l := tables_1_3) (i := 69) rfl))))) rfl
theorem wd_550 : ((Jvm.Cond.instanceMethod ({ cls := "EditGuess$Plan", name := "price", desc := "()I" } : Jvm.MethodName)) : Cond) ∈ zG := zgm (List.mem_append_right _ (List.mem_append_right _ (List.mem_append_right _ (List.mem_append_left _ (List.mem_of_getElem? (l := tables_1_3) (i := 70) rfl))))) rfl
theorem wd_551 : ((Jvm.Cond.selects "EditGuess$Plan" ({ cls := "EditGuess$Plan", name := "price", desc := "()I" } : Jvm.MethodName) ({ cls := "EditGuess$Plan", name := "price", desc := "()I" } : Jvm.MethodName)) : Cond) ∈ zG := zgm (List.mem_append_right _ (List.mem_append_right _ (List.mem_append_right _ (List.mem_append_left _ (List.mem_of_getElem? (l := tables_1_3) (i := 71) rfl))))) rfl
theorem wd_552 : ((Jvm.Cond.code ({ cls := "EditGuess$Plan", name := "price", desc := "()I" } : Jvm.MethodName) prog_7_method_6_code (3 : Nat) (Option.some Jvm.ClassFile.FieldType.int)) : Cond) ∈ zG := zgm (List.mem_append_right _ (List.mem_append_right _ (List.mem_append_right _ (List.mem_append_left _ (List.mem_of_getElem? (l := tables_1_3) (i := 72) rfl))))) rfl
theorem wd_553 : ((Jvm.Cond.methodLink "EditGuess$Plan" (26 : Nat) ({ cls := "EditGuess$Piece", name := "price", desc := "()I" } : Jvm.MethodName)) : Cond) ∈ zG := zgm (List.mem_append_right _ (List.mem_append_right _ (List.mem_append_right _ (List.mem_append_left _ (List.mem_of_getElem? (l := tables_1_3) (i := 73) rfl))))) rfl
theorem wd_554 : ((Jvm.Cond.instanceMethod ({ cls := "EditGuess$Piece", name := "price", desc := "()I" } : Jvm.MethodName)) : Cond) ∈ zG := zgm (List.mem_append_right _ (List.mem_append_right _ (List.mem_append_right _ (List.mem_append_left _ (List.mem_of_getElem? (l := tables_1_3) (i := 74) rfl))))) rfl
theorem wd_555 : ((Jvm.Cond.selects "EditGuess$Piece" ({ cls := "EditGuess$Piece", name := "price", desc := "()I" } : Jvm.MethodName) ({ cls := "EditGuess$Piece", name := "price", desc := "()I" } : Jvm.MethodName)) : Cond) ∈ zG := zgm (List.mem_append_right _ (List.mem_append_right _ (List.mem_append_right _ (List.mem_append_left _ (List.mem_of_getElem? (l := tables_1_3) (i := 75) rfl))))) rfl
theorem wd_556 : ((Jvm.Cond.code ({ cls := "EditGuess$Piece", name := "price", desc := "()I" } : Jvm.MethodName) prog_6_method_4_code (1 : Nat) (Option.some Jvm.ClassFile.FieldType.int)) : Cond) ∈ zG := zgm (List.mem_append_right _ (List.mem_append_right _ (List.mem_append_right _ (List.mem_append_left _ (List.mem_of_getElem? (l := tables_1_3) (i := 76) rfl))))) rfl
theorem wd_557 : ((Jvm.Cond.methodLink "EditGuess$Piece" (38 : Nat) ({ cls := "EditGuess$Signs", name := "many", desc := "()I" } : Jvm.MethodName)) : Cond) ∈ zG := zgm (List.mem_append_right _ (List.mem_append_right _ (List.mem_append_right _ (List.mem_append_left _ (List.mem_of_getElem? (l := tables_1_3) (i := 77) rfl))))) rfl
theorem wd_558 : ((Jvm.Cond.methodLink "EditGuess$Piece" (42 : Nat) ({ cls := "EditGuess$Piece", name := "textPrice", desc := "(I)I" } : Jvm.MethodName)) : Cond) ∈ zG := zgm (List.mem_append_right _ (List.mem_append_right _ (List.mem_append_right _ (List.mem_append_left _ (List.mem_of_getElem? (l := tables_1_3) (i := 78) rfl))))) rfl
theorem wd_559 : ((Jvm.Cond.methodLink "EditGuess$Piece" (46 : Nat) ({ cls := "EditGuess$Marks", name := "price", desc := "(I)I" } : Jvm.MethodName)) : Cond) ∈ zG := zgm (List.mem_append_right _ (List.mem_append_right _ (List.mem_append_right _ (List.mem_append_left _ (List.mem_of_getElem? (l := tables_1_3) (i := 79) rfl))))) rfl
theorem wd_560 : ((Jvm.Cond.methodLink "EditGuess$Piece" (51 : Nat) ({ cls := "EditGuess$Piece", name := "cutPrice", desc := "(II)I" } : Jvm.MethodName)) : Cond) ∈ zG := zgm (List.mem_append_right _ (List.mem_append_right _ (List.mem_append_right _ (List.mem_append_left _ (List.mem_of_getElem? (l := tables_1_3) (i := 80) rfl))))) rfl
theorem wd_561 : ((Jvm.Cond.methodLink "EditGuess" (117 : Nat) ({ cls := "EditGuess$Plan", name := "at", desc := "(I)LEditGuess$Piece;" } : Jvm.MethodName)) : Cond) ∈ zG := zgm (List.mem_append_right _ (List.mem_append_right _ (List.mem_append_right _ (List.mem_append_left _ (List.mem_of_getElem? (l := tables_1_3) (i := 81) rfl))))) rfl
theorem wd_562 : ((Jvm.Cond.methodLink "EditGuess" (121 : Nat) ({ cls := "EditGuess$Piece", name := "price", desc := "()I" } : Jvm.MethodName)) : Cond) ∈ zG := zgm (List.mem_append_right _ (List.mem_append_right _ (List.mem_append_right _ (List.mem_append_left _ (List.mem_of_getElem? (l := tables_1_3) (i := 82) rfl))))) rfl
theorem wd_563 : ((Jvm.Cond.methodLink "EditGuessLaw" (52 : Nat) ({ cls := "EditGuess", name := "piece", desc := "(II)I" } : Jvm.MethodName)) : Cond) ∈ zG := zgm (List.mem_append_right _ (List.mem_append_right _ (List.mem_append_right _ (List.mem_append_left _ (List.mem_of_getElem? (l := tables_1_3) (i := 83) rfl))))) rfl
theorem wd_564 : ((Jvm.Cond.instanceMethod ({ cls := "EditGuess", name := "piece", desc := "(II)I" } : Jvm.MethodName)) : Cond) ∈ zG := zgm (List.mem_append_right _ (List.mem_append_right _ (List.mem_append_right _ (List.mem_append_left _ (List.mem_of_getElem? (l := tables_1_3) (i := 84) rfl))))) rfl
theorem wd_565 : ((Jvm.Cond.selects "EditGuess" ({ cls := "EditGuess", name := "piece", desc := "(II)I" } : Jvm.MethodName) ({ cls := "EditGuess", name := "piece", desc := "(II)I" } : Jvm.MethodName)) : Cond) ∈ zG := zgm (List.mem_append_right _ (List.mem_append_right _ (List.mem_append_right _ (List.mem_append_left _ (List.mem_of_getElem? (l := tables_1_3) (i := 85) rfl))))) rfl
theorem wd_566 : ((Jvm.Cond.code ({ cls := "EditGuess", name := "piece", desc := "(II)I" } : Jvm.MethodName) prog_1_method_11_code (3 : Nat) (Option.some Jvm.ClassFile.FieldType.int)) : Cond) ∈ zG := zgm (List.mem_append_right _ (List.mem_append_right _ (List.mem_append_right _ (List.mem_append_left _ (List.mem_of_getElem? (l := tables_1_3) (i := 86) rfl))))) rfl
theorem wd_567 : ((Jvm.Cond.methodLink "EditGuess" (124 : Nat) ({ cls := "EditGuess$Piece", name := "tells", desc := "(I)I" } : Jvm.MethodName)) : Cond) ∈ zG := zgm (List.mem_append_right _ (List.mem_append_right _ (List.mem_append_right _ (List.mem_append_left _ (List.mem_of_getElem? (l := tables_1_3) (i := 87) rfl))))) rfl
theorem wd_568 : ((Jvm.Cond.instanceMethod ({ cls := "EditGuess$Piece", name := "tells", desc := "(I)I" } : Jvm.MethodName)) : Cond) ∈ zG := zgm (List.mem_append_right _ (List.mem_append_right _ (List.mem_append_right _ (List.mem_append_left _ (List.mem_of_getElem? (l := tables_1_3) (i := 88) rfl))))) rfl
theorem wd_569 : ((Jvm.Cond.selects "EditGuess$Piece" ({ cls := "EditGuess$Piece", name := "tells", desc := "(I)I" } : Jvm.MethodName) ({ cls := "EditGuess$Piece", name := "tells", desc := "(I)I" } : Jvm.MethodName)) : Cond) ∈ zG := zgm (List.mem_append_right _ (List.mem_append_right _ (List.mem_append_right _ (List.mem_append_left _ (List.mem_of_getElem? (l := tables_1_3) (i := 89) rfl))))) rfl
theorem wd_570 : ((Jvm.Cond.code ({ cls := "EditGuess$Piece", name := "tells", desc := "(I)I" } : Jvm.MethodName) prog_6_method_7_code (2 : Nat) (Option.some Jvm.ClassFile.FieldType.int)) : Cond) ∈ zG := zgm (List.mem_append_right _ (List.mem_append_right _ (List.mem_append_right _ (List.mem_append_left _ (List.mem_of_getElem? (l := tables_1_3) (i := 90) rfl))))) rfl
theorem wd_571 : ((Jvm.Cond.methodLink "EditGuess$Piece" (55 : Nat) ({ cls := "EditGuess$Signs", name := "at", desc := "(I)I" } : Jvm.MethodName)) : Cond) ∈ zG := zgm (List.mem_append_right _ (List.mem_append_right _ (List.mem_append_right _ (List.mem_append_left _ (List.mem_of_getElem? (l := tables_1_3) (i := 91) rfl))))) rfl
theorem wd_572 : ((Jvm.Cond.methodLink "EditGuess$Piece" (58 : Nat) ({ cls := "EditGuess$Marks", name := "code", desc := "(I)I" } : Jvm.MethodName)) : Cond) ∈ zG := zgm (List.mem_append_right _ (List.mem_append_right _ (List.mem_append_right _ (List.mem_append_left _ (List.mem_of_getElem? (l := tables_1_3) (i := 92) rfl))))) rfl
theorem wd_573 : ((Jvm.Cond.static ({ cls := "EditGuess$Marks", name := "code", desc := "(I)I" } : Jvm.MethodName)) : Cond) ∈ zG := zgm (List.mem_append_right _ (List.mem_append_right _ (List.mem_append_right _ (List.mem_append_left _ (List.mem_of_getElem? (l := tables_1_3) (i := 93) rfl))))) rfl
theorem wd_574 : ((Jvm.Cond.code ({ cls := "EditGuess$Marks", name := "code", desc := "(I)I" } : Jvm.MethodName) prog_4_method_4_code (2 : Nat) (Option.some Jvm.ClassFile.FieldType.int)) : Cond) ∈ zG := zgm (List.mem_append_right _ (List.mem_append_right _ (List.mem_append_right _ (List.mem_append_left _ (List.mem_of_getElem? (l := tables_1_3) (i := 94) rfl))))) rfl
theorem wd_575 : ((Jvm.Cond.methodLink "EditGuessLaw" (57 : Nat) ({ cls := "EditGuess", name := "place", desc := "(I)I" } : Jvm.MethodName)) : Cond) ∈ zG := zgm (List.mem_append_right _ (List.mem_append_right _ (List.mem_append_right _ (List.mem_append_left _ (List.mem_of_getElem? (l := tables_1_3) (i := 95) rfl))))) rfl
theorem wd_576 : ((Jvm.Cond.instanceMethod ({ cls := "EditGuess", name := "place", desc := "(I)I" } : Jvm.MethodName)) : Cond) ∈ zG := zgm (List.mem_append_right _ (List.mem_append_right _ (List.mem_append_right _ (List.mem_append_left _ (List.mem_of_getElem? (l := tables_1_3) (i := 96) rfl))))) rfl
theorem wd_577 : ((Jvm.Cond.selects "EditGuess" ({ cls := "EditGuess", name := "place", desc := "(I)I" } : Jvm.MethodName) ({ cls := "EditGuess", name := "place", desc := "(I)I" } : Jvm.MethodName)) : Cond) ∈ zG := zgm (List.mem_append_right _ (List.mem_append_right _ (List.mem_append_right _ (List.mem_append_left _ (List.mem_of_getElem? (l := tables_1_3) (i := 97) rfl))))) rfl
theorem wd_578 : ((Jvm.Cond.code ({ cls := "EditGuess", name := "place", desc := "(I)I" } : Jvm.MethodName) prog_1_method_12_code (3 : Nat) (Option.some Jvm.ClassFile.FieldType.int)) : Cond) ∈ zG := zgm (List.mem_append_right _ (List.mem_append_right _ (List.mem_append_right _ (List.mem_append_left _ (List.mem_of_getElem? (l := tables_1_3) (i := 98) rfl))))) rfl
theorem wd_579 : ((Jvm.Cond.methodLink "EditGuess" (128 : Nat) ({ cls := "EditGuess$Marks", name := "index", desc := "(I)I" } : Jvm.MethodName)) : Cond) ∈ zG := zgm (List.mem_append_right _ (List.mem_append_right _ (List.mem_append_right _ (List.mem_append_left _ (List.mem_of_getElem? (l := tables_1_3) (i := 99) rfl))))) rfl
theorem wd_580 : ((Jvm.Cond.static ({ cls := "EditGuess$Marks", name := "index", desc := "(I)I" } : Jvm.MethodName)) : Cond) ∈ zG := zgm (List.mem_append_right _ (List.mem_append_right _ (List.mem_append_right _ (List.mem_append_left _ (List.mem_of_getElem? (l := tables_1_3) (i := 100) rfl))))) rfl
theorem wd_581 : ((Jvm.Cond.code ({ cls := "EditGuess$Marks", name := "index", desc := "(I)I" } : Jvm.MethodName) prog_4_method_2_code (1 : Nat) (Option.some Jvm.ClassFile.FieldType.int)) : Cond) ∈ zG := zgm (List.mem_append_right _ (List.mem_append_right _ (List.mem_append_right _ (List.mem_append_left _ (List.mem_of_getElem? (l := tables_1_3) (i := 101) rfl))))) rfl
theorem wd_582 : ((Jvm.Cond.methodLink "EditGuess$Marks" (11 : Nat) ({ cls := "EditGuess$Marks", name := "runIndex", desc := "(II)I" } : Jvm.MethodName)) : Cond) ∈ zG := zgm (List.mem_append_right _ (List.mem_append_right _ (List.mem_append_right _ (List.mem_append_left _ (List.mem_of_getElem? (l := tables_1_3) (i := 102) rfl))))) rfl
theorem wd_583 : ((Jvm.Cond.static ({ cls := "EditGuess$Marks", name := "runIndex", desc := "(II)I" } : Jvm.MethodName)) : Cond) ∈ zG := zgm (List.mem_append_right _ (List.mem_append_right _ (List.mem_append_right _ (List.mem_append_left _ (List.mem_of_getElem? (l := tables_1_3) (i := 103) rfl))))) rfl
theorem wd_584 : ((Jvm.Cond.code ({ cls := "EditGuess$Marks", name := "runIndex", desc := "(II)I" } : Jvm.MethodName) prog_4_method_3_code (4 : Nat) (Option.some Jvm.ClassFile.FieldType.int)) : Cond) ∈ zG := zgm (List.mem_append_right _ (List.mem_append_right _ (List.mem_append_right _ (List.mem_append_left _ (List.mem_of_getElem? (l := tables_1_3) (i := 104) rfl))))) rfl
theorem wd_585 : ((Jvm.Cond.methodLink "EditGuess" (133 : Nat) ({ cls := "EditGuess$Marks", name := "placeIn", desc := "(LEditGuess$Signs;I)I" } : Jvm.MethodName)) : Cond) ∈ zG := zgm (List.mem_append_right _ (List.mem_append_right _ (List.mem_append_right _ (List.mem_append_left _ (List.mem_of_getElem? (l := tables_1_3) (i := 105) rfl))))) rfl
theorem wd_586 : ((Jvm.Cond.methodLink "EditGuessLaw" (61 : Nat) ({ cls := "EditGuess", name := "makes", desc := "(I)I" } : Jvm.MethodName)) : Cond) ∈ zG := zgm (List.mem_append_right _ (List.mem_append_right _ (List.mem_append_right _ (List.mem_append_left _ (List.mem_of_getElem? (l := tables_1_3) (i := 106) rfl))))) rfl
theorem wd_587 : ((Jvm.Cond.instanceMethod ({ cls := "EditGuess", name := "makes", desc := "(I)I" } : Jvm.MethodName)) : Cond) ∈ zG := zgm (List.mem_append_right _ (List.mem_append_right _ (List.mem_append_right _ (List.mem_append_left _ (List.mem_of_getElem? (l := tables_1_3) (i := 107) rfl))))) rfl
theorem wd_588 : ((Jvm.Cond.selects "EditGuess" ({ cls := "EditGuess", name := "makes", desc := "(I)I" } : Jvm.MethodName) ({ cls := "EditGuess", name := "makes", desc := "(I)I" } : Jvm.MethodName)) : Cond) ∈ zG := zgm (List.mem_append_right _ (List.mem_append_right _ (List.mem_append_right _ (List.mem_append_left _ (List.mem_of_getElem? (l := tables_1_3) (i := 108) rfl))))) rfl
theorem wd_589 : ((Jvm.Cond.code ({ cls := "EditGuess", name := "makes", desc := "(I)I" } : Jvm.MethodName) prog_1_method_13_code (2 : Nat) (Option.some Jvm.ClassFile.FieldType.int)) : Cond) ∈ zG := zgm (List.mem_append_right _ (List.mem_append_right _ (List.mem_append_right _ (List.mem_append_left _ (List.mem_of_getElem? (l := tables_1_3) (i := 109) rfl))))) rfl
theorem wd_590 : ((Jvm.Cond.methodLink "EditGuess" (137 : Nat) ({ cls := "EditGuess$Plan", name := "applyTo", desc := "(LEditGuess$Signs;LEditGuess$Signs;)V" } : Jvm.MethodName)) : Cond) ∈ zG := zgm (List.mem_append_right _ (List.mem_append_right _ (List.mem_append_right _ (List.mem_append_left _ (List.mem_of_getElem? (l := tables_1_3) (i := 110) rfl))))) rfl
theorem wd_591 : ((Jvm.Cond.instanceMethod ({ cls := "EditGuess$Plan", name := "applyTo", desc := "(LEditGuess$Signs;LEditGuess$Signs;)V" } : Jvm.MethodName)) : Cond) ∈ zG := zgm (List.mem_append_right _ (List.mem_append_right _ (List.mem_append_right _ (List.mem_append_left _ (List.mem_of_getElem? (l := tables_1_3) (i := 111) rfl))))) rfl
theorem wd_592 : ((Jvm.Cond.selects "EditGuess$Plan" ({ cls := "EditGuess$Plan", name := "applyTo", desc := "(LEditGuess$Signs;LEditGuess$Signs;)V" } : Jvm.MethodName) ({ cls := "EditGuess$Plan", name := "applyTo", desc := "(LEditGuess$Signs;LEditGuess$Signs;)V" } : Jvm.MethodName)) : Cond) ∈ zG := zgm (List.mem_append_right _ (List.mem_append_right _ (List.mem_append_right _ (List.mem_append_left _ (List.mem_of_getElem? (l := tables_1_3) (i := 112) rfl))))) rfl
theorem wd_593 : ((Jvm.Cond.code ({ cls := "EditGuess$Plan", name := "applyTo", desc := "(LEditGuess$Signs;LEditGuess$Signs;)V" } : Jvm.MethodName) prog_7_method_7_code (4 : Nat) (Option.none : Option Jvm.ClassFile.FieldType)) : Cond) ∈ zG := zgm (List.mem_append_right _ (List.mem_append_right _ (List.mem_append_right _ (List.mem_append_left _ (List.mem_of_getElem? (l := tables_1_3) (i := 113) rfl))))) rfl
theorem wd_594 : ((Jvm.Cond.methodLink "EditGuess$Plan" (30 : Nat) ({ cls := "EditGuess$Signs", name := "clear", desc := "()V" } : Jvm.MethodName)) : Cond) ∈ zG := zgm (List.mem_append_right _ (List.mem_append_right _ (List.mem_append_right _ (List.mem_append_left _ (List.mem_of_getElem? (l := tables_1_3) (i := 114) rfl))))) rfl
theorem wd_595 : ((Jvm.Cond.methodLink "EditGuess$Plan" (35 : Nat) ({ cls := "EditGuess$Piece", name := "addTo", desc := "(LEditGuess$Signs;LEditGuess$Signs;)Z" } : Jvm.MethodName)) : Cond) ∈ zG := zgm (List.mem_append_right _ (List.mem_append_right _ (List.mem_append_right _ (List.mem_append_left _ (List.mem_of_getElem? (l := tables_1_3) (i := 115) rfl))))) rfl
theorem wd_596 : ((Jvm.Cond.instanceMethod ({ cls := "EditGuess$Piece", name := "addTo", desc := "(LEditGuess$Signs;LEditGuess$Signs;)Z" } : Jvm.MethodName)) : Cond) ∈ zG := zgm (List.mem_append_right _ (List.mem_append_right _ (List.mem_append_right _ (List.mem_append_left _ (List.mem_of_getElem? (l := tables_1_3) (i := 116) rfl))))) rfl
theorem wd_597 : ((Jvm.Cond.selects "EditGuess$Piece" ({ cls := "EditGuess$Piece", name := "addTo", desc := "(LEditGuess$Signs;LEditGuess$Signs;)Z" } : Jvm.MethodName) ({ cls := "EditGuess$Piece", name := "addTo", desc := "(LEditGuess$Signs;LEditGuess$Signs;)Z" } : Jvm.MethodName)) : Cond) ∈ zG := zgm (List.mem_append_right _ (List.mem_append_right _ (List.mem_append_right _ (List.mem_append_left _ (List.mem_of_getElem? (l := tables_1_3) (i := 117) rfl))))) rfl
theorem wd_598 : ((Jvm.Cond.code ({ cls := "EditGuess$Piece", name := "addTo", desc := "(LEditGuess$Signs;LEditGuess$Signs;)Z" } : Jvm.MethodName) prog_6_method_8_code (5 : Nat) (Option.some Jvm.ClassFile.FieldType.boolean)) : Cond) ∈ zG := zgm (List.mem_append_right _ (List.mem_append_right _ (List.mem_append_right _ (List.mem_append_left _ (List.mem_of_getElem? (l := tables_1_3) (i := 118) rfl))))) rfl
theorem wd_599 : ((Jvm.Cond.methodLink "EditGuess$Piece" (61 : Nat) ({ cls := "EditGuess$Marks", name := "placeIn", desc := "(LEditGuess$Signs;I)I" } : Jvm.MethodName)) : Cond) ∈ zG := zgm (List.mem_append_right _ (List.mem_append_right _ (List.mem_append_right _ (List.mem_append_left _ (List.mem_of_getElem? (l := tables_1_3) (i := 119) rfl))))) rfl
theorem wd_600 : ((Jvm.Cond.methodLink "EditGuessLaw" (65 : Nat) ({ cls := "EditGuess", name := "accept", desc := "(I)I" } : Jvm.MethodName)) : Cond) ∈ zG := zgm (List.mem_append_right _ (List.mem_append_right _ (List.mem_append_right _ (List.mem_append_left _ (List.mem_of_getElem? (l := tables_1_3) (i := 120) rfl))))) rfl
theorem wd_601 : ((Jvm.Cond.instanceMethod ({ cls := "EditGuess", name := "accept", desc := "(I)I" } : Jvm.MethodName)) : Cond) ∈ zG := zgm (List.mem_append_right _ (List.mem_append_right _ (List.mem_append_right _ (List.mem_append_left _ (List.mem_of_getElem? (l := tables_1_3) (i := 121) rfl))))) rfl
theorem wd_602 : ((Jvm.Cond.selects "EditGuess" ({ cls := "EditGuess", name := "accept", desc := "(I)I" } : Jvm.MethodName) ({ cls := "EditGuess", name := "accept", desc := "(I)I" } : Jvm.MethodName)) : Cond) ∈ zG := zgm (List.mem_append_right _ (List.mem_append_right _ (List.mem_append_right _ (List.mem_append_left _ (List.mem_of_getElem? (l := tables_1_3) (i := 122) rfl))))) rfl
theorem wd_603 : ((Jvm.Cond.code ({ cls := "EditGuess", name := "accept", desc := "(I)I" } : Jvm.MethodName) prog_1_method_14_code (3 : Nat) (Option.some Jvm.ClassFile.FieldType.int)) : Cond) ∈ zG := zgm (List.mem_append_right _ (List.mem_append_right _ (List.mem_append_right _ (List.mem_append_left _ (List.mem_of_getElem? (l := tables_1_3) (i := 123) rfl))))) rfl
theorem wd_604 : ((Jvm.Cond.methodLink "EditGuess" (143 : Nat) ({ cls := "EditGuess", name := "makesResult", desc := "(I)Z" } : Jvm.MethodName)) : Cond) ∈ zG := zgm (List.mem_append_right _ (List.mem_append_right _ (List.mem_append_right _ (List.mem_append_left _ (List.mem_of_getElem? (l := tables_1_3) (i := 124) rfl))))) rfl
theorem wd_606 : ((Jvm.Cond.instanceMethod ({ cls := "EditGuess", name := "makesResult", desc := "(I)Z" } : Jvm.MethodName)) : Cond) ∈ zG := zgm (List.mem_append_right _ (List.mem_append_right _ (List.mem_append_right _ (List.mem_append_left _ (List.mem_of_getElem? (l := tables_1_3) (i := 126) rfl))))) rfl
theorem wd_607 : ((Jvm.Cond.code ({ cls := "EditGuess", name := "makesResult", desc := "(I)Z" } : Jvm.MethodName) prog_1_method_25_code (2 : Nat) (Option.some Jvm.ClassFile.FieldType.boolean)) : Cond) ∈ zG := zgm (List.mem_append_right _ (List.mem_append_right _ (List.mem_append_right _ (List.mem_append_left _ (List.mem_of_getElem? (l := tables_1_3) (i := 127) rfl))))) rfl
theorem wd_608 : ((Jvm.Cond.methodLink "EditGuess" (146 : Nat) ({ cls := "EditGuess$Book", name := "line", desc := "(I)LEditGuess$Signs;" } : Jvm.MethodName)) : Cond) ∈ zG := zgm (List.mem_append_right _ (List.mem_append_right _ (List.mem_append_right _ (List.mem_append_left _ (List.mem_of_getElem? (l := tables_1_3) (i := 128) rfl))))) rfl
theorem wd_609 : ((Jvm.Cond.instanceMethod ({ cls := "EditGuess$Book", name := "line", desc := "(I)LEditGuess$Signs;" } : Jvm.MethodName)) : Cond) ∈ zG := zgm (List.mem_append_right _ (List.mem_append_right _ (List.mem_append_right _ (List.mem_append_left _ (List.mem_of_getElem? (l := tables_1_3) (i := 129) rfl))))) rfl
theorem wd_610 : ((Jvm.Cond.selects "EditGuess$Book" ({ cls := "EditGuess$Book", name := "line", desc := "(I)LEditGuess$Signs;" } : Jvm.MethodName) ({ cls := "EditGuess$Book", name := "line", desc := "(I)LEditGuess$Signs;" } : Jvm.MethodName)) : Cond) ∈ zG := zgm (List.mem_append_right _ (List.mem_append_right _ (List.mem_append_right _ (List.mem_append_left _ (List.mem_of_getElem? (l := tables_1_3) (i := 130) rfl))))) rfl
theorem wd_611 : ((Jvm.Cond.code ({ cls := "EditGuess$Book", name := "line", desc := "(I)LEditGuess$Signs;" } : Jvm.MethodName) prog_2_method_7_code (2 : Nat) (Option.some (Jvm.ClassFile.FieldType.object "EditGuess$Signs"))) : Cond) ∈ zG := zgm (List.mem_append_right _ (List.mem_append_right _ (List.mem_append_right _ (List.mem_append_left _ (List.mem_of_getElem? (l := tables_1_3) (i := 131) rfl))))) rfl
theorem wd_612 : ((Jvm.Cond.methodLink "EditGuessLaw" (69 : Nat) ({ cls := "EditGuess", name := "agreeing", desc := "(I)J" } : Jvm.MethodName)) : Cond) ∈ zG := zgm (List.mem_append_right _ (List.mem_append_right _ (List.mem_append_right _ (List.mem_append_left _ (List.mem_of_getElem? (l := tables_1_3) (i := 132) rfl))))) rfl
theorem wd_613 : ((Jvm.Cond.instanceMethod ({ cls := "EditGuess", name := "agreeing", desc := "(I)J" } : Jvm.MethodName)) : Cond) ∈ zG := zgm (List.mem_append_right _ (List.mem_append_right _ (List.mem_append_right _ (List.mem_append_left _ (List.mem_of_getElem? (l := tables_1_3) (i := 133) rfl))))) rfl
theorem wd_614 : ((Jvm.Cond.selects "EditGuess" ({ cls := "EditGuess", name := "agreeing", desc := "(I)J" } : Jvm.MethodName) ({ cls := "EditGuess", name := "agreeing", desc := "(I)J" } : Jvm.MethodName)) : Cond) ∈ zG := zgm (List.mem_append_right _ (List.mem_append_right _ (List.mem_append_right _ (List.mem_append_left _ (List.mem_of_getElem? (l := tables_1_3) (i := 134) rfl))))) rfl
theorem wd_615 : ((Jvm.Cond.code ({ cls := "EditGuess", name := "agreeing", desc := "(I)J" } : Jvm.MethodName) prog_1_method_15_code (2 : Nat) (Option.some Jvm.ClassFile.FieldType.long)) : Cond) ∈ zG := zgm (List.mem_append_right _ (List.mem_append_right _ (List.mem_append_right _ (List.mem_append_left _ (List.mem_of_getElem? (l := tables_1_3) (i := 135) rfl))))) rfl
theorem wd_616 : ((Jvm.Cond.methodLink "EditGuess" (152 : Nat) ({ cls := "EditGuess", name := "countAgreeing", desc := "(I)J" } : Jvm.MethodName)) : Cond) ∈ zG := zgm (List.mem_append_right _ (List.mem_append_right _ (List.mem_append_right _ (List.mem_append_left _ (List.mem_of_getElem? (l := tables_1_3) (i := 136) rfl))))) rfl
theorem wd_618 : ((Jvm.Cond.instanceMethod ({ cls := "EditGuess", name := "countAgreeing", desc := "(I)J" } : Jvm.MethodName)) : Cond) ∈ zG := zgm (List.mem_append_right _ (List.mem_append_right _ (List.mem_append_right _ (List.mem_append_left _ (List.mem_of_getElem? (l := tables_1_3) (i := 138) rfl))))) rfl
theorem wd_619 : ((Jvm.Cond.code ({ cls := "EditGuess", name := "countAgreeing", desc := "(I)J" } : Jvm.MethodName) prog_1_method_26_code (2 : Nat) (Option.some Jvm.ClassFile.FieldType.long)) : Cond) ∈ zG := zgm (List.mem_append_right _ (List.mem_append_right _ (List.mem_append_right _ (List.mem_append_left _ (List.mem_of_getElem? (l := tables_1_3) (i := 139) rfl))))) rfl
theorem wd_620 : ((Jvm.Cond.methodLink "EditGuess" (188 : Nat) ({ cls := "EditGuess$Fitting", name := "dropRow", desc := "()V" } : Jvm.MethodName)) : Cond) ∈ zG := zgm (List.mem_append_right _ (List.mem_append_right _ (List.mem_append_right _ (List.mem_append_left _ (List.mem_of_getElem? (l := tables_1_3) (i := 140) rfl))))) rfl
theorem wd_621 : ((Jvm.Cond.instanceMethod ({ cls := "EditGuess$Fitting", name := "dropRow", desc := "()V" } : Jvm.MethodName)) : Cond) ∈ zG := zgm (List.mem_append_right _ (List.mem_append_right _ (List.mem_append_right _ (List.mem_append_left _ (List.mem_of_getElem? (l := tables_1_3) (i := 141) rfl))))) rfl
theorem wd_622 : ((Jvm.Cond.selects "EditGuess$Fitting" ({ cls := "EditGuess$Fitting", name := "dropRow", desc := "()V" } : Jvm.MethodName) ({ cls := "EditGuess$Fitting", name := "dropRow", desc := "()V" } : Jvm.MethodName)) : Cond) ∈ zG := zgm (List.mem_append_right _ (List.mem_append_right _ (List.mem_append_right _ (List.mem_append_left _ (List.mem_of_getElem? (l := tables_1_3) (i := 142) rfl))))) rfl
theorem wd_623 : ((Jvm.Cond.code ({ cls := "EditGuess$Fitting", name := "dropRow", desc := "()V" } : Jvm.MethodName) prog_3_method_4_code (1 : Nat) (Option.none : Option Jvm.ClassFile.FieldType)) : Cond) ∈ zG := zgm (List.mem_append_right _ (List.mem_append_right _ (List.mem_append_right _ (List.mem_append_left _ (List.mem_of_getElem? (l := tables_1_3) (i := 143) rfl))))) rfl
theorem wd_624 : ((Jvm.Cond.constantLong "EditGuess" (156 : Nat) (-5 : Int64)) : Cond) ∈ zG := zgm (List.mem_append_right _ (List.mem_append_right _ (List.mem_append_right _ (List.mem_append_left _ (List.mem_of_getElem? (l := tables_1_3) (i := 144) rfl))))) rfl
theorem wd_625 : ((Jvm.Cond.methodLink "EditGuessLaw" (74 : Nat) ({ cls := "EditGuess", name := "asked", desc := "()I" } : Jvm.MethodName)) : Cond) ∈ zG := zgm (List.mem_append_right _ (List.mem_append_right _ (List.mem_append_right _ (List.mem_append_left _ (List.mem_of_getElem? (l := tables_1_3) (i := 145) rfl))))) rfl
theorem wd_626 : ((Jvm.Cond.instanceMethod ({ cls := "EditGuess", name := "asked", desc := "()I" } : Jvm.MethodName)) : Cond) ∈ zG := zgm (List.mem_append_right _ (List.mem_append_right _ (List.mem_append_right _ (List.mem_append_left _ (List.mem_of_getElem? (l := tables_1_3) (i := 146) rfl))))) rfl
theorem wd_627 : ((Jvm.Cond.selects "EditGuess" ({ cls := "EditGuess", name := "asked", desc := "()I" } : Jvm.MethodName) ({ cls := "EditGuess", name := "asked", desc := "()I" } : Jvm.MethodName)) : Cond) ∈ zG := zgm (List.mem_append_right _ (List.mem_append_right _ (List.mem_append_right _ (List.mem_append_left _ (List.mem_of_getElem? (l := tables_1_3) (i := 147) rfl))))) rfl
theorem wd_628 : ((Jvm.Cond.code ({ cls := "EditGuess", name := "asked", desc := "()I" } : Jvm.MethodName) prog_1_method_16_code (7 : Nat) (Option.some Jvm.ClassFile.FieldType.int)) : Cond) ∈ zG := zgm (List.mem_append_right _ (List.mem_append_right _ (List.mem_append_right _ (List.mem_append_left _ (List.mem_of_getElem? (l := tables_1_3) (i := 148) rfl))))) rfl
theorem wd_629 : ((Jvm.Cond.methodLink "EditGuessLaw" (78 : Nat) ({ cls := "EditGuess", name := "image", desc := "(I)I" } : Jvm.MethodName)) : Cond) ∈ zG := zgm (List.mem_append_right _ (List.mem_append_right _ (List.mem_append_right _ (List.mem_append_left _ (List.mem_of_getElem? (l := tables_1_3) (i := 149) rfl))))) rfl
theorem wd_630 : ((Jvm.Cond.instanceMethod ({ cls := "EditGuess", name := "image", desc := "(I)I" } : Jvm.MethodName)) : Cond) ∈ zG := zgm (List.mem_append_right _ (List.mem_append_right _ (List.mem_append_right _ (List.mem_append_left _ (List.mem_of_getElem? (l := tables_1_3) (i := 150) rfl))))) rfl
theorem wd_631 : ((Jvm.Cond.selects "EditGuess" ({ cls := "EditGuess", name := "image", desc := "(I)I" } : Jvm.MethodName) ({ cls := "EditGuess", name := "image", desc := "(I)I" } : Jvm.MethodName)) : Cond) ∈ zG := zgm (List.mem_append_right _ (List.mem_append_right _ (List.mem_append_right _ (List.mem_append_left _ (List.mem_of_getElem? (l := tables_1_3) (i := 151) rfl))))) rfl
theorem wd_632 : ((Jvm.Cond.code ({ cls := "EditGuess", name := "image", desc := "(I)I" } : Jvm.MethodName) prog_1_method_17_code (2 : Nat) (Option.some Jvm.ClassFile.FieldType.int)) : Cond) ∈ zG := zgm (List.mem_append_right _ (List.mem_append_right _ (List.mem_append_right _ (List.mem_append_left _ (List.mem_of_getElem? (l := tables_1_3) (i := 152) rfl))))) rfl
theorem wd_633 : ((Jvm.Cond.methodLink "EditGuess" (158 : Nat) ({ cls := "EditGuess$Book", name := "copy", desc := "(LEditGuess$Book;)V" } : Jvm.MethodName)) : Cond) ∈ zG := zgm (List.mem_append_right _ (List.mem_append_right _ (List.mem_append_right _ (List.mem_append_left _ (List.mem_of_getElem? (l := tables_1_3) (i := 153) rfl))))) rfl
theorem wd_634 : ((Jvm.Cond.instanceMethod ({ cls := "EditGuess$Book", name := "copy", desc := "(LEditGuess$Book;)V" } : Jvm.MethodName)) : Cond) ∈ zG := zgm (List.mem_append_right _ (List.mem_append_right _ (List.mem_append_right _ (List.mem_append_left _ (List.mem_of_getElem? (l := tables_1_3) (i := 154) rfl))))) rfl
theorem wd_635 : ((Jvm.Cond.selects "EditGuess$Book" ({ cls := "EditGuess$Book", name := "copy", desc := "(LEditGuess$Book;)V" } : Jvm.MethodName) ({ cls := "EditGuess$Book", name := "copy", desc := "(LEditGuess$Book;)V" } : Jvm.MethodName)) : Cond) ∈ zG := zgm (List.mem_append_right _ (List.mem_append_right _ (List.mem_append_right _ (List.mem_append_left _ (List.mem_of_getElem? (l := tables_1_3) (i := 155) rfl))))) rfl
theorem wd_636 : ((Jvm.Cond.code ({ cls := "EditGuess$Book", name := "copy", desc := "(LEditGuess$Book;)V" } : Jvm.MethodName) prog_2_method_12_code (3 : Nat) (Option.none : Option Jvm.ClassFile.FieldType)) : Cond) ∈ zG := zgm (List.mem_append_right _ (List.mem_append_right _ (List.mem_append_right _ (List.mem_append_left _ (List.mem_of_getElem? (l := tables_1_3) (i := 156) rfl))))) rfl
theorem wd_637 : ((Jvm.Cond.methodLink "EditGuessLaw" (82 : Nat) ({ cls := "EditGuess", name := "restore", desc := "(I)I" } : Jvm.MethodName)) : Cond) ∈ zG := zgm (List.mem_append_right _ (List.mem_append_right _ (List.mem_append_right _ (List.mem_append_left _ (List.mem_of_getElem? (l := tables_1_3) (i := 157) rfl))))) rfl
theorem wd_638 : ((Jvm.Cond.instanceMethod ({ cls := "EditGuess", name := "restore", desc := "(I)I" } : Jvm.MethodName)) : Cond) ∈ zG := zgm (List.mem_append_right _ (List.mem_append_right _ (List.mem_append_right _ (List.mem_append_left _ (List.mem_of_getElem? (l := tables_1_3) (i := 158) rfl))))) rfl
theorem wd_639 : ((Jvm.Cond.selects "EditGuess" ({ cls := "EditGuess", name := "restore", desc := "(I)I" } : Jvm.MethodName) ({ cls := "EditGuess", name := "restore", desc := "(I)I" } : Jvm.MethodName)) : Cond) ∈ zG := zgm (List.mem_append_right _ (List.mem_append_right _ (List.mem_append_right _ (List.mem_append_left _ (List.mem_of_getElem? (l := tables_1_3) (i := 159) rfl))))) rfl
theorem wd_640 : ((Jvm.Cond.code ({ cls := "EditGuess", name := "restore", desc := "(I)I" } : Jvm.MethodName) prog_1_method_18_code (2 : Nat) (Option.some Jvm.ClassFile.FieldType.int)) : Cond) ∈ zG := zgm (List.mem_append_right _ (List.mem_append_right _ (List.mem_append_right _ (List.mem_append_left _ (List.mem_of_getElem? (l := tables_1_3) (i := 160) rfl))))) rfl
theorem wd_641 : ((Jvm.Cond.methodLink "EditGuessLaw" (86 : Nat) ({ cls := "EditGuess", name := "told", desc := "(I)I" } : Jvm.MethodName)) : Cond) ∈ zG := zgm (List.mem_append_right _ (List.mem_append_right _ (List.mem_append_right _ (List.mem_append_left _ (List.mem_of_getElem? (l := tables_1_3) (i := 161) rfl))))) rfl
theorem wd_642 : ((Jvm.Cond.instanceMethod ({ cls := "EditGuess", name := "told", desc := "(I)I" } : Jvm.MethodName)) : Cond) ∈ zG := zgm (List.mem_append_right _ (List.mem_append_right _ (List.mem_append_right _ (List.mem_append_left _ (List.mem_of_getElem? (l := tables_1_3) (i := 162) rfl))))) rfl
theorem wd_643 : ((Jvm.Cond.selects "EditGuess" ({ cls := "EditGuess", name := "told", desc := "(I)I" } : Jvm.MethodName) ({ cls := "EditGuess", name := "told", desc := "(I)I" } : Jvm.MethodName)) : Cond) ∈ zG := zgm (List.mem_append_right _ (List.mem_append_right _ (List.mem_append_right _ (List.mem_append_left _ (List.mem_of_getElem? (l := tables_1_3) (i := 163) rfl))))) rfl
theorem wd_644 : ((Jvm.Cond.code ({ cls := "EditGuess", name := "told", desc := "(I)I" } : Jvm.MethodName) prog_1_method_19_code (2 : Nat) (Option.some Jvm.ClassFile.FieldType.int)) : Cond) ∈ zG := zgm (List.mem_append_right _ (List.mem_append_right _ (List.mem_append_right _ (List.mem_append_left _ (List.mem_of_getElem? (l := tables_1_3) (i := 164) rfl))))) rfl
theorem wd_645 : ((Jvm.Cond.classLink "EditGuessLaw" (10 : Nat) "EditGuessModel") : Cond) ∈ zG := zgm (List.mem_append_right _ (List.mem_append_right _ (List.mem_append_right _ (List.mem_append_left _ (List.mem_of_getElem? (l := tables_1_3) (i := 165) rfl))))) rfl
theorem wd_646 : ((Jvm.Cond.instantiable "EditGuessModel" (28 : Nat)) : Cond) ∈ zG := zgm (List.mem_append_right _ (List.mem_append_right _ (List.mem_append_right _ (List.mem_append_left _ (List.mem_of_getElem? (l := tables_1_3) (i := 166) rfl))))) rfl
theorem wd_647 : ((Jvm.Cond.methodLink "EditGuessLaw" (12 : Nat) ({ cls := "EditGuessModel", name := "<init>", desc := "()V" } : Jvm.MethodName)) : Cond) ∈ zG := zgm (List.mem_append_right _ (List.mem_append_right _ (List.mem_append_right _ (List.mem_append_left _ (List.mem_of_getElem? (l := tables_1_3) (i := 167) rfl))))) rfl
theorem wd_649 : ((Jvm.Cond.code ({ cls := "EditGuessModel", name := "<init>", desc := "()V" } : Jvm.MethodName) prog_11_method_1_code (3 : Nat) (Option.none : Option Jvm.ClassFile.FieldType)) : Cond) ∈ zG := zgm (List.mem_append_right _ (List.mem_append_right _ (List.mem_append_right _ (List.mem_append_left _ (List.mem_of_getElem? (l := tables_1_3) (i := 169) rfl))))) rfl
theorem wd_650 : ((Jvm.Cond.methodLink "EditGuessModel" (1 : Nat) ({ cls := "java/lang/Object", name := "<init>", desc := "()V" } : Jvm.MethodName)) : Cond) ∈ zG := zgm (List.mem_append_right _ (List.mem_append_right _ (List.mem_append_right _ (List.mem_append_left _ (List.mem_of_getElem? (l := tables_1_3) (i := 170) rfl))))) rfl
theorem wd_651 : ((Jvm.Cond.methodLink "EditGuessModel" (75 : Nat) ({ cls := "EditGuessModel", name := "isCode", desc := "(I)Z" } : Jvm.MethodName)) : Cond) ∈ zG := zgm (List.mem_append_right _ (List.mem_append_right _ (List.mem_append_right _ (List.mem_append_left _ (List.mem_of_getElem? (l := tables_1_3) (i := 171) rfl))))) rfl
theorem wd_652 : ((Jvm.Cond.static ({ cls := "EditGuessModel", name := "isCode", desc := "(I)Z" } : Jvm.MethodName)) : Cond) ∈ zG := zgm (List.mem_append_right _ (List.mem_append_right _ (List.mem_append_right _ (List.mem_append_left _ (List.mem_of_getElem? (l := tables_1_3) (i := 172) rfl))))) rfl
theorem wd_653 : ((Jvm.Cond.code ({ cls := "EditGuessModel", name := "isCode", desc := "(I)Z" } : Jvm.MethodName) prog_11_method_3_code (2 : Nat) (Option.some Jvm.ClassFile.FieldType.boolean)) : Cond) ∈ zG := zgm (List.mem_append_right _ (List.mem_append_right _ (List.mem_append_right _ (List.mem_append_left _ (List.mem_of_getElem? (l := tables_1_3) (i := 173) rfl))))) rfl
theorem wd_654 : ((Jvm.Cond.methodLink "EditGuessModel" (79 : Nat) ({ cls := "EditGuessModel", name := "in", desc := "(III)Z" } : Jvm.MethodName)) : Cond) ∈ zG := zgm (List.mem_append_right _ (List.mem_append_right _ (List.mem_append_right _ (List.mem_append_left _ (List.mem_of_getElem? (l := tables_1_3) (i := 174) rfl))))) rfl
theorem wd_655 : ((Jvm.Cond.static ({ cls := "EditGuessModel", name := "in", desc := "(III)Z" } : Jvm.MethodName)) : Cond) ∈ zG := zgm (List.mem_append_right _ (List.mem_append_right _ (List.mem_append_right _ (List.mem_append_left _ (List.mem_of_getElem? (l := tables_1_3) (i := 175) rfl))))) rfl
theorem wd_656 : ((Jvm.Cond.code ({ cls := "EditGuessModel", name := "in", desc := "(III)Z" } : Jvm.MethodName) prog_11_method_2_code (3 : Nat) (Option.some Jvm.ClassFile.FieldType.boolean)) : Cond) ∈ zG := zgm (List.mem_append_right _ (List.mem_append_right _ (List.mem_append_right _ (List.mem_append_left _ (List.mem_of_getElem? (l := tables_1_3) (i := 176) rfl))))) rfl
theorem wd_657 : ((Jvm.Cond.fieldLink "EditGuessModel" (7 : Nat) "EditGuessModel" "lines" "[I") : Cond) ∈ zG := zgm (List.mem_append_right _ (List.mem_append_right _ (List.mem_append_right _ (List.mem_append_left _ (List.mem_of_getElem? (l := tables_1_3) (i := 177) rfl))))) rfl
theorem wd_658 : ((Jvm.Cond.fieldLink "EditGuessModel" (13 : Nat) "EditGuessModel" "lineSize" "[I") : Cond) ∈ zG := zgm (List.mem_append_right _ (List.mem_append_right _ (List.mem_append_right _ (List.mem_append_left _ (List.mem_of_getElem? (l := tables_1_3) (i := 178) rfl))))) rfl
theorem wd_659 : ((Jvm.Cond.fieldLink "EditGuessModel" (16 : Nat) "EditGuessModel" "outs" "[I") : Cond) ∈ zG := zgm (List.mem_append_right _ (List.mem_append_right _ (List.mem_append_right _ (List.mem_append_left _ (List.mem_of_getElem? (l := tables_1_3) (i := 179) rfl))))) rfl
theorem wd_660 : ((Jvm.Cond.fieldLink "EditGuessModel" (19 : Nat) "EditGuessModel" "outSize" "[I") : Cond) ∈ zG := zgm (List.mem_append_right _ (List.mem_append_right _ (List.mem_append_right _ (List.mem_append_left _ (List.mem_of_getElem? (l := tables_1_3) (i := 180) rfl))))) rfl
theorem wd_661 : ((Jvm.Cond.fieldLink "EditGuessModel" (98 : Nat) "EditGuessModel" "examples" "I") : Cond) ∈ zG := zgm (List.mem_append_right _ (List.mem_append_right _ (List.mem_append_right _ (List.mem_append_left _ (List.mem_of_getElem? (l := tables_1_3) (i := 181) rfl))))) rfl
theorem wd_662 : ((Jvm.Cond.fieldLink "EditGuessModel" (22 : Nat) "EditGuessModel" "pools" "[I") : Cond) ∈ zG := zgm (List.mem_append_right _ (List.mem_append_right _ (List.mem_append_right _ (List.mem_append_left _ (List.mem_of_getElem? (l := tables_1_3) (i := 182) rfl))))) rfl
theorem wd_663 : ((Jvm.Cond.fieldLink "EditGuessModel" (25 : Nat) "EditGuessModel" "poolSize" "[I") : Cond) ∈ zG := zgm (List.mem_append_right _ (List.mem_append_right _ (List.mem_append_right _ (List.mem_append_left _ (List.mem_of_getElem? (l := tables_1_3) (i := 183) rfl))))) rfl
theorem wd_664 : ((Jvm.Cond.fieldLink "EditGuessModel" (101 : Nat) "EditGuessModel" "many" "I") : Cond) ∈ zG := zgm (List.mem_append_right _ (List.mem_append_right _ (List.mem_append_right _ (List.mem_append_left _ (List.mem_of_getElem? (l := tables_1_3) (i := 184) rfl))))) rfl
theorem wd_665 : ((Jvm.Cond.fieldLink "EditGuessModel" (83 : Nat) "EditGuessModel" "signs" "I") : Cond) ∈ zG := zgm (List.mem_append_right _ (List.mem_append_right _ (List.mem_append_right _ (List.mem_append_left _ (List.mem_of_getElem? (l := tables_1_3) (i := 185) rfl))))) rfl
theorem wd_666 : ((Jvm.Cond.fieldLink "EditGuessModel" (28 : Nat) "EditGuessModel" "pad" "[I") : Cond) ∈ zG := zgm (List.mem_append_right _ (List.mem_append_right _ (List.mem_append_right _ (List.mem_append_left _ (List.mem_of_getElem? (l := tables_1_3) (i := 186) rfl))))) rfl
theorem wd_667 : ((Jvm.Cond.fieldLink "EditGuessModel" (31 : Nat) "EditGuessModel" "codes" "[I") : Cond) ∈ zG := zgm (List.mem_append_right _ (List.mem_append_right _ (List.mem_append_right _ (List.mem_append_left _ (List.mem_of_getElem? (l := tables_1_3) (i := 187) rfl))))) rfl
theorem wd_668 : ((Jvm.Cond.fieldLink "EditGuessModel" (34 : Nat) "EditGuessModel" "now" "[I") : Cond) ∈ zG := zgm (List.mem_append_right _ (List.mem_append_right _ (List.mem_append_right _ (List.mem_append_left _ (List.mem_of_getElem? (l := tables_1_3) (i := 188) rfl))))) rfl
theorem wd_669 : ((Jvm.Cond.fieldLink "EditGuessModel" (108 : Nat) "EditGuessModel" "size" "I") : Cond) ∈ zG := zgm (List.mem_append_right _ (List.mem_append_right _ (List.mem_append_right _ (List.mem_append_left _ (List.mem_of_getElem? (l := tables_1_3) (i := 189) rfl))))) rfl
theorem wd_670 : ((Jvm.Cond.fieldLink "EditGuessModel" (37 : Nat) "EditGuessModel" "workLine" "[I") : Cond) ∈ zG := zgm (List.mem_append_right _ (List.mem_append_right _ (List.mem_append_right _ (List.mem_append_left _ (List.mem_of_getElem? (l := tables_1_3) (i := 190) rfl))))) rfl
theorem wd_671 : ((Jvm.Cond.fieldLink "EditGuessModel" (40 : Nat) "EditGuessModel" "workOut" "[I") : Cond) ∈ zG := zgm (List.mem_append_right _ (List.mem_append_right _ (List.mem_append_right _ (List.mem_append_left _ (List.mem_of_getElem? (l := tables_1_3) (i := 191) rfl))))) rfl
theorem wd_672 : ((Jvm.Cond.fieldLink "EditGuessModel" (43 : Nat) "EditGuessModel" "workSize" "[I") : Cond) ∈ zG := zgm (List.mem_append_right _ (List.mem_append_right _ (List.mem_append_right _ (List.mem_append_left _ (List.mem_of_getElem? (l := tables_1_3) (i := 192) rfl))))) rfl
theorem wd_673 : ((Jvm.Cond.fieldLink "EditGuessModel" (46 : Nat) "EditGuessModel" "marks" "[I") : Cond) ∈ zG := zgm (List.mem_append_right _ (List.mem_append_right _ (List.mem_append_right _ (List.mem_append_left _ (List.mem_of_getElem? (l := tables_1_3) (i := 193) rfl))))) rfl
theorem wd_674 : ((Jvm.Cond.fieldLink "EditGuessModel" (124 : Nat) "EditGuessModel" "work" "I") : Cond) ∈ zG := zgm (List.mem_append_right _ (List.mem_append_right _ (List.mem_append_right _ (List.mem_append_left _ (List.mem_of_getElem? (l := tables_1_3) (i := 194) rfl))))) rfl
theorem wd_675 : ((Jvm.Cond.fieldLink "EditGuessModel" (49 : Nat) "EditGuessModel" "ways" "[J") : Cond) ∈ zG := zgm (List.mem_append_right _ (List.mem_append_right _ (List.mem_append_right _ (List.mem_append_left _ (List.mem_of_getElem? (l := tables_1_3) (i := 195) rfl))))) rfl
theorem wd_676 : ((Jvm.Cond.fieldLink "EditGuessModel" (53 : Nat) "EditGuessModel" "least" "[I") : Cond) ∈ zG := zgm (List.mem_append_right _ (List.mem_append_right _ (List.mem_append_right _ (List.mem_append_left _ (List.mem_of_getElem? (l := tables_1_3) (i := 196) rfl))))) rfl
theorem wd_677 : ((Jvm.Cond.fieldLink "EditGuessModel" (56 : Nat) "EditGuessModel" "kind" "[I") : Cond) ∈ zG := zgm (List.mem_append_right _ (List.mem_append_right _ (List.mem_append_right _ (List.mem_append_left _ (List.mem_of_getElem? (l := tables_1_3) (i := 197) rfl))))) rfl
theorem wd_678 : ((Jvm.Cond.fieldLink "EditGuessModel" (59 : Nat) "EditGuessModel" "one" "[I") : Cond) ∈ zG := zgm (List.mem_append_right _ (List.mem_append_right _ (List.mem_append_right _ (List.mem_append_left _ (List.mem_of_getElem? (l := tables_1_3) (i := 198) rfl))))) rfl
theorem wd_679 : ((Jvm.Cond.fieldLink "EditGuessModel" (62 : Nat) "EditGuessModel" "other" "[I") : Cond) ∈ zG := zgm (List.mem_append_right _ (List.mem_append_right _ (List.mem_append_right _ (List.mem_append_left _ (List.mem_of_getElem? (l := tables_1_3) (i := 199) rfl))))) rfl
theorem wd_680 : ((Jvm.Cond.fieldLink "EditGuessModel" (164 : Nat) "EditGuessModel" "pieces" "I") : Cond) ∈ zG := zgm (List.mem_append_right _ (List.mem_append_right _ (List.mem_append_right _ (List.mem_append_left _ (List.mem_of_getElem? (l := tables_1_3) (i := 200) rfl))))) rfl
theorem wd_681 : ((Jvm.Cond.fieldLink "EditGuessModel" (161 : Nat) "EditGuessModel" "cost" "I") : Cond) ∈ zG := zgm (List.mem_append_right _ (List.mem_append_right _ (List.mem_append_right _ (List.mem_append_left _ (List.mem_of_getElem? (l := tables_1_3) (i := 201) rfl))))) rfl
theorem wd_682 : ((Jvm.Cond.fieldLink "EditGuessModel" (65 : Nat) "EditGuessModel" "made" "[I") : Cond) ∈ zG := zgm (List.mem_append_right _ (List.mem_append_right _ (List.mem_append_right _ (List.mem_append_left _ (List.mem_of_getElem? (l := tables_1_3) (i := 202) rfl))))) rfl
theorem wd_683 : ((Jvm.Cond.fieldLink "EditGuessModel" (68 : Nat) "EditGuessModel" "image" "[I") : Cond) ∈ zG := zgm (List.mem_append_right _ (List.mem_append_right _ (List.mem_append_right _ (List.mem_append_left _ (List.mem_of_getElem? (l := tables_1_3) (i := 203) rfl))))) rfl
theorem wd_684 : ((Jvm.Cond.fieldLink "EditGuessModel" (71 : Nat) "EditGuessModel" "isKept" "[Z") : Cond) ∈ zG := zgm (List.mem_append_right _ (List.mem_append_right _ (List.mem_append_right _ (List.mem_append_left _ (List.mem_of_getElem? (l := tables_1_3) (i := 204) rfl))))) rfl
theorem wd_742 : ((Jvm.Cond.methodLink "EditGuessLaw" (17 : Nat) ({ cls := "EditGuessModel", name := "say", desc := "(I)I" } : Jvm.MethodName)) : Cond) ∈ zG := zgm (List.mem_append_right _ (List.mem_append_right _ (List.mem_append_right _ (List.mem_append_right _ ((List.mem_of_getElem? (l := tables_1_4) (i := 22) rfl)))))) rfl
theorem wd_743 : ((Jvm.Cond.instanceMethod ({ cls := "EditGuessModel", name := "say", desc := "(I)I" } : Jvm.MethodName)) : Cond) ∈ zG := zgm (List.mem_append_right _ (List.mem_append_right _ (List.mem_append_right _ (List.mem_append_right _ ((List.mem_of_getElem? (l := tables_1_4) (i := 23) rfl)))))) rfl
theorem wd_744 : ((Jvm.Cond.selects "EditGuessModel" ({ cls := "EditGuessModel", name := "say", desc := "(I)I" } : Jvm.MethodName) ({ cls := "EditGuessModel", name := "say", desc := "(I)I" } : Jvm.MethodName)) : Cond) ∈ zG := zgm (List.mem_append_right _ (List.mem_append_right _ (List.mem_append_right _ (List.mem_append_right _ ((List.mem_of_getElem? (l := tables_1_4) (i := 24) rfl)))))) rfl
theorem wd_745 : ((Jvm.Cond.code ({ cls := "EditGuessModel", name := "say", desc := "(I)I" } : Jvm.MethodName) prog_11_method_6_code (2 : Nat) (Option.some Jvm.ClassFile.FieldType.int)) : Cond) ∈ zG := zgm (List.mem_append_right _ (List.mem_append_right _ (List.mem_append_right _ (List.mem_append_right _ ((List.mem_of_getElem? (l := tables_1_4) (i := 25) rfl)))))) rfl
theorem wd_746 : ((Jvm.Cond.methodLink "EditGuessLaw" (22 : Nat) ({ cls := "EditGuessModel", name := "wipe", desc := "()I" } : Jvm.MethodName)) : Cond) ∈ zG := zgm (List.mem_append_right _ (List.mem_append_right _ (List.mem_append_right _ (List.mem_append_right _ ((List.mem_of_getElem? (l := tables_1_4) (i := 26) rfl)))))) rfl
theorem wd_747 : ((Jvm.Cond.instanceMethod ({ cls := "EditGuessModel", name := "wipe", desc := "()I" } : Jvm.MethodName)) : Cond) ∈ zG := zgm (List.mem_append_right _ (List.mem_append_right _ (List.mem_append_right _ (List.mem_append_right _ ((List.mem_of_getElem? (l := tables_1_4) (i := 27) rfl)))))) rfl
theorem wd_748 : ((Jvm.Cond.selects "EditGuessModel" ({ cls := "EditGuessModel", name := "wipe", desc := "()I" } : Jvm.MethodName) ({ cls := "EditGuessModel", name := "wipe", desc := "()I" } : Jvm.MethodName)) : Cond) ∈ zG := zgm (List.mem_append_right _ (List.mem_append_right _ (List.mem_append_right _ (List.mem_append_right _ ((List.mem_of_getElem? (l := tables_1_4) (i := 28) rfl)))))) rfl
theorem wd_749 : ((Jvm.Cond.code ({ cls := "EditGuessModel", name := "wipe", desc := "()I" } : Jvm.MethodName) prog_11_method_7_code (2 : Nat) (Option.some Jvm.ClassFile.FieldType.int)) : Cond) ∈ zG := zgm (List.mem_append_right _ (List.mem_append_right _ (List.mem_append_right _ (List.mem_append_right _ ((List.mem_of_getElem? (l := tables_1_4) (i := 29) rfl)))))) rfl
theorem wd_750 : ((Jvm.Cond.methodLink "EditGuessLaw" (26 : Nat) ({ cls := "EditGuessModel", name := "fault", desc := "(I)I" } : Jvm.MethodName)) : Cond) ∈ zG := zgm (List.mem_append_right _ (List.mem_append_right _ (List.mem_append_right _ (List.mem_append_right _ ((List.mem_of_getElem? (l := tables_1_4) (i := 30) rfl)))))) rfl
theorem wd_751 : ((Jvm.Cond.instanceMethod ({ cls := "EditGuessModel", name := "fault", desc := "(I)I" } : Jvm.MethodName)) : Cond) ∈ zG := zgm (List.mem_append_right _ (List.mem_append_right _ (List.mem_append_right _ (List.mem_append_right _ ((List.mem_of_getElem? (l := tables_1_4) (i := 31) rfl)))))) rfl
theorem wd_752 : ((Jvm.Cond.selects "EditGuessModel" ({ cls := "EditGuessModel", name := "fault", desc := "(I)I" } : Jvm.MethodName) ({ cls := "EditGuessModel", name := "fault", desc := "(I)I" } : Jvm.MethodName)) : Cond) ∈ zG := zgm (List.mem_append_right _ (List.mem_append_right _ (List.mem_append_right _ (List.mem_append_right _ ((List.mem_of_getElem? (l := tables_1_4) (i := 32) rfl)))))) rfl
theorem wd_753 : ((Jvm.Cond.code ({ cls := "EditGuessModel", name := "fault", desc := "(I)I" } : Jvm.MethodName) prog_11_method_10_code (2 : Nat) (Option.some Jvm.ClassFile.FieldType.int)) : Cond) ∈ zG := zgm (List.mem_append_right _ (List.mem_append_right _ (List.mem_append_right _ (List.mem_append_right _ ((List.mem_of_getElem? (l := tables_1_4) (i := 33) rfl)))))) rfl
theorem wd_754 : ((Jvm.Cond.methodLink "EditGuessModel" (91 : Nat) ({ cls := "EditGuessModel", name := "exampleFault", desc := "()I" } : Jvm.MethodName)) : Cond) ∈ zG := zgm (List.mem_append_right _ (List.mem_append_right _ (List.mem_append_right _ (List.mem_append_right _ ((List.mem_of_getElem? (l := tables_1_4) (i := 34) rfl)))))) rfl
theorem wd_756 : ((Jvm.Cond.instanceMethod ({ cls := "EditGuessModel", name := "exampleFault", desc := "()I" } : Jvm.MethodName)) : Cond) ∈ zG := zgm (List.mem_append_right _ (List.mem_append_right _ (List.mem_append_right _ (List.mem_append_right _ ((List.mem_of_getElem? (l := tables_1_4) (i := 36) rfl)))))) rfl
theorem wd_757 : ((Jvm.Cond.code ({ cls := "EditGuessModel", name := "exampleFault", desc := "()I" } : Jvm.MethodName) prog_11_method_8_code (5 : Nat) (Option.some Jvm.ClassFile.FieldType.int)) : Cond) ∈ zG := zgm (List.mem_append_right _ (List.mem_append_right _ (List.mem_append_right _ (List.mem_append_right _ ((List.mem_of_getElem? (l := tables_1_4) (i := 37) rfl)))))) rfl
theorem wd_758 : ((Jvm.Cond.methodLink "EditGuessModel" (87 : Nat) ({ cls := "EditGuessModel", name := "classOf", desc := "(I)I" } : Jvm.MethodName)) : Cond) ∈ zG := zgm (List.mem_append_right _ (List.mem_append_right _ (List.mem_append_right _ (List.mem_append_right _ ((List.mem_of_getElem? (l := tables_1_4) (i := 38) rfl)))))) rfl
theorem wd_759 : ((Jvm.Cond.static ({ cls := "EditGuessModel", name := "classOf", desc := "(I)I" } : Jvm.MethodName)) : Cond) ∈ zG := zgm (List.mem_append_right _ (List.mem_append_right _ (List.mem_append_right _ (List.mem_append_right _ ((List.mem_of_getElem? (l := tables_1_4) (i := 39) rfl)))))) rfl
theorem wd_760 : ((Jvm.Cond.code ({ cls := "EditGuessModel", name := "classOf", desc := "(I)I" } : Jvm.MethodName) prog_11_method_5_code (1 : Nat) (Option.some Jvm.ClassFile.FieldType.int)) : Cond) ∈ zG := zgm (List.mem_append_right _ (List.mem_append_right _ (List.mem_append_right _ (List.mem_append_right _ ((List.mem_of_getElem? (l := tables_1_4) (i := 40) rfl)))))) rfl
theorem wd_761 : ((Jvm.Cond.methodLink "EditGuessModel" (95 : Nat) ({ cls := "EditGuessModel", name := "lineFault", desc := "()I" } : Jvm.MethodName)) : Cond) ∈ zG := zgm (List.mem_append_right _ (List.mem_append_right _ (List.mem_append_right _ (List.mem_append_right _ ((List.mem_of_getElem? (l := tables_1_4) (i := 41) rfl)))))) rfl
theorem wd_763 : ((Jvm.Cond.instanceMethod ({ cls := "EditGuessModel", name := "lineFault", desc := "()I" } : Jvm.MethodName)) : Cond) ∈ zG := zgm (List.mem_append_right _ (List.mem_append_right _ (List.mem_append_right _ (List.mem_append_right _ ((List.mem_of_getElem? (l := tables_1_4) (i := 43) rfl)))))) rfl
theorem wd_764 : ((Jvm.Cond.code ({ cls := "EditGuessModel", name := "lineFault", desc := "()I" } : Jvm.MethodName) prog_11_method_9_code (2 : Nat) (Option.some Jvm.ClassFile.FieldType.int)) : Cond) ∈ zG := zgm (List.mem_append_right _ (List.mem_append_right _ (List.mem_append_right _ (List.mem_append_right _ ((List.mem_of_getElem? (l := tables_1_4) (i := 44) rfl)))))) rfl
theorem wd_765 : ((Jvm.Cond.methodLink "EditGuessLaw" (30 : Nat) ({ cls := "EditGuessModel", name := "example", desc := "()I" } : Jvm.MethodName)) : Cond) ∈ zG := zgm (List.mem_append_right _ (List.mem_append_right _ (List.mem_append_right _ (List.mem_append_right _ ((List.mem_of_getElem? (l := tables_1_4) (i := 45) rfl)))))) rfl
theorem wd_766 : ((Jvm.Cond.instanceMethod ({ cls := "EditGuessModel", name := "example", desc := "()I" } : Jvm.MethodName)) : Cond) ∈ zG := zgm (List.mem_append_right _ (List.mem_append_right _ (List.mem_append_right _ (List.mem_append_right _ ((List.mem_of_getElem? (l := tables_1_4) (i := 46) rfl)))))) rfl
theorem wd_767 : ((Jvm.Cond.selects "EditGuessModel" ({ cls := "EditGuessModel", name := "example", desc := "()I" } : Jvm.MethodName) ({ cls := "EditGuessModel", name := "example", desc := "()I" } : Jvm.MethodName)) : Cond) ∈ zG := zgm (List.mem_append_right _ (List.mem_append_right _ (List.mem_append_right _ (List.mem_append_right _ ((List.mem_of_getElem? (l := tables_1_4) (i := 47) rfl)))))) rfl
theorem wd_768 : ((Jvm.Cond.code ({ cls := "EditGuessModel", name := "example", desc := "()I" } : Jvm.MethodName) prog_11_method_11_code (3 : Nat) (Option.some Jvm.ClassFile.FieldType.int)) : Cond) ∈ zG := zgm (List.mem_append_right _ (List.mem_append_right _ (List.mem_append_right _ (List.mem_append_right _ ((List.mem_of_getElem? (l := tables_1_4) (i := 48) rfl)))))) rfl
theorem wd_769 : ((Jvm.Cond.methodLink "EditGuessLaw" (34 : Nat) ({ cls := "EditGuessModel", name := "forget", desc := "()I" } : Jvm.MethodName)) : Cond) ∈ zG := zgm (List.mem_append_right _ (List.mem_append_right _ (List.mem_append_right _ (List.mem_append_right _ ((List.mem_of_getElem? (l := tables_1_4) (i := 49) rfl)))))) rfl
theorem wd_770 : ((Jvm.Cond.instanceMethod ({ cls := "EditGuessModel", name := "forget", desc := "()I" } : Jvm.MethodName)) : Cond) ∈ zG := zgm (List.mem_append_right _ (List.mem_append_right _ (List.mem_append_right _ (List.mem_append_right _ ((List.mem_of_getElem? (l := tables_1_4) (i := 50) rfl)))))) rfl
theorem wd_771 : ((Jvm.Cond.selects "EditGuessModel" ({ cls := "EditGuessModel", name := "forget", desc := "()I" } : Jvm.MethodName) ({ cls := "EditGuessModel", name := "forget", desc := "()I" } : Jvm.MethodName)) : Cond) ∈ zG := zgm (List.mem_append_right _ (List.mem_append_right _ (List.mem_append_right _ (List.mem_append_right _ ((List.mem_of_getElem? (l := tables_1_4) (i := 51) rfl)))))) rfl
theorem wd_772 : ((Jvm.Cond.code ({ cls := "EditGuessModel", name := "forget", desc := "()I" } : Jvm.MethodName) prog_11_method_12_code (1 : Nat) (Option.some Jvm.ClassFile.FieldType.int)) : Cond) ∈ zG := zgm (List.mem_append_right _ (List.mem_append_right _ (List.mem_append_right _ (List.mem_append_right _ ((List.mem_of_getElem? (l := tables_1_4) (i := 52) rfl)))))) rfl
theorem wd_773 : ((Jvm.Cond.methodLink "EditGuessLaw" (38 : Nat) ({ cls := "EditGuessModel", name := "pool", desc := "()I" } : Jvm.MethodName)) : Cond) ∈ zG := zgm (List.mem_append_right _ (List.mem_append_right _ (List.mem_append_right _ (List.mem_append_right _ ((List.mem_of_getElem? (l := tables_1_4) (i := 53) rfl)))))) rfl
theorem wd_774 : ((Jvm.Cond.instanceMethod ({ cls := "EditGuessModel", name := "pool", desc := "()I" } : Jvm.MethodName)) : Cond) ∈ zG := zgm (List.mem_append_right _ (List.mem_append_right _ (List.mem_append_right _ (List.mem_append_right _ ((List.mem_of_getElem? (l := tables_1_4) (i := 54) rfl)))))) rfl
theorem wd_775 : ((Jvm.Cond.selects "EditGuessModel" ({ cls := "EditGuessModel", name := "pool", desc := "()I" } : Jvm.MethodName) ({ cls := "EditGuessModel", name := "pool", desc := "()I" } : Jvm.MethodName)) : Cond) ∈ zG := zgm (List.mem_append_right _ (List.mem_append_right _ (List.mem_append_right _ (List.mem_append_right _ ((List.mem_of_getElem? (l := tables_1_4) (i := 55) rfl)))))) rfl
theorem wd_776 : ((Jvm.Cond.code ({ cls := "EditGuessModel", name := "pool", desc := "()I" } : Jvm.MethodName) prog_11_method_13_code (2 : Nat) (Option.some Jvm.ClassFile.FieldType.int)) : Cond) ∈ zG := zgm (List.mem_append_right _ (List.mem_append_right _ (List.mem_append_right _ (List.mem_append_right _ ((List.mem_of_getElem? (l := tables_1_4) (i := 56) rfl)))))) rfl
theorem wd_777 : ((Jvm.Cond.methodLink "EditGuessLaw" (42 : Nat) ({ cls := "EditGuessModel", name := "drain", desc := "(I)I" } : Jvm.MethodName)) : Cond) ∈ zG := zgm (List.mem_append_right _ (List.mem_append_right _ (List.mem_append_right _ (List.mem_append_right _ ((List.mem_of_getElem? (l := tables_1_4) (i := 57) rfl)))))) rfl
theorem wd_778 : ((Jvm.Cond.instanceMethod ({ cls := "EditGuessModel", name := "drain", desc := "(I)I" } : Jvm.MethodName)) : Cond) ∈ zG := zgm (List.mem_append_right _ (List.mem_append_right _ (List.mem_append_right _ (List.mem_append_right _ ((List.mem_of_getElem? (l := tables_1_4) (i := 58) rfl)))))) rfl
theorem wd_779 : ((Jvm.Cond.selects "EditGuessModel" ({ cls := "EditGuessModel", name := "drain", desc := "(I)I" } : Jvm.MethodName) ({ cls := "EditGuessModel", name := "drain", desc := "(I)I" } : Jvm.MethodName)) : Cond) ∈ zG := zgm (List.mem_append_right _ (List.mem_append_right _ (List.mem_append_right _ (List.mem_append_right _ ((List.mem_of_getElem? (l := tables_1_4) (i := 59) rfl)))))) rfl
theorem wd_780 : ((Jvm.Cond.code ({ cls := "EditGuessModel", name := "drain", desc := "(I)I" } : Jvm.MethodName) prog_11_method_15_code (2 : Nat) (Option.some Jvm.ClassFile.FieldType.int)) : Cond) ∈ zG := zgm (List.mem_append_right _ (List.mem_append_right _ (List.mem_append_right _ (List.mem_append_right _ ((List.mem_of_getElem? (l := tables_1_4) (i := 60) rfl)))))) rfl
theorem wd_781 : ((Jvm.Cond.methodLink "EditGuessModel" (104 : Nat) ({ cls := "EditGuessModel", name := "goFrom", desc := "(I)V" } : Jvm.MethodName)) : Cond) ∈ zG := zgm (List.mem_append_right _ (List.mem_append_right _ (List.mem_append_right _ (List.mem_append_right _ ((List.mem_of_getElem? (l := tables_1_4) (i := 61) rfl)))))) rfl
theorem wd_783 : ((Jvm.Cond.instanceMethod ({ cls := "EditGuessModel", name := "goFrom", desc := "(I)V" } : Jvm.MethodName)) : Cond) ∈ zG := zgm (List.mem_append_right _ (List.mem_append_right _ (List.mem_append_right _ (List.mem_append_right _ ((List.mem_of_getElem? (l := tables_1_4) (i := 63) rfl)))))) rfl
theorem wd_784 : ((Jvm.Cond.code ({ cls := "EditGuessModel", name := "goFrom", desc := "(I)V" } : Jvm.MethodName) prog_11_method_14_code (4 : Nat) (Option.none : Option Jvm.ClassFile.FieldType)) : Cond) ∈ zG := zgm (List.mem_append_right _ (List.mem_append_right _ (List.mem_append_right _ (List.mem_append_right _ ((List.mem_of_getElem? (l := tables_1_4) (i := 64) rfl)))))) rfl
theorem wd_785 : ((Jvm.Cond.methodLink "EditGuessLaw" (60 : Nat) ({ cls := "EditGuessModel", name := "place", desc := "(I)I" } : Jvm.MethodName)) : Cond) ∈ zG := zgm (List.mem_append_right _ (List.mem_append_right _ (List.mem_append_right _ (List.mem_append_right _ ((List.mem_of_getElem? (l := tables_1_4) (i := 65) rfl)))))) rfl
theorem wd_786 : ((Jvm.Cond.instanceMethod ({ cls := "EditGuessModel", name := "place", desc := "(I)I" } : Jvm.MethodName)) : Cond) ∈ zG := zgm (List.mem_append_right _ (List.mem_append_right _ (List.mem_append_right _ (List.mem_append_right _ ((List.mem_of_getElem? (l := tables_1_4) (i := 66) rfl)))))) rfl
theorem wd_787 : ((Jvm.Cond.selects "EditGuessModel" ({ cls := "EditGuessModel", name := "place", desc := "(I)I" } : Jvm.MethodName) ({ cls := "EditGuessModel", name := "place", desc := "(I)I" } : Jvm.MethodName)) : Cond) ∈ zG := zgm (List.mem_append_right _ (List.mem_append_right _ (List.mem_append_right _ (List.mem_append_right _ ((List.mem_of_getElem? (l := tables_1_4) (i := 67) rfl)))))) rfl
theorem wd_788 : ((Jvm.Cond.code ({ cls := "EditGuessModel", name := "place", desc := "(I)I" } : Jvm.MethodName) prog_11_method_20_code (2 : Nat) (Option.some Jvm.ClassFile.FieldType.int)) : Cond) ∈ zG := zgm (List.mem_append_right _ (List.mem_append_right _ (List.mem_append_right _ (List.mem_append_right _ ((List.mem_of_getElem? (l := tables_1_4) (i := 68) rfl)))))) rfl
theorem wd_789 : ((Jvm.Cond.methodLink "EditGuessModel" (115 : Nat) ({ cls := "EditGuessModel", name := "lookAtPad", desc := "()V" } : Jvm.MethodName)) : Cond) ∈ zG := zgm (List.mem_append_right _ (List.mem_append_right _ (List.mem_append_right _ (List.mem_append_right _ ((List.mem_of_getElem? (l := tables_1_4) (i := 69) rfl)))))) rfl
theorem wd_791 : ((Jvm.Cond.instanceMethod ({ cls := "EditGuessModel", name := "lookAtPad", desc := "()V" } : Jvm.MethodName)) : Cond) ∈ zG := zgm (List.mem_append_right _ (List.mem_append_right _ (List.mem_append_right _ (List.mem_append_right _ ((List.mem_of_getElem? (l := tables_1_4) (i := 71) rfl)))))) rfl
theorem wd_792 : ((Jvm.Cond.code ({ cls := "EditGuessModel", name := "lookAtPad", desc := "()V" } : Jvm.MethodName) prog_11_method_16_code (2 : Nat) (Option.none : Option Jvm.ClassFile.FieldType)) : Cond) ∈ zG := zgm (List.mem_append_right _ (List.mem_append_right _ (List.mem_append_right _ (List.mem_append_right _ ((List.mem_of_getElem? (l := tables_1_4) (i := 72) rfl)))))) rfl
theorem wd_793 : ((Jvm.Cond.methodLink "EditGuessModel" (118 : Nat) ({ cls := "EditGuessModel", name := "placeOf", desc := "(I)I" } : Jvm.MethodName)) : Cond) ∈ zG := zgm (List.mem_append_right _ (List.mem_append_right _ (List.mem_append_right _ (List.mem_append_right _ ((List.mem_of_getElem? (l := tables_1_4) (i := 73) rfl)))))) rfl
theorem wd_795 : ((Jvm.Cond.instanceMethod ({ cls := "EditGuessModel", name := "placeOf", desc := "(I)I" } : Jvm.MethodName)) : Cond) ∈ zG := zgm (List.mem_append_right _ (List.mem_append_right _ (List.mem_append_right _ (List.mem_append_right _ ((List.mem_of_getElem? (l := tables_1_4) (i := 75) rfl)))))) rfl
theorem wd_796 : ((Jvm.Cond.code ({ cls := "EditGuessModel", name := "placeOf", desc := "(I)I" } : Jvm.MethodName) prog_11_method_19_code (2 : Nat) (Option.some Jvm.ClassFile.FieldType.int)) : Cond) ∈ zG := zgm (List.mem_append_right _ (List.mem_append_right _ (List.mem_append_right _ (List.mem_append_right _ ((List.mem_of_getElem? (l := tables_1_4) (i := 76) rfl)))))) rfl
theorem wd_797 : ((Jvm.Cond.methodLink "EditGuessModel" (111 : Nat) ({ cls := "EditGuessModel", name := "runAt", desc := "(IIZ)I" } : Jvm.MethodName)) : Cond) ∈ zG := zgm (List.mem_append_right _ (List.mem_append_right _ (List.mem_append_right _ (List.mem_append_right _ ((List.mem_of_getElem? (l := tables_1_4) (i := 77) rfl)))))) rfl
theorem wd_799 : ((Jvm.Cond.instanceMethod ({ cls := "EditGuessModel", name := "runAt", desc := "(IIZ)I" } : Jvm.MethodName)) : Cond) ∈ zG := zgm (List.mem_append_right _ (List.mem_append_right _ (List.mem_append_right _ (List.mem_append_right _ ((List.mem_of_getElem? (l := tables_1_4) (i := 79) rfl)))))) rfl
theorem wd_800 : ((Jvm.Cond.code ({ cls := "EditGuessModel", name := "runAt", desc := "(IIZ)I" } : Jvm.MethodName) prog_11_method_18_code (11 : Nat) (Option.some Jvm.ClassFile.FieldType.int)) : Cond) ∈ zG := zgm (List.mem_append_right _ (List.mem_append_right _ (List.mem_append_right _ (List.mem_append_right _ ((List.mem_of_getElem? (l := tables_1_4) (i := 80) rfl)))))) rfl
theorem wd_801 : ((Jvm.Cond.methodLink "EditGuessLaw" (47 : Nat) ({ cls := "EditGuessModel", name := "plans", desc := "()J" } : Jvm.MethodName)) : Cond) ∈ zG := zgm (List.mem_append_right _ (List.mem_append_right _ (List.mem_append_right _ (List.mem_append_right _ ((List.mem_of_getElem? (l := tables_1_4) (i := 81) rfl)))))) rfl
theorem wd_802 : ((Jvm.Cond.instanceMethod ({ cls := "EditGuessModel", name := "plans", desc := "()J" } : Jvm.MethodName)) : Cond) ∈ zG := zgm (List.mem_append_right _ (List.mem_append_right _ (List.mem_append_right _ (List.mem_append_right _ ((List.mem_of_getElem? (l := tables_1_4) (i := 82) rfl)))))) rfl
theorem wd_803 : ((Jvm.Cond.selects "EditGuessModel" ({ cls := "EditGuessModel", name := "plans", desc := "()J" } : Jvm.MethodName) ({ cls := "EditGuessModel", name := "plans", desc := "()J" } : Jvm.MethodName)) : Cond) ∈ zG := zgm (List.mem_append_right _ (List.mem_append_right _ (List.mem_append_right _ (List.mem_append_right _ ((List.mem_of_getElem? (l := tables_1_4) (i := 83) rfl)))))) rfl
theorem wd_804 : ((Jvm.Cond.code ({ cls := "EditGuessModel", name := "plans", desc := "()J" } : Jvm.MethodName) prog_11_method_34_code (1 : Nat) (Option.some Jvm.ClassFile.FieldType.long)) : Cond) ∈ zG := zgm (List.mem_append_right _ (List.mem_append_right _ (List.mem_append_right _ (List.mem_append_right _ ((List.mem_of_getElem? (l := tables_1_4) (i := 84) rfl)))))) rfl
theorem wd_805 : ((Jvm.Cond.constantLong "EditGuessModel" (170 : Nat) (-3 : Int64)) : Cond) ∈ zG := zgm (List.mem_append_right _ (List.mem_append_right _ (List.mem_append_right _ (List.mem_append_right _ ((List.mem_of_getElem? (l := tables_1_4) (i := 85) rfl)))))) rfl
theorem wd_806 : ((Jvm.Cond.methodLink "EditGuessModel" (150 : Nat) ({ cls := "EditGuessModel", name := "layExamples", desc := "()V" } : Jvm.MethodName)) : Cond) ∈ zG := zgm (List.mem_append_right _ (List.mem_append_right _ (List.mem_append_right _ (List.mem_append_right _ ((List.mem_of_getElem? (l := tables_1_4) (i := 86) rfl)))))) rfl
theorem wd_808 : ((Jvm.Cond.instanceMethod ({ cls := "EditGuessModel", name := "layExamples", desc := "()V" } : Jvm.MethodName)) : Cond) ∈ zG := zgm (List.mem_append_right _ (List.mem_append_right _ (List.mem_append_right _ (List.mem_append_right _ ((List.mem_of_getElem? (l := tables_1_4) (i := 88) rfl)))))) rfl
theorem wd_809 : ((Jvm.Cond.code ({ cls := "EditGuessModel", name := "layExamples", desc := "()V" } : Jvm.MethodName) prog_11_method_24_code (3 : Nat) (Option.none : Option Jvm.ClassFile.FieldType)) : Cond) ∈ zG := zgm (List.mem_append_right _ (List.mem_append_right _ (List.mem_append_right _ (List.mem_append_right _ ((List.mem_of_getElem? (l := tables_1_4) (i := 89) rfl)))))) rfl
theorem wd_810 : ((Jvm.Cond.methodLink "EditGuessModel" (127 : Nat) ({ cls := "EditGuessModel", name := "addWork", desc := "()V" } : Jvm.MethodName)) : Cond) ∈ zG := zgm (List.mem_append_right _ (List.mem_append_right _ (List.mem_append_right _ (List.mem_append_right _ ((List.mem_of_getElem? (l := tables_1_4) (i := 90) rfl)))))) rfl
theorem wd_812 : ((Jvm.Cond.instanceMethod ({ cls := "EditGuessModel", name := "addWork", desc := "()V" } : Jvm.MethodName)) : Cond) ∈ zG := zgm (List.mem_append_right _ (List.mem_append_right _ (List.mem_append_right _ (List.mem_append_right _ ((List.mem_of_getElem? (l := tables_1_4) (i := 92) rfl)))))) rfl
theorem wd_813 : ((Jvm.Cond.code ({ cls := "EditGuessModel", name := "addWork", desc := "()V" } : Jvm.MethodName) prog_11_method_23_code (2 : Nat) (Option.none : Option Jvm.ClassFile.FieldType)) : Cond) ∈ zG := zgm (List.mem_append_right _ (List.mem_append_right _ (List.mem_append_right _ (List.mem_append_right _ ((List.mem_of_getElem? (l := tables_1_4) (i := 93) rfl)))))) rfl
theorem wd_814 : ((Jvm.Cond.methodLink "EditGuessModel" (153 : Nat) ({ cls := "EditGuessModel", name := "count", desc := "()J" } : Jvm.MethodName)) : Cond) ∈ zG := zgm (List.mem_append_right _ (List.mem_append_right _ (List.mem_append_right _ (List.mem_append_right _ ((List.mem_of_getElem? (l := tables_1_4) (i := 94) rfl)))))) rfl
theorem wd_816 : ((Jvm.Cond.instanceMethod ({ cls := "EditGuessModel", name := "count", desc := "()J" } : Jvm.MethodName)) : Cond) ∈ zG := zgm (List.mem_append_right _ (List.mem_append_right _ (List.mem_append_right _ (List.mem_append_right _ ((List.mem_of_getElem? (l := tables_1_4) (i := 96) rfl)))))) rfl
theorem wd_817 : ((Jvm.Cond.code ({ cls := "EditGuessModel", name := "count", desc := "()J" } : Jvm.MethodName) prog_11_method_29_code (6 : Nat) (Option.some Jvm.ClassFile.FieldType.long)) : Cond) ∈ zG := zgm (List.mem_append_right _ (List.mem_append_right _ (List.mem_append_right _ (List.mem_append_right _ ((List.mem_of_getElem? (l := tables_1_4) (i := 97) rfl)))))) rfl
theorem wd_818 : ((Jvm.Cond.methodLink "EditGuessModel" (134 : Nat) ({ cls := "EditGuessModel", name := "rows", desc := "()I" } : Jvm.MethodName)) : Cond) ∈ zG := zgm (List.mem_append_right _ (List.mem_append_right _ (List.mem_append_right _ (List.mem_append_right _ ((List.mem_of_getElem? (l := tables_1_4) (i := 98) rfl)))))) rfl
theorem wd_820 : ((Jvm.Cond.instanceMethod ({ cls := "EditGuessModel", name := "rows", desc := "()I" } : Jvm.MethodName)) : Cond) ∈ zG := zgm (List.mem_append_right _ (List.mem_append_right _ (List.mem_append_right _ (List.mem_append_right _ ((List.mem_of_getElem? (l := tables_1_4) (i := 100) rfl)))))) rfl
theorem wd_821 : ((Jvm.Cond.code ({ cls := "EditGuessModel", name := "rows", desc := "()I" } : Jvm.MethodName) prog_11_method_28_code (1 : Nat) (Option.some Jvm.ClassFile.FieldType.int)) : Cond) ∈ zG := zgm (List.mem_append_right _ (List.mem_append_right _ (List.mem_append_right _ (List.mem_append_right _ ((List.mem_of_getElem? (l := tables_1_4) (i := 101) rfl)))))) rfl
theorem wd_822 : ((Jvm.Cond.methodLink "EditGuessModel" (121 : Nat) ({ cls := "EditGuessModel", name := "power", desc := "(I)I" } : Jvm.MethodName)) : Cond) ∈ zG := zgm (List.mem_append_right _ (List.mem_append_right _ (List.mem_append_right _ (List.mem_append_right _ ((List.mem_of_getElem? (l := tables_1_4) (i := 102) rfl)))))) rfl
theorem wd_823 : ((Jvm.Cond.static ({ cls := "EditGuessModel", name := "power", desc := "(I)I" } : Jvm.MethodName)) : Cond) ∈ zG := zgm (List.mem_append_right _ (List.mem_append_right _ (List.mem_append_right _ (List.mem_append_right _ ((List.mem_of_getElem? (l := tables_1_4) (i := 103) rfl)))))) rfl
theorem wd_824 : ((Jvm.Cond.code ({ cls := "EditGuessModel", name := "power", desc := "(I)I" } : Jvm.MethodName) prog_11_method_21_code (1 : Nat) (Option.some Jvm.ClassFile.FieldType.int)) : Cond) ∈ zG := zgm (List.mem_append_right _ (List.mem_append_right _ (List.mem_append_right _ (List.mem_append_right _ ((List.mem_of_getElem? (l := tables_1_4) (i := 104) rfl)))))) rfl
theorem wd_825 : ((Jvm.Cond.methodLink "EditGuessModel" (137 : Nat) ({ cls := "EditGuessModel", name := "cut", desc := "(III)I" } : Jvm.MethodName)) : Cond) ∈ zG := zgm (List.mem_append_right _ (List.mem_append_right _ (List.mem_append_right _ (List.mem_append_right _ ((List.mem_of_getElem? (l := tables_1_4) (i := 105) rfl)))))) rfl
theorem wd_827 : ((Jvm.Cond.instanceMethod ({ cls := "EditGuessModel", name := "cut", desc := "(III)I" } : Jvm.MethodName)) : Cond) ∈ zG := zgm (List.mem_append_right _ (List.mem_append_right _ (List.mem_append_right _ (List.mem_append_right _ ((List.mem_of_getElem? (l := tables_1_4) (i := 107) rfl)))))) rfl
theorem wd_828 : ((Jvm.Cond.code ({ cls := "EditGuessModel", name := "cut", desc := "(III)I" } : Jvm.MethodName) prog_11_method_25_code (10 : Nat) (Option.some Jvm.ClassFile.FieldType.int)) : Cond) ∈ zG := zgm (List.mem_append_right _ (List.mem_append_right _ (List.mem_append_right _ (List.mem_append_right _ ((List.mem_of_getElem? (l := tables_1_4) (i := 108) rfl)))))) rfl
theorem wd_829 : ((Jvm.Cond.methodLink "EditGuessModel" (130 : Nat) ({ cls := "EditGuessModel", name := "at", desc := "(II)I" } : Jvm.MethodName)) : Cond) ∈ zG := zgm (List.mem_append_right _ (List.mem_append_right _ (List.mem_append_right _ (List.mem_append_right _ ((List.mem_of_getElem? (l := tables_1_4) (i := 109) rfl)))))) rfl
theorem wd_830 : ((Jvm.Cond.static ({ cls := "EditGuessModel", name := "at", desc := "(II)I" } : Jvm.MethodName)) : Cond) ∈ zG := zgm (List.mem_append_right _ (List.mem_append_right _ (List.mem_append_right _ (List.mem_append_right _ ((List.mem_of_getElem? (l := tables_1_4) (i := 110) rfl)))))) rfl
theorem wd_831 : ((Jvm.Cond.code ({ cls := "EditGuessModel", name := "at", desc := "(II)I" } : Jvm.MethodName) prog_11_method_22_code (2 : Nat) (Option.some Jvm.ClassFile.FieldType.int)) : Cond) ∈ zG := zgm (List.mem_append_right _ (List.mem_append_right _ (List.mem_append_right _ (List.mem_append_right _ ((List.mem_of_getElem? (l := tables_1_4) (i := 111) rfl)))))) rfl
theorem wd_832 : ((Jvm.Cond.methodLink "EditGuessModel" (141 : Nat) ({ cls := "EditGuessModel", name := "text", desc := "(II)I" } : Jvm.MethodName)) : Cond) ∈ zG := zgm (List.mem_append_right _ (List.mem_append_right _ (List.mem_append_right _ (List.mem_append_right _ ((List.mem_of_getElem? (l := tables_1_4) (i := 112) rfl)))))) rfl
theorem wd_834 : ((Jvm.Cond.instanceMethod ({ cls := "EditGuessModel", name := "text", desc := "(II)I" } : Jvm.MethodName)) : Cond) ∈ zG := zgm (List.mem_append_right _ (List.mem_append_right _ (List.mem_append_right _ (List.mem_append_right _ ((List.mem_of_getElem? (l := tables_1_4) (i := 114) rfl)))))) rfl
theorem wd_835 : ((Jvm.Cond.code ({ cls := "EditGuessModel", name := "text", desc := "(II)I" } : Jvm.MethodName) prog_11_method_26_code (7 : Nat) (Option.some Jvm.ClassFile.FieldType.int)) : Cond) ∈ zG := zgm (List.mem_append_right _ (List.mem_append_right _ (List.mem_append_right _ (List.mem_append_right _ ((List.mem_of_getElem? (l := tables_1_4) (i := 115) rfl)))))) rfl
theorem wd_836 : ((Jvm.Cond.methodLink "EditGuessModel" (144 : Nat) ({ cls := "EditGuessModel", name := "end", desc := "()I" } : Jvm.MethodName)) : Cond) ∈ zG := zgm (List.mem_append_right _ (List.mem_append_right _ (List.mem_append_right _ (List.mem_append_right _ ((List.mem_of_getElem? (l := tables_1_4) (i := 116) rfl)))))) rfl
theorem wd_838 : ((Jvm.Cond.instanceMethod ({ cls := "EditGuessModel", name := "end", desc := "()I" } : Jvm.MethodName)) : Cond) ∈ zG := zgm (List.mem_append_right _ (List.mem_append_right _ (List.mem_append_right _ (List.mem_append_right _ ((List.mem_of_getElem? (l := tables_1_4) (i := 118) rfl)))))) rfl
theorem wd_839 : ((Jvm.Cond.code ({ cls := "EditGuessModel", name := "end", desc := "()I" } : Jvm.MethodName) prog_11_method_27_code (3 : Nat) (Option.some Jvm.ClassFile.FieldType.int)) : Cond) ∈ zG := zgm (List.mem_append_right _ (List.mem_append_right _ (List.mem_append_right _ (List.mem_append_right _ ((List.mem_of_getElem? (l := tables_1_4) (i := 119) rfl)))))) rfl
theorem wd_840 : ((Jvm.Cond.methodLink "EditGuessLaw" (51 : Nat) ({ cls := "EditGuessModel", name := "cost", desc := "(I)I" } : Jvm.MethodName)) : Cond) ∈ zG := zgm (List.mem_append_right _ (List.mem_append_right _ (List.mem_append_right _ (List.mem_append_right _ ((List.mem_of_getElem? (l := tables_1_4) (i := 120) rfl)))))) rfl
theorem wd_841 : ((Jvm.Cond.instanceMethod ({ cls := "EditGuessModel", name := "cost", desc := "(I)I" } : Jvm.MethodName)) : Cond) ∈ zG := zgm (List.mem_append_right _ (List.mem_append_right _ (List.mem_append_right _ (List.mem_append_right _ ((List.mem_of_getElem? (l := tables_1_4) (i := 121) rfl)))))) rfl
theorem wd_842 : ((Jvm.Cond.selects "EditGuessModel" ({ cls := "EditGuessModel", name := "cost", desc := "(I)I" } : Jvm.MethodName) ({ cls := "EditGuessModel", name := "cost", desc := "(I)I" } : Jvm.MethodName)) : Cond) ∈ zG := zgm (List.mem_append_right _ (List.mem_append_right _ (List.mem_append_right _ (List.mem_append_right _ ((List.mem_of_getElem? (l := tables_1_4) (i := 122) rfl)))))) rfl
theorem wd_843 : ((Jvm.Cond.code ({ cls := "EditGuessModel", name := "cost", desc := "(I)I" } : Jvm.MethodName) prog_11_method_35_code (2 : Nat) (Option.some Jvm.ClassFile.FieldType.int)) : Cond) ∈ zG := zgm (List.mem_append_right _ (List.mem_append_right _ (List.mem_append_right _ (List.mem_append_right _ ((List.mem_of_getElem? (l := tables_1_4) (i := 123) rfl)))))) rfl
theorem wd_844 : ((Jvm.Cond.methodLink "EditGuessModel" (172 : Nat) ({ cls := "EditGuessModel", name := "layBest", desc := "()Z" } : Jvm.MethodName)) : Cond) ∈ zG := zgm (List.mem_append_right _ (List.mem_append_right _ (List.mem_append_right _ (List.mem_append_right _ ((List.mem_of_getElem? (l := tables_1_4) (i := 124) rfl)))))) rfl
theorem wd_846 : ((Jvm.Cond.instanceMethod ({ cls := "EditGuessModel", name := "layBest", desc := "()Z" } : Jvm.MethodName)) : Cond) ∈ zG := zgm (List.mem_append_right _ (List.mem_append_right _ (List.mem_append_right _ (List.mem_append_right _ ((List.mem_of_getElem? (l := tables_1_4) (i := 126) rfl)))))) rfl
theorem wd_847 : ((Jvm.Cond.code ({ cls := "EditGuessModel", name := "layBest", desc := "()Z" } : Jvm.MethodName) prog_11_method_32_code (7 : Nat) (Option.some Jvm.ClassFile.FieldType.boolean)) : Cond) ∈ zG := zgm (List.mem_append_right _ (List.mem_append_right _ (List.mem_append_right _ (List.mem_append_right _ ((List.mem_of_getElem? (l := tables_1_4) (i := 127) rfl)))))) rfl
theorem wd_848 : ((Jvm.Cond.constant "EditGuessModel" (157 : Nat) (1000000 : Int32)) : Cond) ∈ zG := zgm (List.mem_append_right _ (List.mem_append_right _ (List.mem_append_right _ (List.mem_append_right _ ((List.mem_of_getElem? (l := tables_1_4) (i := 128) rfl)))))) rfl
theorem wd_849 : ((Jvm.Cond.methodLink "EditGuessModel" (158 : Nat) ({ cls := "EditGuessModel", name := "costOfCut", desc := "(II)I" } : Jvm.MethodName)) : Cond) ∈ zG := zgm (List.mem_append_right _ (List.mem_append_right _ (List.mem_append_right _ (List.mem_append_right _ ((List.mem_of_getElem? (l := tables_1_4) (i := 129) rfl)))))) rfl
theorem wd_851 : ((Jvm.Cond.instanceMethod ({ cls := "EditGuessModel", name := "costOfCut", desc := "(II)I" } : Jvm.MethodName)) : Cond) ∈ zG := zgm (List.mem_append_right _ (List.mem_append_right _ (List.mem_append_right _ (List.mem_append_right _ ((List.mem_of_getElem? (l := tables_1_4) (i := 131) rfl)))))) rfl
theorem wd_852 : ((Jvm.Cond.code ({ cls := "EditGuessModel", name := "costOfCut", desc := "(II)I" } : Jvm.MethodName) prog_11_method_30_code (3 : Nat) (Option.some Jvm.ClassFile.FieldType.int)) : Cond) ∈ zG := zgm (List.mem_append_right _ (List.mem_append_right _ (List.mem_append_right _ (List.mem_append_right _ ((List.mem_of_getElem? (l := tables_1_4) (i := 132) rfl)))))) rfl
theorem wd_853 : ((Jvm.Cond.methodLink "EditGuessModel" (147 : Nat) ({ cls := "EditGuessModel", name := "costOfMark", desc := "(I)I" } : Jvm.MethodName)) : Cond) ∈ zG := zgm (List.mem_append_right _ (List.mem_append_right _ (List.mem_append_right _ (List.mem_append_right _ ((List.mem_of_getElem? (l := tables_1_4) (i := 133) rfl)))))) rfl
theorem wd_854 : ((Jvm.Cond.static ({ cls := "EditGuessModel", name := "costOfMark", desc := "(I)I" } : Jvm.MethodName)) : Cond) ∈ zG := zgm (List.mem_append_right _ (List.mem_append_right _ (List.mem_append_right _ (List.mem_append_right _ ((List.mem_of_getElem? (l := tables_1_4) (i := 134) rfl)))))) rfl
theorem wd_855 : ((Jvm.Cond.code ({ cls := "EditGuessModel", name := "costOfMark", desc := "(I)I" } : Jvm.MethodName) prog_11_method_4_code (1 : Nat) (Option.some Jvm.ClassFile.FieldType.int)) : Cond) ∈ zG := zgm (List.mem_append_right _ (List.mem_append_right _ (List.mem_append_right _ (List.mem_append_right _ ((List.mem_of_getElem? (l := tables_1_4) (i := 135) rfl)))))) rfl
theorem wd_856 : ((Jvm.Cond.methodLink "EditGuessModel" (167 : Nat) ({ cls := "EditGuessModel", name := "goOn", desc := "(I)I" } : Jvm.MethodName)) : Cond) ∈ zG := zgm (List.mem_append_right _ (List.mem_append_right _ (List.mem_append_right _ (List.mem_append_right _ ((List.mem_of_getElem? (l := tables_1_4) (i := 136) rfl)))))) rfl
theorem wd_858 : ((Jvm.Cond.instanceMethod ({ cls := "EditGuessModel", name := "goOn", desc := "(I)I" } : Jvm.MethodName)) : Cond) ∈ zG := zgm (List.mem_append_right _ (List.mem_append_right _ (List.mem_append_right _ (List.mem_append_right _ ((List.mem_of_getElem? (l := tables_1_4) (i := 138) rfl)))))) rfl
theorem wd_859 : ((Jvm.Cond.code ({ cls := "EditGuessModel", name := "goOn", desc := "(I)I" } : Jvm.MethodName) prog_11_method_33_code (4 : Nat) (Option.some Jvm.ClassFile.FieldType.int)) : Cond) ∈ zG := zgm (List.mem_append_right _ (List.mem_append_right _ (List.mem_append_right _ (List.mem_append_right _ ((List.mem_of_getElem? (l := tables_1_4) (i := 139) rfl)))))) rfl
theorem wd_860 : ((Jvm.Cond.methodLink "EditGuessModel" (176 : Nat) ({ cls := "EditGuessModel", name := "costOfPiece", desc := "(I)I" } : Jvm.MethodName)) : Cond) ∈ zG := zgm (List.mem_append_right _ (List.mem_append_right _ (List.mem_append_right _ (List.mem_append_right _ ((List.mem_of_getElem? (l := tables_1_4) (i := 140) rfl)))))) rfl
theorem wd_862 : ((Jvm.Cond.instanceMethod ({ cls := "EditGuessModel", name := "costOfPiece", desc := "(I)I" } : Jvm.MethodName)) : Cond) ∈ zG := zgm (List.mem_append_right _ (List.mem_append_right _ (List.mem_append_right _ (List.mem_append_right _ ((List.mem_of_getElem? (l := tables_1_4) (i := 142) rfl)))))) rfl
theorem wd_863 : ((Jvm.Cond.code ({ cls := "EditGuessModel", name := "costOfPiece", desc := "(I)I" } : Jvm.MethodName) prog_11_method_31_code (2 : Nat) (Option.some Jvm.ClassFile.FieldType.int)) : Cond) ∈ zG := zgm (List.mem_append_right _ (List.mem_append_right _ (List.mem_append_right _ (List.mem_append_right _ ((List.mem_of_getElem? (l := tables_1_4) (i := 143) rfl)))))) rfl
theorem wd_864 : ((Jvm.Cond.methodLink "EditGuessLaw" (56 : Nat) ({ cls := "EditGuessModel", name := "piece", desc := "(II)I" } : Jvm.MethodName)) : Cond) ∈ zG := zgm (List.mem_append_right _ (List.mem_append_right _ (List.mem_append_right _ (List.mem_append_right _ ((List.mem_of_getElem? (l := tables_1_4) (i := 144) rfl)))))) rfl
theorem wd_865 : ((Jvm.Cond.instanceMethod ({ cls := "EditGuessModel", name := "piece", desc := "(II)I" } : Jvm.MethodName)) : Cond) ∈ zG := zgm (List.mem_append_right _ (List.mem_append_right _ (List.mem_append_right _ (List.mem_append_right _ ((List.mem_of_getElem? (l := tables_1_4) (i := 145) rfl)))))) rfl
theorem wd_866 : ((Jvm.Cond.selects "EditGuessModel" ({ cls := "EditGuessModel", name := "piece", desc := "(II)I" } : Jvm.MethodName) ({ cls := "EditGuessModel", name := "piece", desc := "(II)I" } : Jvm.MethodName)) : Cond) ∈ zG := zgm (List.mem_append_right _ (List.mem_append_right _ (List.mem_append_right _ (List.mem_append_right _ ((List.mem_of_getElem? (l := tables_1_4) (i := 146) rfl)))))) rfl
theorem wd_867 : ((Jvm.Cond.code ({ cls := "EditGuessModel", name := "piece", desc := "(II)I" } : Jvm.MethodName) prog_11_method_36_code (3 : Nat) (Option.some Jvm.ClassFile.FieldType.int)) : Cond) ∈ zG := zgm (List.mem_append_right _ (List.mem_append_right _ (List.mem_append_right _ (List.mem_append_right _ ((List.mem_of_getElem? (l := tables_1_4) (i := 147) rfl)))))) rfl
theorem wd_868 : ((Jvm.Cond.methodLink "EditGuessLaw" (64 : Nat) ({ cls := "EditGuessModel", name := "makes", desc := "(I)I" } : Jvm.MethodName)) : Cond) ∈ zG := zgm (List.mem_append_right _ (List.mem_append_right _ (List.mem_append_right _ (List.mem_append_right _ ((List.mem_of_getElem? (l := tables_1_4) (i := 148) rfl)))))) rfl
theorem wd_869 : ((Jvm.Cond.instanceMethod ({ cls := "EditGuessModel", name := "makes", desc := "(I)I" } : Jvm.MethodName)) : Cond) ∈ zG := zgm (List.mem_append_right _ (List.mem_append_right _ (List.mem_append_right _ (List.mem_append_right _ ((List.mem_of_getElem? (l := tables_1_4) (i := 149) rfl)))))) rfl
theorem wd_870 : ((Jvm.Cond.selects "EditGuessModel" ({ cls := "EditGuessModel", name := "makes", desc := "(I)I" } : Jvm.MethodName) ({ cls := "EditGuessModel", name := "makes", desc := "(I)I" } : Jvm.MethodName)) : Cond) ∈ zG := zgm (List.mem_append_right _ (List.mem_append_right _ (List.mem_append_right _ (List.mem_append_right _ ((List.mem_of_getElem? (l := tables_1_4) (i := 150) rfl)))))) rfl
theorem wd_871 : ((Jvm.Cond.code ({ cls := "EditGuessModel", name := "makes", desc := "(I)I" } : Jvm.MethodName) prog_11_method_38_code (3 : Nat) (Option.some Jvm.ClassFile.FieldType.int)) : Cond) ∈ zG := zgm (List.mem_append_right _ (List.mem_append_right _ (List.mem_append_right _ (List.mem_append_right _ ((List.mem_of_getElem? (l := tables_1_4) (i := 151) rfl)))))) rfl
theorem wd_872 : ((Jvm.Cond.methodLink "EditGuessModel" (179 : Nat) ({ cls := "EditGuessModel", name := "make", desc := "()I" } : Jvm.MethodName)) : Cond) ∈ zG := zgm (List.mem_append_right _ (List.mem_append_right _ (List.mem_append_right _ (List.mem_append_right _ ((List.mem_of_getElem? (l := tables_1_4) (i := 152) rfl)))))) rfl
theorem wd_874 : ((Jvm.Cond.instanceMethod ({ cls := "EditGuessModel", name := "make", desc := "()I" } : Jvm.MethodName)) : Cond) ∈ zG := zgm (List.mem_append_right _ (List.mem_append_right _ (List.mem_append_right _ (List.mem_append_right _ ((List.mem_of_getElem? (l := tables_1_4) (i := 154) rfl)))))) rfl
theorem wd_875 : ((Jvm.Cond.code ({ cls := "EditGuessModel", name := "make", desc := "()I" } : Jvm.MethodName) prog_11_method_37_code (6 : Nat) (Option.some Jvm.ClassFile.FieldType.int)) : Cond) ∈ zG := zgm (List.mem_append_right _ (List.mem_append_right _ (List.mem_append_right _ (List.mem_append_right _ ((List.mem_of_getElem? (l := tables_1_4) (i := 155) rfl)))))) rfl
theorem wd_876 : ((Jvm.Cond.methodLink "EditGuessLaw" (68 : Nat) ({ cls := "EditGuessModel", name := "accept", desc := "(I)I" } : Jvm.MethodName)) : Cond) ∈ zG := zgm (List.mem_append_right _ (List.mem_append_right _ (List.mem_append_right _ (List.mem_append_right _ ((List.mem_of_getElem? (l := tables_1_4) (i := 156) rfl)))))) rfl
theorem wd_877 : ((Jvm.Cond.instanceMethod ({ cls := "EditGuessModel", name := "accept", desc := "(I)I" } : Jvm.MethodName)) : Cond) ∈ zG := zgm (List.mem_append_right _ (List.mem_append_right _ (List.mem_append_right _ (List.mem_append_right _ ((List.mem_of_getElem? (l := tables_1_4) (i := 157) rfl)))))) rfl
theorem wd_878 : ((Jvm.Cond.selects "EditGuessModel" ({ cls := "EditGuessModel", name := "accept", desc := "(I)I" } : Jvm.MethodName) ({ cls := "EditGuessModel", name := "accept", desc := "(I)I" } : Jvm.MethodName)) : Cond) ∈ zG := zgm (List.mem_append_right _ (List.mem_append_right _ (List.mem_append_right _ (List.mem_append_right _ ((List.mem_of_getElem? (l := tables_1_4) (i := 158) rfl)))))) rfl
theorem wd_879 : ((Jvm.Cond.code ({ cls := "EditGuessModel", name := "accept", desc := "(I)I" } : Jvm.MethodName) prog_11_method_39_code (4 : Nat) (Option.some Jvm.ClassFile.FieldType.int)) : Cond) ∈ zG := zgm (List.mem_append_right _ (List.mem_append_right _ (List.mem_append_right _ (List.mem_append_right _ ((List.mem_of_getElem? (l := tables_1_4) (i := 159) rfl)))))) rfl
theorem wd_880 : ((Jvm.Cond.methodLink "EditGuessModel" (182 : Nat) ({ cls := "EditGuessModel", name := "lookAtPool", desc := "(I)V" } : Jvm.MethodName)) : Cond) ∈ zG := zgm (List.mem_append_right _ (List.mem_append_right _ (List.mem_append_right _ (List.mem_append_right _ ((List.mem_of_getElem? (l := tables_1_4) (i := 160) rfl)))))) rfl
theorem wd_882 : ((Jvm.Cond.instanceMethod ({ cls := "EditGuessModel", name := "lookAtPool", desc := "(I)V" } : Jvm.MethodName)) : Cond) ∈ zG := zgm (List.mem_append_right _ (List.mem_append_right _ (List.mem_append_right _ (List.mem_append_right _ ((List.mem_of_getElem? (l := tables_1_4) (i := 162) rfl)))))) rfl
theorem wd_883 : ((Jvm.Cond.code ({ cls := "EditGuessModel", name := "lookAtPool", desc := "(I)V" } : Jvm.MethodName) prog_11_method_17_code (3 : Nat) (Option.none : Option Jvm.ClassFile.FieldType)) : Cond) ∈ zG := zgm (List.mem_append_right _ (List.mem_append_right _ (List.mem_append_right _ (List.mem_append_right _ ((List.mem_of_getElem? (l := tables_1_4) (i := 163) rfl)))))) rfl
theorem wd_884 : ((Jvm.Cond.methodLink "EditGuessLaw" (73 : Nat) ({ cls := "EditGuessModel", name := "agreeing", desc := "(I)J" } : Jvm.MethodName)) : Cond) ∈ zG := zgm (List.mem_append_right _ (List.mem_append_right _ (List.mem_append_right _ (List.mem_append_right _ ((List.mem_of_getElem? (l := tables_1_4) (i := 164) rfl)))))) rfl
theorem wd_885 : ((Jvm.Cond.instanceMethod ({ cls := "EditGuessModel", name := "agreeing", desc := "(I)J" } : Jvm.MethodName)) : Cond) ∈ zG := zgm (List.mem_append_right _ (List.mem_append_right _ (List.mem_append_right _ (List.mem_append_right _ ((List.mem_of_getElem? (l := tables_1_4) (i := 165) rfl)))))) rfl
theorem wd_886 : ((Jvm.Cond.selects "EditGuessModel" ({ cls := "EditGuessModel", name := "agreeing", desc := "(I)J" } : Jvm.MethodName) ({ cls := "EditGuessModel", name := "agreeing", desc := "(I)J" } : Jvm.MethodName)) : Cond) ∈ zG := zgm (List.mem_append_right _ (List.mem_append_right _ (List.mem_append_right _ (List.mem_append_right _ ((List.mem_of_getElem? (l := tables_1_4) (i := 166) rfl)))))) rfl
theorem wd_887 : ((Jvm.Cond.code ({ cls := "EditGuessModel", name := "agreeing", desc := "(I)J" } : Jvm.MethodName) prog_11_method_41_code (2 : Nat) (Option.some Jvm.ClassFile.FieldType.long)) : Cond) ∈ zG := zgm (List.mem_append_right _ (List.mem_append_right _ (List.mem_append_right _ (List.mem_append_right _ ((List.mem_of_getElem? (l := tables_1_4) (i := 167) rfl)))))) rfl
theorem wd_888 : ((Jvm.Cond.constantLong "EditGuessModel" (187 : Nat) (-1 : Int64)) : Cond) ∈ zG := zgm (List.mem_append_right _ (List.mem_append_right _ (List.mem_append_right _ (List.mem_append_right _ ((List.mem_of_getElem? (l := tables_1_4) (i := 168) rfl)))))) rfl
theorem wd_889 : ((Jvm.Cond.methodLink "EditGuessModel" (189 : Nat) ({ cls := "EditGuessModel", name := "agreeingOf", desc := "(I)J" } : Jvm.MethodName)) : Cond) ∈ zG := zgm (List.mem_append_right _ (List.mem_append_right _ (List.mem_append_right _ (List.mem_append_right _ ((List.mem_of_getElem? (l := tables_1_4) (i := 169) rfl)))))) rfl
theorem wd_891 : ((Jvm.Cond.instanceMethod ({ cls := "EditGuessModel", name := "agreeingOf", desc := "(I)J" } : Jvm.MethodName)) : Cond) ∈ zG := zgm (List.mem_append_right _ (List.mem_append_right _ (List.mem_append_right _ (List.mem_append_right _ ((List.mem_of_getElem? (l := tables_1_4) (i := 171) rfl)))))) rfl
theorem wd_892 : ((Jvm.Cond.code ({ cls := "EditGuessModel", name := "agreeingOf", desc := "(I)J" } : Jvm.MethodName) prog_11_method_40_code (4 : Nat) (Option.some Jvm.ClassFile.FieldType.long)) : Cond) ∈ zG := zgm (List.mem_append_right _ (List.mem_append_right _ (List.mem_append_right _ (List.mem_append_right _ ((List.mem_of_getElem? (l := tables_1_4) (i := 172) rfl)))))) rfl
theorem wd_893 : ((Jvm.Cond.constantLong "EditGuessModel" (185 : Nat) (-5 : Int64)) : Cond) ∈ zG := zgm (List.mem_append_right _ (List.mem_append_right _ (List.mem_append_right _ (List.mem_append_right _ ((List.mem_of_getElem? (l := tables_1_4) (i := 173) rfl)))))) rfl
theorem wd_894 : ((Jvm.Cond.methodLink "EditGuessLaw" (77 : Nat) ({ cls := "EditGuessModel", name := "asked", desc := "()I" } : Jvm.MethodName)) : Cond) ∈ zG := zgm (List.mem_append_right _ (List.mem_append_right _ (List.mem_append_right _ (List.mem_append_right _ ((List.mem_of_getElem? (l := tables_1_4) (i := 174) rfl)))))) rfl
theorem wd_895 : ((Jvm.Cond.instanceMethod ({ cls := "EditGuessModel", name := "asked", desc := "()I" } : Jvm.MethodName)) : Cond) ∈ zG := zgm (List.mem_append_right _ (List.mem_append_right _ (List.mem_append_right _ (List.mem_append_right _ ((List.mem_of_getElem? (l := tables_1_4) (i := 175) rfl)))))) rfl
theorem wd_896 : ((Jvm.Cond.selects "EditGuessModel" ({ cls := "EditGuessModel", name := "asked", desc := "()I" } : Jvm.MethodName) ({ cls := "EditGuessModel", name := "asked", desc := "()I" } : Jvm.MethodName)) : Cond) ∈ zG := zgm (List.mem_append_right _ (List.mem_append_right _ (List.mem_append_right _ (List.mem_append_right _ ((List.mem_of_getElem? (l := tables_1_4) (i := 176) rfl)))))) rfl
theorem wd_897 : ((Jvm.Cond.code ({ cls := "EditGuessModel", name := "asked", desc := "()I" } : Jvm.MethodName) prog_11_method_42_code (8 : Nat) (Option.some Jvm.ClassFile.FieldType.int)) : Cond) ∈ zG := zgm (List.mem_append_right _ (List.mem_append_right _ (List.mem_append_right _ (List.mem_append_right _ ((List.mem_of_getElem? (l := tables_1_4) (i := 177) rfl)))))) rfl
theorem wd_898 : ((Jvm.Cond.methodLink "EditGuessLaw" (81 : Nat) ({ cls := "EditGuessModel", name := "image", desc := "(I)I" } : Jvm.MethodName)) : Cond) ∈ zG := zgm (List.mem_append_right _ (List.mem_append_right _ (List.mem_append_right _ (List.mem_append_right _ ((List.mem_of_getElem? (l := tables_1_4) (i := 178) rfl)))))) rfl
theorem wd_899 : ((Jvm.Cond.instanceMethod ({ cls := "EditGuessModel", name := "image", desc := "(I)I" } : Jvm.MethodName)) : Cond) ∈ zG := zgm (List.mem_append_right _ (List.mem_append_right _ (List.mem_append_right _ (List.mem_append_right _ ((List.mem_of_getElem? (l := tables_1_4) (i := 179) rfl)))))) rfl
theorem wd_900 : ((Jvm.Cond.selects "EditGuessModel" ({ cls := "EditGuessModel", name := "image", desc := "(I)I" } : Jvm.MethodName) ({ cls := "EditGuessModel", name := "image", desc := "(I)I" } : Jvm.MethodName)) : Cond) ∈ zG := zgm (List.mem_append_right _ (List.mem_append_right _ (List.mem_append_right _ (List.mem_append_right _ ((List.mem_of_getElem? (l := tables_1_4) (i := 180) rfl)))))) rfl
theorem wd_901 : ((Jvm.Cond.code ({ cls := "EditGuessModel", name := "image", desc := "(I)I" } : Jvm.MethodName) prog_11_method_43_code (4 : Nat) (Option.some Jvm.ClassFile.FieldType.int)) : Cond) ∈ zG := zgm (List.mem_append_right _ (List.mem_append_right _ (List.mem_append_right _ (List.mem_append_right _ ((List.mem_of_getElem? (l := tables_1_4) (i := 181) rfl)))))) rfl
theorem wd_902 : ((Jvm.Cond.methodLink "EditGuessLaw" (85 : Nat) ({ cls := "EditGuessModel", name := "restore", desc := "(I)I" } : Jvm.MethodName)) : Cond) ∈ zG := zgm (List.mem_append_right _ (List.mem_append_right _ (List.mem_append_right _ (List.mem_append_right _ ((List.mem_of_getElem? (l := tables_1_4) (i := 182) rfl)))))) rfl
theorem wd_903 : ((Jvm.Cond.instanceMethod ({ cls := "EditGuessModel", name := "restore", desc := "(I)I" } : Jvm.MethodName)) : Cond) ∈ zG := zgm (List.mem_append_right _ (List.mem_append_right _ (List.mem_append_right _ (List.mem_append_right _ ((List.mem_of_getElem? (l := tables_1_4) (i := 183) rfl)))))) rfl
theorem wd_904 : ((Jvm.Cond.selects "EditGuessModel" ({ cls := "EditGuessModel", name := "restore", desc := "(I)I" } : Jvm.MethodName) ({ cls := "EditGuessModel", name := "restore", desc := "(I)I" } : Jvm.MethodName)) : Cond) ∈ zG := zgm (List.mem_append_right _ (List.mem_append_right _ (List.mem_append_right _ (List.mem_append_right _ ((List.mem_of_getElem? (l := tables_1_4) (i := 184) rfl)))))) rfl
theorem wd_905 : ((Jvm.Cond.code ({ cls := "EditGuessModel", name := "restore", desc := "(I)I" } : Jvm.MethodName) prog_11_method_44_code (4 : Nat) (Option.some Jvm.ClassFile.FieldType.int)) : Cond) ∈ zG := zgm (List.mem_append_right _ (List.mem_append_right _ (List.mem_append_right _ (List.mem_append_right _ ((List.mem_of_getElem? (l := tables_1_4) (i := 185) rfl)))))) rfl
theorem wd_906 : ((Jvm.Cond.methodLink "EditGuessLaw" (89 : Nat) ({ cls := "EditGuessModel", name := "told", desc := "(I)I" } : Jvm.MethodName)) : Cond) ∈ zG := zgm (List.mem_append_right _ (List.mem_append_right _ (List.mem_append_right _ (List.mem_append_right _ ((List.mem_of_getElem? (l := tables_1_4) (i := 186) rfl)))))) rfl
theorem wd_907 : ((Jvm.Cond.instanceMethod ({ cls := "EditGuessModel", name := "told", desc := "(I)I" } : Jvm.MethodName)) : Cond) ∈ zG := zgm (List.mem_append_right _ (List.mem_append_right _ (List.mem_append_right _ (List.mem_append_right _ ((List.mem_of_getElem? (l := tables_1_4) (i := 187) rfl)))))) rfl
theorem wd_908 : ((Jvm.Cond.selects "EditGuessModel" ({ cls := "EditGuessModel", name := "told", desc := "(I)I" } : Jvm.MethodName) ({ cls := "EditGuessModel", name := "told", desc := "(I)I" } : Jvm.MethodName)) : Cond) ∈ zG := zgm (List.mem_append_right _ (List.mem_append_right _ (List.mem_append_right _ (List.mem_append_right _ ((List.mem_of_getElem? (l := tables_1_4) (i := 188) rfl)))))) rfl
theorem wd_909 : ((Jvm.Cond.code ({ cls := "EditGuessModel", name := "told", desc := "(I)I" } : Jvm.MethodName) prog_11_method_45_code (2 : Nat) (Option.some Jvm.ClassFile.FieldType.int)) : Cond) ∈ zG := zgm (List.mem_append_right _ (List.mem_append_right _ (List.mem_append_right _ (List.mem_append_right _ ((List.mem_of_getElem? (l := tables_1_4) (i := 189) rfl)))))) rfl
end
