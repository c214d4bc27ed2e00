section
-- ===== PART A: goes FIRST, ahead of the names: the tables' words, and 'selects' of the private methods out of them =====
/-- a private method of a class that the tables say can be made, by its rows of tables_1 -/
def lw_okq (q : MethodName × Nat) : Prop := (q.1.cls ≠ "java/lang/invoke/MethodHandle" ∧ q.1.cls ≠ "java/lang/invoke/VarHandle") ∧ Cond.instantiable q.1.cls q.2 ∈ tables_1 ∧ Cond.privateMethod q.1 ∈ tables_1 ∧ Cond.instanceMethod q.1 ∈ tables_1
theorem lw_p0 : lw_okq (⟨"EditGuess", "poolChanged", "()V"⟩, 10) := ⟨⟨by decide +kernel, by decide +kernel⟩, List.mem_of_getElem? (i := 13) (by decide +kernel), List.mem_of_getElem? (i := 181) (by decide +kernel), List.mem_of_getElem? (i := 182) (by decide +kernel)⟩
theorem lw_p1 : lw_okq (⟨"EditGuess", "exampleFault", "()I"⟩, 10) := ⟨⟨by decide +kernel, by decide +kernel⟩, List.mem_of_getElem? (i := 13) (by decide +kernel), List.mem_of_getElem? (i := 244) (by decide +kernel), List.mem_of_getElem? (i := 245) (by decide +kernel)⟩
theorem lw_p2 : lw_okq (⟨"EditGuess", "lineFault", "()I"⟩, 10) := ⟨⟨by decide +kernel, by decide +kernel⟩, List.mem_of_getElem? (i := 13) (by decide +kernel), List.mem_of_getElem? (i := 260) (by decide +kernel), List.mem_of_getElem? (i := 261) (by decide +kernel)⟩
theorem lw_p3 : lw_okq (⟨"EditGuess", "examplesChanged", "()V"⟩, 10) := ⟨⟨by decide +kernel, by decide +kernel⟩, List.mem_of_getElem? (i := 13) (by decide +kernel), List.mem_of_getElem? (i := 284) (by decide +kernel), List.mem_of_getElem? (i := 285) (by decide +kernel)⟩
theorem lw_p4 : lw_okq (⟨"EditGuess", "guess", "()V"⟩, 10) := ⟨⟨by decide +kernel, by decide +kernel⟩, List.mem_of_getElem? (i := 13) (by decide +kernel), List.mem_of_getElem? (i := 332) (by decide +kernel), List.mem_of_getElem? (i := 333) (by decide +kernel)⟩
theorem lw_p5 : lw_okq (⟨"EditGuess$Row", "countAlike", "(LEditGuess$Signs;II)I"⟩, 3) := ⟨⟨by decide +kernel, by decide +kernel⟩, List.mem_of_getElem? (i := 94) (by decide +kernel), List.mem_of_getElem? (i := 377) (by decide +kernel), List.mem_of_getElem? (i := 378) (by decide +kernel)⟩
theorem lw_p6 : lw_okq (⟨"EditGuess$Fitting", "groupMarks", "()V"⟩, 10) := ⟨⟨by decide +kernel, by decide +kernel⟩, List.mem_of_getElem? (i := 67) (by decide +kernel), List.mem_of_getElem? (i := 387) (by decide +kernel), List.mem_of_getElem? (i := 388) (by decide +kernel)⟩
theorem lw_p7 : lw_okq (⟨"EditGuess$Fitting", "isToldInAll", "(I)Z"⟩, 10) := ⟨⟨by decide +kernel, by decide +kernel⟩, List.mem_of_getElem? (i := 67) (by decide +kernel), List.mem_of_getElem? (i := 391) (by decide +kernel), List.mem_of_getElem? (i := 392) (by decide +kernel)⟩
theorem lw_p8 : lw_okq (⟨"EditGuess$Fitting", "joinGroup", "(I)V"⟩, 10) := ⟨⟨by decide +kernel, by decide +kernel⟩, List.mem_of_getElem? (i := 67) (by decide +kernel), List.mem_of_getElem? (i := 399) (by decide +kernel), List.mem_of_getElem? (i := 400) (by decide +kernel)⟩
theorem lw_p9 : lw_okq (⟨"EditGuess$Fitting", "tellSame", "(II)Z"⟩, 10) := ⟨⟨by decide +kernel, by decide +kernel⟩, List.mem_of_getElem? (i := 67) (by decide +kernel), List.mem_of_getElem? (i := 403) (by decide +kernel), List.mem_of_getElem? (i := 404) (by decide +kernel)⟩
theorem lw_p10 : lw_okq (⟨"EditGuess$Fitting", "lastState", "()I"⟩, 10) := ⟨⟨by decide +kernel, by decide +kernel⟩, List.mem_of_getElem? (i := 67) (by decide +kernel), List.mem_of_getElem? (i := 413) (by decide +kernel), List.mem_of_getElem? (i := 414) (by decide +kernel)⟩
theorem lw_p11 : lw_okq (⟨"EditGuess$Fitting", "listMoves", "(I)V"⟩, 10) := ⟨⟨by decide +kernel, by decide +kernel⟩, List.mem_of_getElem? (i := 67) (by decide +kernel), List.mem_of_getElem? (i := 422) (by decide +kernel), List.mem_of_getElem? (i := 423) (by decide +kernel)⟩
theorem lw_p12 : lw_okq (⟨"EditGuess$Fitting", "reach", "(I)V"⟩, 10) := ⟨⟨by decide +kernel, by decide +kernel⟩, List.mem_of_getElem? (i := 67) (by decide +kernel), List.mem_of_getElem? (i := 430) (by decide +kernel), List.mem_of_getElem? (i := 431) (by decide +kernel)⟩
theorem lw_p13 : lw_okq (⟨"EditGuess$Fitting", "canBegin", "(I)Z"⟩, 10) := ⟨⟨by decide +kernel, by decide +kernel⟩, List.mem_of_getElem? (i := 67) (by decide +kernel), List.mem_of_getElem? (i := 434) (by decide +kernel), List.mem_of_getElem? (i := 435) (by decide +kernel)⟩
theorem lw_p14 : lw_okq (⟨"EditGuess$Fitting", "listCuts", "(II)V"⟩, 10) := ⟨⟨by decide +kernel, by decide +kernel⟩, List.mem_of_getElem? (i := 67) (by decide +kernel), List.mem_of_getElem? (i := 442) (by decide +kernel), List.mem_of_getElem? (i := 443) (by decide +kernel)⟩
theorem lw_p15 : lw_okq (⟨"EditGuess$Fitting", "cutTarget", "(III)I"⟩, 10) := ⟨⟨by decide +kernel, by decide +kernel⟩, List.mem_of_getElem? (i := 67) (by decide +kernel), List.mem_of_getElem? (i := 446) (by decide +kernel), List.mem_of_getElem? (i := 447) (by decide +kernel)⟩
def lw_privs_1 : List (MethodName × Nat) := [(⟨"EditGuess", "poolChanged", "()V"⟩, 10), (⟨"EditGuess", "exampleFault", "()I"⟩, 10), (⟨"EditGuess", "lineFault", "()I"⟩, 10), (⟨"EditGuess", "examplesChanged", "()V"⟩, 10), (⟨"EditGuess", "guess", "()V"⟩, 10), (⟨"EditGuess$Row", "countAlike", "(LEditGuess$Signs;II)I"⟩, 3), (⟨"EditGuess$Fitting", "groupMarks", "()V"⟩, 10), (⟨"EditGuess$Fitting", "isToldInAll", "(I)Z"⟩, 10), (⟨"EditGuess$Fitting", "joinGroup", "(I)V"⟩, 10), (⟨"EditGuess$Fitting", "tellSame", "(II)Z"⟩, 10), (⟨"EditGuess$Fitting", "lastState", "()I"⟩, 10), (⟨"EditGuess$Fitting", "listMoves", "(I)V"⟩, 10), (⟨"EditGuess$Fitting", "reach", "(I)V"⟩, 10), (⟨"EditGuess$Fitting", "canBegin", "(I)Z"⟩, 10), (⟨"EditGuess$Fitting", "listCuts", "(II)V"⟩, 10), (⟨"EditGuess$Fitting", "cutTarget", "(III)I"⟩, 10)]
theorem lw_r1 : ∀ q ∈ lw_privs_1, lw_okq q := List.forall_mem_cons.mpr ⟨lw_p0, List.forall_mem_cons.mpr ⟨lw_p1, List.forall_mem_cons.mpr ⟨lw_p2, List.forall_mem_cons.mpr ⟨lw_p3, List.forall_mem_cons.mpr ⟨lw_p4, List.forall_mem_cons.mpr ⟨lw_p5, List.forall_mem_cons.mpr ⟨lw_p6, List.forall_mem_cons.mpr ⟨lw_p7, List.forall_mem_cons.mpr ⟨lw_p8, List.forall_mem_cons.mpr ⟨lw_p9, List.forall_mem_cons.mpr ⟨lw_p10, List.forall_mem_cons.mpr ⟨lw_p11, List.forall_mem_cons.mpr ⟨lw_p12, List.forall_mem_cons.mpr ⟨lw_p13, List.forall_mem_cons.mpr ⟨lw_p14, List.forall_mem_cons.mpr ⟨lw_p15, fun _ h => absurd h List.not_mem_nil⟩⟩⟩⟩⟩⟩⟩⟩⟩⟩⟩⟩⟩⟩⟩⟩
theorem lw_p16 : lw_okq (⟨"EditGuess$Fitting", "longestText", "()I"⟩, 10) := ⟨⟨by decide +kernel, by decide +kernel⟩, List.mem_of_getElem? (i := 67) (by decide +kernel), List.mem_of_getElem? (i := 463) (by decide +kernel), List.mem_of_getElem? (i := 464) (by decide +kernel)⟩
theorem lw_p17 : lw_okq (⟨"EditGuess$Fitting", "isNextInAll", "(I)Z"⟩, 10) := ⟨⟨by decide +kernel, by decide +kernel⟩, List.mem_of_getElem? (i := 67) (by decide +kernel), List.mem_of_getElem? (i := 467) (by decide +kernel), List.mem_of_getElem? (i := 468) (by decide +kernel)⟩
theorem lw_p18 : lw_okq (⟨"EditGuess$Fitting", "textTarget", "(II)I"⟩, 10) := ⟨⟨by decide +kernel, by decide +kernel⟩, List.mem_of_getElem? (i := 67) (by decide +kernel), List.mem_of_getElem? (i := 472) (by decide +kernel), List.mem_of_getElem? (i := 473) (by decide +kernel)⟩
theorem lw_p19 : lw_okq (⟨"EditGuess$Fitting", "addWays", "(IJ)V"⟩, 10) := ⟨⟨by decide +kernel, by decide +kernel⟩, List.mem_of_getElem? (i := 67) (by decide +kernel), List.mem_of_getElem? (i := 491) (by decide +kernel), List.mem_of_getElem? (i := 492) (by decide +kernel)⟩
theorem lw_p20 : lw_okq (⟨"EditGuess$Fitting", "leastFrom", "(I)I"⟩, 10) := ⟨⟨by decide +kernel, by decide +kernel⟩, List.mem_of_getElem? (i := 67) (by decide +kernel), List.mem_of_getElem? (i := 508) (by decide +kernel), List.mem_of_getElem? (i := 509) (by decide +kernel)⟩
theorem lw_p21 : lw_okq (⟨"EditGuess$Fitting", "tellCut", "(ILEditGuess$Plan;)I"⟩, 10) := ⟨⟨by decide +kernel, by decide +kernel⟩, List.mem_of_getElem? (i := 67) (by decide +kernel), List.mem_of_getElem? (i := 516) (by decide +kernel), List.mem_of_getElem? (i := 517) (by decide +kernel)⟩
theorem lw_p22 : lw_okq (⟨"EditGuess$Fitting", "tellText", "(ILEditGuess$Plan;)I"⟩, 10) := ⟨⟨by decide +kernel, by decide +kernel⟩, List.mem_of_getElem? (i := 67) (by decide +kernel), List.mem_of_getElem? (i := 532) (by decide +kernel), List.mem_of_getElem? (i := 533) (by decide +kernel)⟩
theorem lw_p23 : lw_okq (⟨"EditGuess", "makesResult", "(I)Z"⟩, 10) := ⟨⟨by decide +kernel, by decide +kernel⟩, List.mem_of_getElem? (i := 13) (by decide +kernel), List.mem_of_getElem? (i := 605) (by decide +kernel), List.mem_of_getElem? (i := 606) (by decide +kernel)⟩
theorem lw_p24 : lw_okq (⟨"EditGuess", "countAgreeing", "(I)J"⟩, 10) := ⟨⟨by decide +kernel, by decide +kernel⟩, List.mem_of_getElem? (i := 13) (by decide +kernel), List.mem_of_getElem? (i := 617) (by decide +kernel), List.mem_of_getElem? (i := 618) (by decide +kernel)⟩
theorem lw_p25 : lw_okq (⟨"EditGuessModel", "exampleFault", "()I"⟩, 28) := ⟨⟨by decide +kernel, by decide +kernel⟩, List.mem_of_getElem? (i := 646) (by decide +kernel), List.mem_of_getElem? (i := 755) (by decide +kernel), List.mem_of_getElem? (i := 756) (by decide +kernel)⟩
theorem lw_p26 : lw_okq (⟨"EditGuessModel", "lineFault", "()I"⟩, 28) := ⟨⟨by decide +kernel, by decide +kernel⟩, List.mem_of_getElem? (i := 646) (by decide +kernel), List.mem_of_getElem? (i := 762) (by decide +kernel), List.mem_of_getElem? (i := 763) (by decide +kernel)⟩
theorem lw_p27 : lw_okq (⟨"EditGuessModel", "goFrom", "(I)V"⟩, 28) := ⟨⟨by decide +kernel, by decide +kernel⟩, List.mem_of_getElem? (i := 646) (by decide +kernel), List.mem_of_getElem? (i := 782) (by decide +kernel), List.mem_of_getElem? (i := 783) (by decide +kernel)⟩
theorem lw_p28 : lw_okq (⟨"EditGuessModel", "lookAtPad", "()V"⟩, 28) := ⟨⟨by decide +kernel, by decide +kernel⟩, List.mem_of_getElem? (i := 646) (by decide +kernel), List.mem_of_getElem? (i := 790) (by decide +kernel), List.mem_of_getElem? (i := 791) (by decide +kernel)⟩
theorem lw_p29 : lw_okq (⟨"EditGuessModel", "placeOf", "(I)I"⟩, 28) := ⟨⟨by decide +kernel, by decide +kernel⟩, List.mem_of_getElem? (i := 646) (by decide +kernel), List.mem_of_getElem? (i := 794) (by decide +kernel), List.mem_of_getElem? (i := 795) (by decide +kernel)⟩
theorem lw_p30 : lw_okq (⟨"EditGuessModel", "runAt", "(IIZ)I"⟩, 28) := ⟨⟨by decide +kernel, by decide +kernel⟩, List.mem_of_getElem? (i := 646) (by decide +kernel), List.mem_of_getElem? (i := 798) (by decide +kernel), List.mem_of_getElem? (i := 799) (by decide +kernel)⟩
theorem lw_p31 : lw_okq (⟨"EditGuessModel", "layExamples", "()V"⟩, 28) := ⟨⟨by decide +kernel, by decide +kernel⟩, List.mem_of_getElem? (i := 646) (by decide +kernel), List.mem_of_getElem? (i := 807) (by decide +kernel), List.mem_of_getElem? (i := 808) (by decide +kernel)⟩
def lw_privs_2 : List (MethodName × Nat) := [(⟨"EditGuess$Fitting", "longestText", "()I"⟩, 10), (⟨"EditGuess$Fitting", "isNextInAll", "(I)Z"⟩, 10), (⟨"EditGuess$Fitting", "textTarget", "(II)I"⟩, 10), (⟨"EditGuess$Fitting", "addWays", "(IJ)V"⟩, 10), (⟨"EditGuess$Fitting", "leastFrom", "(I)I"⟩, 10), (⟨"EditGuess$Fitting", "tellCut", "(ILEditGuess$Plan;)I"⟩, 10), (⟨"EditGuess$Fitting", "tellText", "(ILEditGuess$Plan;)I"⟩, 10), (⟨"EditGuess", "makesResult", "(I)Z"⟩, 10), (⟨"EditGuess", "countAgreeing", "(I)J"⟩, 10), (⟨"EditGuessModel", "exampleFault", "()I"⟩, 28), (⟨"EditGuessModel", "lineFault", "()I"⟩, 28), (⟨"EditGuessModel", "goFrom", "(I)V"⟩, 28), (⟨"EditGuessModel", "lookAtPad", "()V"⟩, 28), (⟨"EditGuessModel", "placeOf", "(I)I"⟩, 28), (⟨"EditGuessModel", "runAt", "(IIZ)I"⟩, 28), (⟨"EditGuessModel", "layExamples", "()V"⟩, 28)]
theorem lw_r2 : ∀ q ∈ lw_privs_2, lw_okq q := List.forall_mem_cons.mpr ⟨lw_p16, List.forall_mem_cons.mpr ⟨lw_p17, List.forall_mem_cons.mpr ⟨lw_p18, List.forall_mem_cons.mpr ⟨lw_p19, List.forall_mem_cons.mpr ⟨lw_p20, List.forall_mem_cons.mpr ⟨lw_p21, List.forall_mem_cons.mpr ⟨lw_p22, List.forall_mem_cons.mpr ⟨lw_p23, List.forall_mem_cons.mpr ⟨lw_p24, List.forall_mem_cons.mpr ⟨lw_p25, List.forall_mem_cons.mpr ⟨lw_p26, List.forall_mem_cons.mpr ⟨lw_p27, List.forall_mem_cons.mpr ⟨lw_p28, List.forall_mem_cons.mpr ⟨lw_p29, List.forall_mem_cons.mpr ⟨lw_p30, List.forall_mem_cons.mpr ⟨lw_p31, fun _ h => absurd h List.not_mem_nil⟩⟩⟩⟩⟩⟩⟩⟩⟩⟩⟩⟩⟩⟩⟩⟩
theorem lw_p32 : lw_okq (⟨"EditGuessModel", "addWork", "()V"⟩, 28) := ⟨⟨by decide +kernel, by decide +kernel⟩, List.mem_of_getElem? (i := 646) (by decide +kernel), List.mem_of_getElem? (i := 811) (by decide +kernel), List.mem_of_getElem? (i := 812) (by decide +kernel)⟩
theorem lw_p33 : lw_okq (⟨"EditGuessModel", "count", "()J"⟩, 28) := ⟨⟨by decide +kernel, by decide +kernel⟩, List.mem_of_getElem? (i := 646) (by decide +kernel), List.mem_of_getElem? (i := 815) (by decide +kernel), List.mem_of_getElem? (i := 816) (by decide +kernel)⟩
theorem lw_p34 : lw_okq (⟨"EditGuessModel", "rows", "()I"⟩, 28) := ⟨⟨by decide +kernel, by decide +kernel⟩, List.mem_of_getElem? (i := 646) (by decide +kernel), List.mem_of_getElem? (i := 819) (by decide +kernel), List.mem_of_getElem? (i := 820) (by decide +kernel)⟩
theorem lw_p35 : lw_okq (⟨"EditGuessModel", "cut", "(III)I"⟩, 28) := ⟨⟨by decide +kernel, by decide +kernel⟩, List.mem_of_getElem? (i := 646) (by decide +kernel), List.mem_of_getElem? (i := 826) (by decide +kernel), List.mem_of_getElem? (i := 827) (by decide +kernel)⟩
theorem lw_p36 : lw_okq (⟨"EditGuessModel", "text", "(II)I"⟩, 28) := ⟨⟨by decide +kernel, by decide +kernel⟩, List.mem_of_getElem? (i := 646) (by decide +kernel), List.mem_of_getElem? (i := 833) (by decide +kernel), List.mem_of_getElem? (i := 834) (by decide +kernel)⟩
theorem lw_p37 : lw_okq (⟨"EditGuessModel", "end", "()I"⟩, 28) := ⟨⟨by decide +kernel, by decide +kernel⟩, List.mem_of_getElem? (i := 646) (by decide +kernel), List.mem_of_getElem? (i := 837) (by decide +kernel), List.mem_of_getElem? (i := 838) (by decide +kernel)⟩
theorem lw_p38 : lw_okq (⟨"EditGuessModel", "layBest", "()Z"⟩, 28) := ⟨⟨by decide +kernel, by decide +kernel⟩, List.mem_of_getElem? (i := 646) (by decide +kernel), List.mem_of_getElem? (i := 845) (by decide +kernel), List.mem_of_getElem? (i := 846) (by decide +kernel)⟩
theorem lw_p39 : lw_okq (⟨"EditGuessModel", "costOfCut", "(II)I"⟩, 28) := ⟨⟨by decide +kernel, by decide +kernel⟩, List.mem_of_getElem? (i := 646) (by decide +kernel), List.mem_of_getElem? (i := 850) (by decide +kernel), List.mem_of_getElem? (i := 851) (by decide +kernel)⟩
theorem lw_p40 : lw_okq (⟨"EditGuessModel", "goOn", "(I)I"⟩, 28) := ⟨⟨by decide +kernel, by decide +kernel⟩, List.mem_of_getElem? (i := 646) (by decide +kernel), List.mem_of_getElem? (i := 857) (by decide +kernel), List.mem_of_getElem? (i := 858) (by decide +kernel)⟩
theorem lw_p41 : lw_okq (⟨"EditGuessModel", "costOfPiece", "(I)I"⟩, 28) := ⟨⟨by decide +kernel, by decide +kernel⟩, List.mem_of_getElem? (i := 646) (by decide +kernel), List.mem_of_getElem? (i := 861) (by decide +kernel), List.mem_of_getElem? (i := 862) (by decide +kernel)⟩
theorem lw_p42 : lw_okq (⟨"EditGuessModel", "make", "()I"⟩, 28) := ⟨⟨by decide +kernel, by decide +kernel⟩, List.mem_of_getElem? (i := 646) (by decide +kernel), List.mem_of_getElem? (i := 873) (by decide +kernel), List.mem_of_getElem? (i := 874) (by decide +kernel)⟩
theorem lw_p43 : lw_okq (⟨"EditGuessModel", "lookAtPool", "(I)V"⟩, 28) := ⟨⟨by decide +kernel, by decide +kernel⟩, List.mem_of_getElem? (i := 646) (by decide +kernel), List.mem_of_getElem? (i := 881) (by decide +kernel), List.mem_of_getElem? (i := 882) (by decide +kernel)⟩
theorem lw_p44 : lw_okq (⟨"EditGuessModel", "agreeingOf", "(I)J"⟩, 28) := ⟨⟨by decide +kernel, by decide +kernel⟩, List.mem_of_getElem? (i := 646) (by decide +kernel), List.mem_of_getElem? (i := 890) (by decide +kernel), List.mem_of_getElem? (i := 891) (by decide +kernel)⟩
def lw_privs_3 : List (MethodName × Nat) := [(⟨"EditGuessModel", "addWork", "()V"⟩, 28), (⟨"EditGuessModel", "count", "()J"⟩, 28), (⟨"EditGuessModel", "rows", "()I"⟩, 28), (⟨"EditGuessModel", "cut", "(III)I"⟩, 28), (⟨"EditGuessModel", "text", "(II)I"⟩, 28), (⟨"EditGuessModel", "end", "()I"⟩, 28), (⟨"EditGuessModel", "layBest", "()Z"⟩, 28), (⟨"EditGuessModel", "costOfCut", "(II)I"⟩, 28), (⟨"EditGuessModel", "goOn", "(I)I"⟩, 28), (⟨"EditGuessModel", "costOfPiece", "(I)I"⟩, 28), (⟨"EditGuessModel", "make", "()I"⟩, 28), (⟨"EditGuessModel", "lookAtPool", "(I)V"⟩, 28), (⟨"EditGuessModel", "agreeingOf", "(I)J"⟩, 28)]
theorem lw_r3 : ∀ q ∈ lw_privs_3, lw_okq q := List.forall_mem_cons.mpr ⟨lw_p32, List.forall_mem_cons.mpr ⟨lw_p33, List.forall_mem_cons.mpr ⟨lw_p34, List.forall_mem_cons.mpr ⟨lw_p35, List.forall_mem_cons.mpr ⟨lw_p36, List.forall_mem_cons.mpr ⟨lw_p37, List.forall_mem_cons.mpr ⟨lw_p38, List.forall_mem_cons.mpr ⟨lw_p39, List.forall_mem_cons.mpr ⟨lw_p40, List.forall_mem_cons.mpr ⟨lw_p41, List.forall_mem_cons.mpr ⟨lw_p42, List.forall_mem_cons.mpr ⟨lw_p43, List.forall_mem_cons.mpr ⟨lw_p44, fun _ h => absurd h List.not_mem_nil⟩⟩⟩⟩⟩⟩⟩⟩⟩⟩⟩⟩⟩
def lw_privs : List (MethodName × Nat) := lw_privs_1 ++ (lw_privs_2 ++ (lw_privs_3))
def lw_tbl : List Cond := k2_sels lw_privs ++ tables_1
theorem lw_privs_ok : ∀ q ∈ lw_privs, lw_okq q := by
  show ∀ q ∈ lw_privs_1 ++ (lw_privs_2 ++ (lw_privs_3)), lw_okq q
  exact List.forall_mem_append.mpr ⟨lw_r1, List.forall_mem_append.mpr ⟨lw_r2, lw_r3⟩⟩
-- ===== end of PART A; then your names; then what follows =====
end
section
/-! the words that a method may need: those of the tables that stay as they are while the machine runs -/
def zG : List Cond := lw_tbl.filter goodWord
theorem zgm {w : Cond} (h : w ∈ lw_tbl) (hg : goodWord w = true) : w ∈ zG := List.mem_filter.mpr ⟨h, hg⟩
theorem zg_good {w : Cond} (h : w ∈ zG) : (w.onTables && w.keeps) = true ∨ ∃ ty, w = .arrayClass ty := good_of_word (List.mem_filter.mp h).2
/-! the classes: their fields -/
def zN0 : String := "EditGuess$Book"
def zT0 : u_T := fun k => match k with
  | 0 => ("EditGuess$Book", "exampleLines", "[LEditGuess$Signs;", true)
  | 1 => ("EditGuess$Book", "results", "[LEditGuess$Signs;", true)
  | 2 => ("EditGuess$Book", "lines", "[LEditGuess$Signs;", true)
  | 3 => ("EditGuess$Book", "examples", "I", false)
  | _ => ("EditGuess$Book", "pooled", "I", false)
def zt0 : Nat → FieldType := fun k => match k with
  | 0 => (.array (.object "EditGuess$Signs"))
  | 1 => (.array (.object "EditGuess$Signs"))
  | 2 => (.array (.object "EditGuess$Signs"))
  | 3 => .int
  | _ => .int
theorem zin0 : ∀ w ∈ u_ws zN0 zT0 5, w ∈ zG := by decide +kernel
theorem znm0 : ∀ a, a < 5 → ∀ b, b < 5 → a ≠ b → (zT0 a).2.1 ≠ (zT0 b).2.1 := by decide +kernel
theorem ztk0 : ∀ k, k < 5 → parseFieldDescriptor (zT0 k).2.2.1 = some (zt0 k) := by decide +kernel
def zN1 : String := "EditGuess$Fitting"
def zT1 : u_T := fun k => match k with
  | 0 => ("EditGuess$Fitting", "rows", "[LEditGuess$Row;", true)
  | 1 => ("EditGuess$Fitting", "reached", "[I", true)
  | 2 => ("EditGuess$Fitting", "heads", "[I", true)
  | 3 => ("EditGuess$Fitting", "sizes", "[I", true)
  | 4 => ("EditGuess$Fitting", "prices", "[I", true)
  | 5 => ("EditGuess$Fitting", "moves", "LEditGuess$Moves;", true)
  | 6 => ("EditGuess$Fitting", "ways", "[J", true)
  | 7 => ("EditGuess$Fitting", "least", "[I", true)
  | 8 => ("EditGuess$Fitting", "many", "I", false)
  | _ => ("EditGuess$Fitting", "groups", "I", false)
def zt1 : Nat → FieldType := fun k => match k with
  | 0 => (.array (.object "EditGuess$Row"))
  | 1 => (.array .int)
  | 2 => (.array .int)
  | 3 => (.array .int)
  | 4 => (.array .int)
  | 5 => (.object "EditGuess$Moves")
  | 6 => (.array .long)
  | 7 => (.array .int)
  | 8 => .int
  | _ => .int
theorem zin1 : ∀ w ∈ u_ws zN1 zT1 10, w ∈ zG := by decide +kernel
theorem znm1 : ∀ a, a < 10 → ∀ b, b < 10 → a ≠ b → (zT1 a).2.1 ≠ (zT1 b).2.1 := by decide +kernel
theorem ztk1 : ∀ k, k < 10 → parseFieldDescriptor (zT1 k).2.2.1 = some (zt1 k) := by decide +kernel
def zN2 : String := "EditGuess$Moves"
def zT2 : u_T := fun k => match k with
  | 0 => ("EditGuess$Moves", "targets", "[I", true)
  | 1 => ("EditGuess$Moves", "times", "[I", true)
  | 2 => ("EditGuess$Moves", "prices", "[I", true)
  | _ => ("EditGuess$Moves", "many", "I", false)
def zt2 : Nat → FieldType := fun k => match k with
  | 0 => (.array .int)
  | 1 => (.array .int)
  | 2 => (.array .int)
  | _ => .int
theorem zin2 : ∀ w ∈ u_ws zN2 zT2 4, w ∈ zG := by decide +kernel
theorem znm2 : ∀ a, a < 4 → ∀ b, b < 4 → a ≠ b → (zT2 a).2.1 ≠ (zT2 b).2.1 := by decide +kernel
theorem ztk2 : ∀ k, k < 4 → parseFieldDescriptor (zT2 k).2.2.1 = some (zt2 k) := by decide +kernel
def zN3 : String := "EditGuess$Piece"
def zT3 : u_T := fun k => match k with
  | 0 => ("EditGuess$Piece", "text", "LEditGuess$Signs;", true)
  | 1 => ("EditGuess$Piece", "isText", "Z", false)
  | 2 => ("EditGuess$Piece", "first", "I", false)
  | _ => ("EditGuess$Piece", "second", "I", false)
def zt3 : Nat → FieldType := fun k => match k with
  | 0 => (.object "EditGuess$Signs")
  | 1 => .boolean
  | 2 => .int
  | _ => .int
theorem zin3 : ∀ w ∈ u_ws zN3 zT3 4, w ∈ zG := by decide +kernel
theorem znm3 : ∀ a, a < 4 → ∀ b, b < 4 → a ≠ b → (zT3 a).2.1 ≠ (zT3 b).2.1 := by decide +kernel
theorem ztk3 : ∀ k, k < 4 → parseFieldDescriptor (zT3 k).2.2.1 = some (zt3 k) := by decide +kernel
def zN4 : String := "EditGuess$Plan"
def zT4 : u_T := fun k => match k with
  | 0 => ("EditGuess$Plan", "pieces", "[LEditGuess$Piece;", true)
  | _ => ("EditGuess$Plan", "many", "I", false)
def zt4 : Nat → FieldType := fun k => match k with
  | 0 => (.array (.object "EditGuess$Piece"))
  | _ => .int
theorem zin4 : ∀ w ∈ u_ws zN4 zT4 2, w ∈ zG := by decide +kernel
theorem znm4 : ∀ a, a < 2 → ∀ b, b < 2 → a ≠ b → (zT4 a).2.1 ≠ (zT4 b).2.1 := by decide +kernel
theorem ztk4 : ∀ k, k < 2 → parseFieldDescriptor (zT4 k).2.2.1 = some (zt4 k) := by decide +kernel
def zN5 : String := "EditGuess$Row"
def zT5 : u_T := fun k => match k with
  | 0 => ("EditGuess$Row", "result", "LEditGuess$Signs;", true)
  | 1 => ("EditGuess$Row", "places", "[I", true)
  | _ => ("EditGuess$Row", "alike", "[[I", true)
def zt5 : Nat → FieldType := fun k => match k with
  | 0 => (.object "EditGuess$Signs")
  | 1 => (.array .int)
  | _ => (.array (.array .int))
theorem zin5 : ∀ w ∈ u_ws zN5 zT5 3, w ∈ zG := by decide +kernel
theorem znm5 : ∀ a, a < 3 → ∀ b, b < 3 → a ≠ b → (zT5 a).2.1 ≠ (zT5 b).2.1 := by decide +kernel
theorem ztk5 : ∀ k, k < 3 → parseFieldDescriptor (zT5 k).2.2.1 = some (zt5 k) := by decide +kernel
def zN6 : String := "EditGuess$Signs"
def zT6 : u_T := fun k => match k with
  | 0 => ("EditGuess$Signs", "codes", "[I", true)
  | 1 => ("EditGuess$Signs", "kinds", "[I", true)
  | _ => ("EditGuess$Signs", "many", "I", false)
def zt6 : Nat → FieldType := fun k => match k with
  | 0 => (.array .int)
  | 1 => (.array .int)
  | _ => .int
theorem zin6 : ∀ w ∈ u_ws zN6 zT6 3, w ∈ zG := by decide +kernel
theorem znm6 : ∀ a, a < 3 → ∀ b, b < 3 → a ≠ b → (zT6 a).2.1 ≠ (zT6 b).2.1 := by decide +kernel
theorem ztk6 : ∀ k, k < 3 → parseFieldDescriptor (zT6 k).2.2.1 = some (zt6 k) := by decide +kernel
def zN7 : String := "EditGuess"
def zT7 : u_T := fun k => match k with
  | 0 => ("EditGuess", "pad", "LEditGuess$Signs;", true)
  | 1 => ("EditGuess", "book", "LEditGuess$Book;", true)
  | 2 => ("EditGuess", "images", "[LEditGuess$Book;", true)
  | 3 => ("EditGuess", "kept", "[Z", true)
  | 4 => ("EditGuess", "fitting", "LEditGuess$Fitting;", true)
  | 5 => ("EditGuess", "best", "LEditGuess$Plan;", true)
  | 6 => ("EditGuess", "made", "LEditGuess$Signs;", true)
  | 7 => ("EditGuess", "agreed", "[J", true)
  | 8 => ("EditGuess", "guessed", "Z", false)
  | _ => ("EditGuess", "fitted", "J", false)
def zt7 : Nat → FieldType := fun k => match k with
  | 0 => (.object "EditGuess$Signs")
  | 1 => (.object "EditGuess$Book")
  | 2 => (.array (.object "EditGuess$Book"))
  | 3 => (.array .boolean)
  | 4 => (.object "EditGuess$Fitting")
  | 5 => (.object "EditGuess$Plan")
  | 6 => (.object "EditGuess$Signs")
  | 7 => (.array .long)
  | 8 => .boolean
  | _ => .long
theorem zin7 : ∀ w ∈ u_ws zN7 zT7 10, w ∈ zG := by decide +kernel
theorem znm7 : ∀ a, a < 10 → ∀ b, b < 10 → a ≠ b → (zT7 a).2.1 ≠ (zT7 b).2.1 := by decide +kernel
theorem ztk7 : ∀ k, k < 10 → parseFieldDescriptor (zT7 k).2.2.1 = some (zt7 k) := by decide +kernel
def zN8 : String := "EditGuessModel"
def zT8 : u_T := fun k => match k with
  | 0 => ("EditGuessModel", "lines", "[I", true)
  | 1 => ("EditGuessModel", "lineSize", "[I", true)
  | 2 => ("EditGuessModel", "outs", "[I", true)
  | 3 => ("EditGuessModel", "outSize", "[I", true)
  | 4 => ("EditGuessModel", "examples", "I", false)
  | 5 => ("EditGuessModel", "pools", "[I", true)
  | 6 => ("EditGuessModel", "poolSize", "[I", true)
  | 7 => ("EditGuessModel", "many", "I", false)
  | 8 => ("EditGuessModel", "signs", "I", false)
  | 9 => ("EditGuessModel", "pad", "[I", true)
  | 10 => ("EditGuessModel", "codes", "[I", true)
  | 11 => ("EditGuessModel", "now", "[I", true)
  | 12 => ("EditGuessModel", "size", "I", false)
  | 13 => ("EditGuessModel", "workLine", "[I", true)
  | 14 => ("EditGuessModel", "workOut", "[I", true)
  | 15 => ("EditGuessModel", "workSize", "[I", true)
  | 16 => ("EditGuessModel", "marks", "[I", true)
  | 17 => ("EditGuessModel", "work", "I", false)
  | 18 => ("EditGuessModel", "ways", "[J", true)
  | 19 => ("EditGuessModel", "least", "[I", true)
  | 20 => ("EditGuessModel", "kind", "[I", true)
  | 21 => ("EditGuessModel", "one", "[I", true)
  | 22 => ("EditGuessModel", "other", "[I", true)
  | 23 => ("EditGuessModel", "pieces", "I", false)
  | 24 => ("EditGuessModel", "cost", "I", false)
  | 25 => ("EditGuessModel", "made", "[I", true)
  | 26 => ("EditGuessModel", "image", "[I", true)
  | _ => ("EditGuessModel", "isKept", "[Z", true)
def zt8 : Nat → FieldType := fun k => match k with
  | 0 => (.array .int)
  | 1 => (.array .int)
  | 2 => (.array .int)
  | 3 => (.array .int)
  | 4 => .int
  | 5 => (.array .int)
  | 6 => (.array .int)
  | 7 => .int
  | 8 => .int
  | 9 => (.array .int)
  | 10 => (.array .int)
  | 11 => (.array .int)
  | 12 => .int
  | 13 => (.array .int)
  | 14 => (.array .int)
  | 15 => (.array .int)
  | 16 => (.array .int)
  | 17 => .int
  | 18 => (.array .long)
  | 19 => (.array .int)
  | 20 => (.array .int)
  | 21 => (.array .int)
  | 22 => (.array .int)
  | 23 => .int
  | 24 => .int
  | 25 => (.array .int)
  | 26 => (.array .int)
  | _ => (.array .boolean)
theorem zin8 : ∀ w ∈ u_ws zN8 zT8 28, w ∈ zG := by decide +kernel
theorem znm8 : ∀ a, a < 28 → ∀ b, b < 28 → a ≠ b → (zT8 a).2.1 ≠ (zT8 b).2.1 := by decide +kernel
theorem ztk8 : ∀ k, k < 28 → parseFieldDescriptor (zT8 k).2.2.1 = some (zt8 k) := by decide +kernel
def zcl : List vw_C := [(zN0, zT0, 5), (zN1, zT1, 10), (zN2, zT2, 4), (zN3, zT3, 4), (zN4, zT4, 2), (zN5, zT5, 3), (zN6, zT6, 3), (zN7, zT7, 10), (zN8, zT8, 28)]
def ztf (ci : Nat) : Nat → FieldType := match ci with
  | 0 => zt0
  | 1 => zt1
  | 2 => zt2
  | 3 => zt3
  | 4 => zt4
  | 5 => zt5
  | 6 => zt6
  | 7 => zt7
  | _ => zt8
theorem zcl_in : ∀ (ci : Nat) (q : vw_C), zcl[ci]? = some q → ∀ w ∈ u_ws q.1 q.2.1 q.2.2, w ∈ zG := by
  intro ci q h
  match ci, h with
  | 0, h => cases h; exact zin0
  | 1, h => cases h; exact zin1
  | 2, h => cases h; exact zin2
  | 3, h => cases h; exact zin3
  | 4, h => cases h; exact zin4
  | 5, h => cases h; exact zin5
  | 6, h => cases h; exact zin6
  | 7, h => cases h; exact zin7
  | 8, h => cases h; exact zin8
  | ci + 9, h => simp [zcl] at h
theorem zcl_nm : ∀ (ci : Nat) (q : vw_C), zcl[ci]? = some q → ∀ a, a < q.2.2 → ∀ b, b < q.2.2 → a ≠ b → (q.2.1 a).2.1 ≠ (q.2.1 b).2.1 := by
  intro ci q h
  match ci, h with
  | 0, h => cases h; exact znm0
  | 1, h => cases h; exact znm1
  | 2, h => cases h; exact znm2
  | 3, h => cases h; exact znm3
  | 4, h => cases h; exact znm4
  | 5, h => cases h; exact znm5
  | 6, h => cases h; exact znm6
  | 7, h => cases h; exact znm7
  | 8, h => cases h; exact znm8
  | ci + 9, h => simp [zcl] at h
theorem zcl_ty : ∀ (ci : Nat) (q : vw_C), zcl[ci]? = some q → ∀ k, k < q.2.2 → parseFieldDescriptor (q.2.1 k).2.2.1 = some (ztf ci k) := by
  intro ci q h
  match ci, h with
  | 0, h => cases h; exact ztk0
  | 1, h => cases h; exact ztk1
  | 2, h => cases h; exact ztk2
  | 3, h => cases h; exact ztk3
  | 4, h => cases h; exact ztk4
  | 5, h => cases h; exact ztk5
  | 6, h => cases h; exact ztk6
  | 7, h => cases h; exact ztk7
  | 8, h => cases h; exact ztk8
  | ci + 9, h => simp [zcl] at h
end
section
/-! A program logic over the machine: wp0 m Q pc lo st cs ss n f: from the place pc of the method m, with the locals lo, the stack st, over a world of n cells whose contents are f, the method comes to its end with Q. References are numbers of cells; the machine's addresses are these numbers and the base of the world. -/
abbrev Zm : Type := MethodName × ByteArray × Nat × Option FieldType × (Nat × Nat × Nat × Nat) × Bool
def zy (m : Zm) : MethodName := m.1
def zb (m : Zm) : ByteArray := m.2.1
def zl (m : Zm) : Nat := m.2.2.1
def zr (m : Zm) : Option FieldType := m.2.2.2.1
def zk (m : Zm) : Nat × Nat × Nat × Nat := m.2.2.2.2.1
def zg (m : Zm) : Bool := m.2.2.2.2.2
def zR (m : Zm) : Room := { frames := (zk m).1, cells := (zk m).2.1, slots := (zk m).2.2.1, locals := (zk m).2.2.2 }
def zw (m : Zm) : List Cond := Cond.code (zy m) (zb m) (zl m) (zr m) :: zG
/-- the world: its base, the classes and slots, the array classes -/
abbrev Zo : Type := Nat × va_G × (Nat → ClassId)
def trV (B : Nat) (v : Value) : Value := match v with
  | .ref a => .ref (B + a)
  | w => w
def trL (B : Nat) (q : Nat × Value) : Nat × Value := (q.1, trV B q.2)
theorem trV_cat (B : Nat) (v : Value) : (trV B v).category = v.category := by cases v <;> rfl
/-- what a cell holds: an array (its type's number, its length, its contents) or an object (its class's number, its fields) -/
abbrev En : Type := (Nat × Nat × ((Nat → Int32) ⊕ (Nat → Int64) ⊕ (Nat → Option Nat))) ⊕ (Nat × List Value)
def trE (o : Zo) (e : En) : va_E := match e with
  | .inl (t, n, .inl f) => .inl (o.2.2 t, n, .inl f)
  | .inl (t, n, .inr (.inl f)) => .inl (o.2.2 t, n, .inr (.inl f))
  | .inl (t, n, .inr (.inr f)) => .inl (o.2.2 t, n, .inr (.inr (.inr (.inr (fun i => (f i).map (fun a => o.1 + a))))))
  | .inr (ci, fs) => .inr (ci, fs.map (trV o.1))
def ztys (o : Zo) : List (ClassId × FieldType) := [(o.2.2 0, .int), (o.2.2 1, .long), (o.2.2 2, .boolean), (o.2.2 3, .object "EditGuess$Signs"), (o.2.2 4, .object "EditGuess$Book"), (o.2.2 5, .object "EditGuess$Piece"), (o.2.2 6, .object "EditGuess$Row"), (o.2.2 7, .array .int)]
/-- the world's cells in a heap -/
def Hw (o : Zo) (n : Nat) (f : Nat → En) (H : Heap) : Prop := ∀ a : Nat, a < n → va_at o.2.1 zcl (o.1 + a, trE o (f a)) H
theorem Hw.congr {o : Zo} {n : Nat} {f g : Nat → En} {H : Heap} (h : Hw o n f H) (e : ∀ a, a < n → f a = g a) : Hw o n g H := fun a ha => by rw [← e a ha]; exact h a ha
theorem Hw.put {o : Zo} {n a : Nat} {f : Nat → En} {H H1 : Heap} {e : En} (h : Hw o n f H) (he : va_at o.2.1 zcl (o.1 + a, trE o e) H1) (oq : ∀ q : Nat, q ≠ o.1 + a → H1[q]? = H[q]?) : Hw o n (va_up f a e) H1 := fun b hb => by
  by_cases hba : b = a
  · subst hba
    rw [show va_up f b e b = e from if_pos rfl]
    exact he
  · rw [show va_up f a e b = f b from if_neg hba]
    exact (h b hb).kept (oq _ (fun z => hba (by omega)))
theorem Hw.push {o : Zo} {n : Nat} {f : Nat → En} {H H1 : Heap} {e : En} (h : Hw o n f H) (he : va_at o.2.1 zcl (o.1 + n, trE o e) H1) (oq : ∀ q : Nat, q < o.1 + n → H1[q]? = H[q]?) : Hw o (n + 1) (va_up f n e) H1 := fun b hb => by
  by_cases hba : b = n
  · subst hba
    rw [show va_up f b e b = e from if_pos rfl]
    exact he
  · rw [show va_up f n e b = f b from if_neg hba]
    exact (h b (by omega)).kept (oq _ (by show o.1 + b < _; omega))
/-- what the tables say of the machine's classes -/
def Zk (o : Zo) (U : State) : Prop := va_K o.2.1 zcl (ztys o) U ∧ (va_AO "EditGuess$Signs" U ∧ va_AO "EditGuess$Book" U ∧ va_AO "EditGuess$Piece" U ∧ va_AO "EditGuess$Row" U)
theorem Zk.moved {o : Zo} {u U : State} (hvm : u.vm.Alike U.vm) (h : Zk o u) : Zk o U := ⟨va_K.moved hvm h.1, h.2.1.moved hvm, h.2.2.1.moved hvm, h.2.2.2.1.moved hvm, h.2.2.2.2.moved hvm⟩
/-- which cells a method may change: the world's, and those that it makes -/
def zA (B n sz : Nat) : Nat → Prop := fun q => (B ≤ q ∧ q < B + n) ∨ sz ≤ q
/-- what holds of the machine while a method runs -/
def Zx (m : Zm) (p : Program) (s : State) (mi : MethodId) (args : Array Value) (meth : Method) (c : Code) (o : Zo) (n0 : Nat) : Prop :=
  p.tables.exec = Jvm.exec ∧ c.code = zb m ∧ meth.sig.returnType = zr m ∧ c.maxLocals = zl m ∧ s.vm.findClass (zy m).cls = some mi.cls ∧ (∀ w ∈ zw m, w.before args s = true) ∧ meth.locks = false ∧ meth.name = (zy m).name ∧ Zk o s ∧ (zg m = true → s.heap.size = o.1 + n0) ∧ o.1 + n0 ≤ s.heap.size
/-- the end of a method -/
def Zq (m : Zm) (o : Zo) (n0 : Nat) (Q : Option Value → Nat → (Nat → En) → Prop) (A : Nat → Prop) : Array Value → State → Outcome → State → Prop := fun _ st oc t =>
  (∃ (v : Option Value) (n' : Nat) (f' : Nat → En), oc = .returned (v.map (trV o.1)) ∧ Q v n' f' ∧ n0 ≤ n' ∧ Hw o n' f' t.heap ∧ t.heap.size + n0 = st.heap.size + n' ∧ (zg m = false → n' = n0)) ∧ va_F A st t
/-- where a method's walk stands -/
def Zs (m : Zm) (s : State) (o : Zo) (n0 : Nat) (H : Heap) (locs : List Loc) (ls : Array Slot) (lo : List (Nat × Value)) (n : Nat) (f : Nat → En) : Prop :=
  Hw o n f H ∧ n0 ≤ n ∧ H.size + n0 = s.heap.size + n ∧ (zg m = false → n = n0) ∧ va_S (zA o.1 n0 s.heap.size) s.heap H locs ∧ lv_has ls (zl m) (lo.map (trL o.1))
def wp0 (m : Zm) (Q : Option Value → Nat → (Nat → En) → Prop) (pc : Nat) (lo : List (Nat × Value)) (st : List Value) (cs ss : Nat) (n : Nat) (f : Nat → En) : Prop :=
  ∀ (p : Program) (l : Launch) (e : Env) (s : State) (mi : MethodId) (args : Array Value) (below : List Frame) (meth : Method) (c : Code) (o : Zo) (n0 : Nat) (H : Heap) (locs : List Loc) (ls : Array Slot),
    Zx m p s mi args meth c o n0 → Zs m s o n0 H locs ls lo n f →
    W p l e (headSpec (zw m) (zR m)).room s mi args below meth c H locs cs ss (MQ below (Zq m o n0 Q (zA o.1 n0 s.heap.size)) args s (zR m).cells (zR m).slots (zA o.1 n0 s.heap.size)) (F0 mi pc ls (st.map (trV o.1)))
/-- a method's contract at given arguments and a given world -/
def Call0 (m : Zm) (as : List Value) (n : Nat) (f : Nat → En) (Q : Option Value → Nat → (Nat → En) → Prop) : Prop :=
  ∀ (l : Launch) (o : Zo) (sz : Nat), Met l (zy m) (zw m) (zR m) (va_Pc (as.map (trV o.1)) (fun U => U.heap.size = sz ∧ Hw o n f U.heap ∧ Zk o U ∧ (zg m = true → sz = o.1 + n) ∧ o.1 + n ≤ sz)) (Zq m o n Q (zA o.1 n sz)) (zR m).cells (zR m).slots (zA o.1 n sz)
theorem lv_args_tr (B : Nat) : ∀ (as : List Value) (i : Nat), lv_args i (as.map (trV B)) = (lv_args i as).map (trL B)
  | [], _ => rfl
  | v :: vs, i => by
    show (i, trV B v) :: lv_args (if (trV B v).category = 2 then i + 2 else i + 1) (vs.map (trV B)) = (i, trV B v) :: (lv_args (if v.category = 2 then i + 2 else i + 1) vs).map (trL B)
    rw [trV_cat, lv_args_tr B vs]
theorem lg_sl_tr (B : Nat) : ∀ (as : List Value), (lg_sl (as.map (trV B))).length = (lg_sl as).length
  | [] => rfl
  | v :: vs => by
    have ih := lg_sl_tr B vs
    simp only [lg_sl, List.map_cons, List.flatMap_cons, List.length_append] at ih ⊢
    rw [ih, trV_cat]
    split <;> rfl
/-- a contract out of a walk -/
theorem call0_of {m : Zm} {as : List Value} {n : Nat} {f : Nat → En} {Q : Option Value → Nat → (Nat → En) → Prop} (hpl : plainName (zy m).cls = true) (hlen : (lg_sl as).length ≤ zl m) (h : wp0 m Q 0 (lv_args 0 as) [] 0 0 n f) : Call0 m as n f Q := by
  intro l o sz
  refine Met.ofW (cc := zb m) (maxL := zl m) (ret := zr m) hpl rfl ?_
  intro p e s mi args below meth c s₁ B hml hv
  obtain ⟨rfl, hsz, hH, hK, hg, hb⟩ := hv
  subst hsz
  have hts := atoms_spec (ws := zw m) B.pre
  have hx : Zx m p s mi (as.map (trV o.1)).toArray meth c o n := ⟨B.exec, B.bytes, B.returns, hml, findClass_of_methodNamed B.named, hts, B.notSynchronized, (name_of_methodNamed B.named B.method).1, hK, hg, hb⟩
  have hl := lv_entry (as.map (trV o.1)) (n := zl m) (by rw [lg_sl_tr]; exact hlen)
  rw [lg_entry_eq]
  generalize (lg_sl (as.map (trV o.1)) ++ List.replicate (zl m - (lg_sl (as.map (trV o.1))).length) Slot.unset).toArray = ls at hl ⊢
  rw [lv_args_tr] at hl
  exact h p l e s mi _ below meth c o n s.heap [] ls hx ⟨hH, Nat.le_refl _, rfl, fun _ => rfl, va_S.rf, hl⟩
end
section
/-! the rows of the logic: an instruction a row -/
section ZST
variable {m : Zm} {Q : Option Value → Nat → (Nat → En) → Prop} {pc : Nat} {lo lo' : List (Nat × Value)} {st : List Value} {cs ss n : Nat} {f : Nat → En}
theorem zlo {o : Zo} {ls : Array Slot} {nL : Nat} (h : lv_has ls nL (lo.map (trL o.1))) (k : Nat) {i : Nat} {v : Value} (hk : lo[k]? = some (i, v)) : ls[i]? = some (.val (trV o.1 v)) :=
  h.2.2 (i, trV o.1 v) (List.mem_of_getElem? (i := k) (by rw [List.getElem?_map, hk]; rfl))
theorem zfil1 (B i : Nat) : ∀ l : List (Nat × Value), (l.map (trL B)).filter (fun q => !(q.1 == i) && !(q.1 + 1 == i && q.2.category == 2)) = (l.filter (fun q => !(q.1 == i) && !(q.1 + 1 == i && q.2.category == 2))).map (trL B) := fun l => by
  rw [List.filter_map]
  congr 1
  apply List.filter_congr
  intro q _
  show (!(q.1 == i) && !(q.1 + 1 == i && (trV B q.2).category == 2)) = _
  rw [trV_cat]
theorem zfil2 (B i : Nat) : ∀ l : List (Nat × Value), (l.map (trL B)).filter (fun q => !(q.1 == i) && (!(q.1 == i + 1) && !(q.1 + 1 == i && q.2.category == 2))) = (l.filter (fun q => !(q.1 == i) && (!(q.1 == i + 1) && !(q.1 + 1 == i && q.2.category == 2)))).map (trL B) := fun l => by
  rw [List.filter_map]
  congr 1
  apply List.filter_congr
  intro q _
  show (!(q.1 == i) && (!(q.1 == i + 1) && !(q.1 + 1 == i && (trV B q.2).category == 2))) = _
  rw [trV_cat]
/-- fewer locals, in any order -/
theorem s_sub (ks : List Nat) (hl : lv_pick lo ks = lo') (kk : wp0 m Q pc lo' st cs ss n f) : wp0 m Q pc lo st cs ss n f := fun p l e s mi args below meth c o n0 H locs ls C S =>
  kk p l e s mi args below meth c o n0 H locs ls C ⟨S.1, S.2.1, S.2.2.1, S.2.2.2.1, S.2.2.2.2.1, lv_sub S.2.2.2.2.2 ks (by
    rw [← hl]
    unfold lv_pick
    rw [List.map_filterMap]
    congr 1
    funext k
    rw [List.getElem?_map])⟩
theorem s_mono {Q' : Option Value → Nat → (Nat → En) → Prop} (h : ∀ v n f, Q' v n f → Q v n f) (kk : wp0 m Q' pc lo st cs ss n f) : wp0 m Q pc lo st cs ss n f := fun p l e s mi args below meth c o n0 H locs ls C S T hT X => by
  obtain ⟨t, a, oc, b1, b2, ⟨⟨v, n', f', c1, c2, c3⟩, c4⟩, b4⟩ := kk p l e s mi args below meth c o n0 H locs ls C S T hT X
  exact ⟨t, a, oc, b1, b2, ⟨⟨v, n', f', c1, h _ _ _ c2, c3⟩, c4⟩, b4⟩

theorem s_iconst {z : Int} {v : Int32} (hd : decode (zb m) pc = .ok (.iconst z, 1)) (hv : Int32.ofInt z = v) (kk : wp0 m Q (pc + 1) lo (.int v :: st) cs ss n f) : wp0 m Q pc lo st cs ss n f := fun p l e s mi args below meth c o n0 H locs ls C S => lv_iconst C.1 C.2.1 hd hv (kk p l e s mi args below meth c o n0 H locs ls C S)
theorem s_bipush {z : Int} {v : Int32} (hd : decode (zb m) pc = .ok (.bipush z, 2)) (hv : (Int8.ofInt z).toInt32 = v) (kk : wp0 m Q (pc + 2) lo (.int v :: st) cs ss n f) : wp0 m Q pc lo st cs ss n f := fun p l e s mi args below meth c o n0 H locs ls C S => lv_bipush C.1 C.2.1 hd hv (kk p l e s mi args below meth c o n0 H locs ls C S)
theorem s_sipush {z : Int} {v : Int32} (hd : decode (zb m) pc = .ok (.sipush z, 3)) (hv : (Int16.ofInt z).toInt32 = v) (kk : wp0 m Q (pc + 3) lo (.int v :: st) cs ss n f) : wp0 m Q pc lo st cs ss n f := fun p l e s mi args below meth c o n0 H locs ls C S => lv_sipush C.1 C.2.1 hd hv (kk p l e s mi args below meth c o n0 H locs ls C S)
theorem s_lconst {z : Fin 2} {v : Int64} (hd : decode (zb m) pc = .ok (.lconst z, 1)) (hv : Int64.ofNat (z : Nat) = v) (kk : wp0 m Q (pc + 1) lo (.long v :: st) cs ss n f) : wp0 m Q pc lo st cs ss n f := fun p l e s mi args below meth c o n0 H locs ls C S => lv_lconst C.1 C.2.1 hd hv (kk p l e s mi args below meth c o n0 H locs ls C S)
theorem s_ldc {i : Nat} {v : Int32} (hd : decode (zb m) pc = .ok (.ldc i, 2)) (hw : Cond.constant (zy m).cls i v ∈ zG) (kk : wp0 m Q (pc + 2) lo (.int v :: st) cs ss n f) : wp0 m Q pc lo st cs ss n f := fun p l e s mi args below meth c o n0 H locs ls C S => lv_ldc C.1 C.2.1 C.2.2.2.2.1 (C.2.2.2.2.2.1 _ (List.mem_cons_of_mem _ hw)) hd (kk p l e s mi args below meth c o n0 H locs ls C S)
theorem s_ldc2_w {i : Nat} {v : Int64} (hd : decode (zb m) pc = .ok (.ldc2_w i, 3)) (hw : Cond.constantLong (zy m).cls i v ∈ zG) (kk : wp0 m Q (pc + 3) lo (.long v :: st) cs ss n f) : wp0 m Q pc lo st cs ss n f := fun p l e s mi args below meth c o n0 H locs ls C S => lv_ldc2 C.1 C.2.1 C.2.2.2.2.1 (C.2.2.2.2.2.1 _ (List.mem_cons_of_mem _ hw)) hd (kk p l e s mi args below meth c o n0 H locs ls C S)
theorem s_iload {i : Nat} {v : Int32} (k : Nat) (hd : decode (zb m) pc = .ok (.iload i, 2)) (hl : lo[k]? = some (i, .int v)) (kk : wp0 m Q (pc + 2) lo (.int v :: st) cs ss n f) : wp0 m Q pc lo st cs ss n f := fun p l e s mi args below meth c o n0 H locs ls C S => lv_iload C.1 C.2.1 hd (zlo S.2.2.2.2.2 k hl) (kk p l e s mi args below meth c o n0 H locs ls C S)
theorem s_iload_n {j : Fin 4} {i : Nat} {v : Int32} (k : Nat) (hd : decode (zb m) pc = .ok (.iload_n j, 1)) (hi : (j : Nat) = i) (hl : lo[k]? = some (i, .int v)) (kk : wp0 m Q (pc + 1) lo (.int v :: st) cs ss n f) : wp0 m Q pc lo st cs ss n f := fun p l e s mi args below meth c o n0 H locs ls C S => lv_iload_n C.1 C.2.1 hd hi (zlo S.2.2.2.2.2 k hl) (kk p l e s mi args below meth c o n0 H locs ls C S)
theorem s_lload {i : Nat} {v : Int64} (k : Nat) (hd : decode (zb m) pc = .ok (.lload i, 2)) (hl : lo[k]? = some (i, .long v)) (kk : wp0 m Q (pc + 2) lo (.long v :: st) cs ss n f) : wp0 m Q pc lo st cs ss n f := fun p l e s mi args below meth c o n0 H locs ls C S => lv_lload C.1 C.2.1 hd (zlo S.2.2.2.2.2 k hl) (kk p l e s mi args below meth c o n0 H locs ls C S)
theorem s_lload_n {j : Fin 4} {i : Nat} {v : Int64} (k : Nat) (hd : decode (zb m) pc = .ok (.lload_n j, 1)) (hi : (j : Nat) = i) (hl : lo[k]? = some (i, .long v)) (kk : wp0 m Q (pc + 1) lo (.long v :: st) cs ss n f) : wp0 m Q pc lo st cs ss n f := fun p l e s mi args below meth c o n0 H locs ls C S => lv_lload_n C.1 C.2.1 hd hi (zlo S.2.2.2.2.2 k hl) (kk p l e s mi args below meth c o n0 H locs ls C S)
theorem s_aload {i : Nat} {v : Nat} (k : Nat) (hd : decode (zb m) pc = .ok (.aload i, 2)) (hl : lo[k]? = some (i, .ref v)) (kk : wp0 m Q (pc + 2) lo (.ref v :: st) cs ss n f) : wp0 m Q pc lo st cs ss n f := fun p l e s mi args below meth c o n0 H locs ls C S => lv_aload C.1 C.2.1 hd (zlo S.2.2.2.2.2 k hl) (kk p l e s mi args below meth c o n0 H locs ls C S)
theorem s_aload_n {j : Fin 4} {i : Nat} {v : Nat} (k : Nat) (hd : decode (zb m) pc = .ok (.aload_n j, 1)) (hi : (j : Nat) = i) (hl : lo[k]? = some (i, .ref v)) (kk : wp0 m Q (pc + 1) lo (.ref v :: st) cs ss n f) : wp0 m Q pc lo st cs ss n f := fun p l e s mi args below meth c o n0 H locs ls C S => lv_aload_n C.1 C.2.1 hd hi (zlo S.2.2.2.2.2 k hl) (kk p l e s mi args below meth c o n0 H locs ls C S)
theorem s_istore {i : Nat} {v : Int32} (hd : decode (zb m) pc = .ok (.istore i, 2)) (hn : i < zl m) (hl : (i, Value.int v) :: lo.filter (fun q => !(q.1 == i) && !(q.1 + 1 == i && q.2.category == 2)) = lo') (kk : wp0 m Q (pc + 2) lo' st cs ss n f) : wp0 m Q pc lo (.int v :: st) cs ss n f := fun p l e s mi args below meth c o n0 H locs ls C S => lv_istore C.1 C.2.1 hd S.2.2.2.2.2 hn (by rw [zfil1, ← hl]; rfl) (fun ls hl => kk p l e s mi args below meth c o n0 H locs ls C ⟨S.1, S.2.1, S.2.2.1, S.2.2.2.1, S.2.2.2.2.1, hl⟩)
theorem s_istore_n {j : Fin 4} {i : Nat} {v : Int32} (hd : decode (zb m) pc = .ok (.istore_n j, 1)) (hi : (j : Nat) = i) (hn : i < zl m) (hl : (i, Value.int v) :: lo.filter (fun q => !(q.1 == i) && !(q.1 + 1 == i && q.2.category == 2)) = lo') (kk : wp0 m Q (pc + 1) lo' st cs ss n f) : wp0 m Q pc lo (.int v :: st) cs ss n f := fun p l e s mi args below meth c o n0 H locs ls C S => lv_istore_n C.1 C.2.1 hd hi S.2.2.2.2.2 hn (by rw [zfil1, ← hl]; rfl) (fun ls hl => kk p l e s mi args below meth c o n0 H locs ls C ⟨S.1, S.2.1, S.2.2.1, S.2.2.2.1, S.2.2.2.2.1, hl⟩)
theorem s_astore {i : Nat} {v : Nat} (hd : decode (zb m) pc = .ok (.astore i, 2)) (hn : i < zl m) (hl : (i, Value.ref v) :: lo.filter (fun q => !(q.1 == i) && !(q.1 + 1 == i && q.2.category == 2)) = lo') (kk : wp0 m Q (pc + 2) lo' st cs ss n f) : wp0 m Q pc lo (.ref v :: st) cs ss n f := fun p l e s mi args below meth c o n0 H locs ls C S => lv_astore C.1 C.2.1 hd S.2.2.2.2.2 hn (by rw [zfil1, ← hl]; rfl) (fun ls hl => kk p l e s mi args below meth c o n0 H locs ls C ⟨S.1, S.2.1, S.2.2.1, S.2.2.2.1, S.2.2.2.2.1, hl⟩)
theorem s_astore_n {j : Fin 4} {i : Nat} {v : Nat} (hd : decode (zb m) pc = .ok (.astore_n j, 1)) (hi : (j : Nat) = i) (hn : i < zl m) (hl : (i, Value.ref v) :: lo.filter (fun q => !(q.1 == i) && !(q.1 + 1 == i && q.2.category == 2)) = lo') (kk : wp0 m Q (pc + 1) lo' st cs ss n f) : wp0 m Q pc lo (.ref v :: st) cs ss n f := fun p l e s mi args below meth c o n0 H locs ls C S => lv_astore_n C.1 C.2.1 hd hi S.2.2.2.2.2 hn (by rw [zfil1, ← hl]; rfl) (fun ls hl => kk p l e s mi args below meth c o n0 H locs ls C ⟨S.1, S.2.1, S.2.2.1, S.2.2.2.1, S.2.2.2.2.1, hl⟩)
theorem s_lstore {i : Nat} {v : Int64} (hd : decode (zb m) pc = .ok (.lstore i, 2)) (hn : i + 1 < zl m) (hl : (i, Value.long v) :: lo.filter (fun q => !(q.1 == i) && (!(q.1 == i + 1) && !(q.1 + 1 == i && q.2.category == 2))) = lo') (kk : wp0 m Q (pc + 2) lo' st cs ss n f) : wp0 m Q pc lo (.long v :: st) cs ss n f := fun p l e s mi args below meth c o n0 H locs ls C S => lv_lstore C.1 C.2.1 hd S.2.2.2.2.2 hn (by rw [zfil2, ← hl]; rfl) (fun ls hl => kk p l e s mi args below meth c o n0 H locs ls C ⟨S.1, S.2.1, S.2.2.1, S.2.2.2.1, S.2.2.2.2.1, hl⟩)
theorem s_lstore_n {j : Fin 4} {i : Nat} {v : Int64} (hd : decode (zb m) pc = .ok (.lstore_n j, 1)) (hi : (j : Nat) = i) (hn : i + 1 < zl m) (hl : (i, Value.long v) :: lo.filter (fun q => !(q.1 == i) && (!(q.1 == i + 1) && !(q.1 + 1 == i && q.2.category == 2))) = lo') (kk : wp0 m Q (pc + 1) lo' st cs ss n f) : wp0 m Q pc lo (.long v :: st) cs ss n f := fun p l e s mi args below meth c o n0 H locs ls C S => lv_lstore_n C.1 C.2.1 hd hi S.2.2.2.2.2 hn (by rw [zfil2, ← hl]; rfl) (fun ls hl => kk p l e s mi args below meth c o n0 H locs ls C ⟨S.1, S.2.1, S.2.2.1, S.2.2.2.1, S.2.2.2.2.1, hl⟩)
theorem s_iinc {i : Nat} {z : Int} {x v : Int32} (k : Nat) (hd : decode (zb m) pc = .ok (.iinc i z, 3)) (hk : lo[k]? = some (i, .int x)) (hv : x + Int32.ofInt z = v) (hn : i < zl m) (hl : (i, Value.int v) :: lo.filter (fun q => !(q.1 == i) && !(q.1 + 1 == i && q.2.category == 2)) = lo') (kk : wp0 m Q (pc + 3) lo' st cs ss n f) : wp0 m Q pc lo st cs ss n f := fun p l e s mi args below meth c o n0 H locs ls C S => lv_iinc (k := k) C.1 C.2.1 hd S.2.2.2.2.2 (by rw [List.getElem?_map, hk]; rfl) hv hn (by rw [zfil1, ← hl]; rfl) (fun ls hl => kk p l e s mi args below meth c o n0 H locs ls C ⟨S.1, S.2.1, S.2.2.1, S.2.2.2.1, S.2.2.2.2.1, hl⟩)
theorem s_iadd {x y : Int32} (hd : decode (zb m) pc = .ok (.iadd, 1)) (kk : wp0 m Q (pc + 1) lo (.int (x + y) :: st) cs ss n f) : wp0 m Q pc lo (.int y :: .int x :: st) cs ss n f := fun p l e s mi args below meth c o n0 H locs ls C S => lv_iadd C.1 C.2.1 hd (kk p l e s mi args below meth c o n0 H locs ls C S)
theorem s_isub {x y : Int32} (hd : decode (zb m) pc = .ok (.isub, 1)) (kk : wp0 m Q (pc + 1) lo (.int (x - y) :: st) cs ss n f) : wp0 m Q pc lo (.int y :: .int x :: st) cs ss n f := fun p l e s mi args below meth c o n0 H locs ls C S => lv_isub C.1 C.2.1 hd (kk p l e s mi args below meth c o n0 H locs ls C S)
theorem s_imul {x y : Int32} (hd : decode (zb m) pc = .ok (.imul, 1)) (kk : wp0 m Q (pc + 1) lo (.int (x * y) :: st) cs ss n f) : wp0 m Q pc lo (.int y :: .int x :: st) cs ss n f := fun p l e s mi args below meth c o n0 H locs ls C S => lv_imul C.1 C.2.1 hd (kk p l e s mi args below meth c o n0 H locs ls C S)
theorem s_iand {x y : Int32} (hd : decode (zb m) pc = .ok (.iand, 1)) (kk : wp0 m Q (pc + 1) lo (.int (x &&& y) :: st) cs ss n f) : wp0 m Q pc lo (.int y :: .int x :: st) cs ss n f := fun p l e s mi args below meth c o n0 H locs ls C S => lv_iand C.1 C.2.1 hd (kk p l e s mi args below meth c o n0 H locs ls C S)
theorem s_ladd {x y : Int64} (hd : decode (zb m) pc = .ok (.ladd, 1)) (kk : wp0 m Q (pc + 1) lo (.long (x + y) :: st) cs ss n f) : wp0 m Q pc lo (.long y :: .long x :: st) cs ss n f := fun p l e s mi args below meth c o n0 H locs ls C S => lv_ladd C.1 C.2.1 hd (kk p l e s mi args below meth c o n0 H locs ls C S)
theorem s_lmul {x y : Int64} (hd : decode (zb m) pc = .ok (.lmul, 1)) (kk : wp0 m Q (pc + 1) lo (.long (x * y) :: st) cs ss n f) : wp0 m Q pc lo (.long y :: .long x :: st) cs ss n f := fun p l e s mi args below meth c o n0 H locs ls C S => lv_lmul C.1 C.2.1 hd (kk p l e s mi args below meth c o n0 H locs ls C S)
theorem s_idiv {x y : Int32} (hd : decode (zb m) pc = .ok (.idiv, 1)) (hne : ¬ y = 0) (kk : wp0 m Q (pc + 1) lo (.int (x / y) :: st) cs ss n f) : wp0 m Q pc lo (.int y :: .int x :: st) cs ss n f := fun p l e s mi args below meth c o n0 H locs ls C S => lv_idiv C.1 C.2.1 hd hne (kk p l e s mi args below meth c o n0 H locs ls C S)
theorem s_irem {x y : Int32} (hd : decode (zb m) pc = .ok (.irem, 1)) (hne : ¬ y = 0) (kk : wp0 m Q (pc + 1) lo (.int (x - x / y * y) :: st) cs ss n f) : wp0 m Q pc lo (.int y :: .int x :: st) cs ss n f := fun p l e s mi args below meth c o n0 H locs ls C S => lv_irem C.1 C.2.1 hd hne (kk p l e s mi args below meth c o n0 H locs ls C S)
theorem s_ineg {x : Int32} (hd : decode (zb m) pc = .ok (.ineg, 1)) (kk : wp0 m Q (pc + 1) lo (.int (-x) :: st) cs ss n f) : wp0 m Q pc lo (.int x :: st) cs ss n f := fun p l e s mi args below meth c o n0 H locs ls C S => lv_ineg C.1 C.2.1 hd (kk p l e s mi args below meth c o n0 H locs ls C S)
theorem s_i2l {x : Int32} (hd : decode (zb m) pc = .ok (.i2l, 1)) (kk : wp0 m Q (pc + 1) lo (.long x.toInt64 :: st) cs ss n f) : wp0 m Q pc lo (.int x :: st) cs ss n f := fun p l e s mi args below meth c o n0 H locs ls C S => lv_i2l C.1 C.2.1 hd rfl (kk p l e s mi args below meth c o n0 H locs ls C S)
theorem s_lcmp {x y : Int64} (hd : decode (zb m) pc = .ok (.lcmp, 1)) (kk : wp0 m Q (pc + 1) lo (.int (lg_cmp x y) :: st) cs ss n f) : wp0 m Q pc lo (.long y :: .long x :: st) cs ss n f := fun p l e s mi args below meth c o n0 H locs ls C S => W.lcmp C.1 C.2.1 hd (kk p l e s mi args below meth c o n0 H locs ls C S)
theorem s_dup {v : Value} (hd : decode (zb m) pc = .ok (.dup, 1)) (hv : v.category = 1) (kk : wp0 m Q (pc + 1) lo (v :: v :: st) cs ss n f) : wp0 m Q pc lo (v :: st) cs ss n f := fun p l e s mi args below meth c o n0 H locs ls C S => lv_dup C.1 C.2.1 hd (by rw [trV_cat]; exact hv) (kk p l e s mi args below meth c o n0 H locs ls C S)
theorem s_pop {v : Value} (hd : decode (zb m) pc = .ok (.pop, 1)) (hv : v.category = 1) (kk : wp0 m Q (pc + 1) lo st cs ss n f) : wp0 m Q pc lo (v :: st) cs ss n f := fun p l e s mi args below meth c o n0 H locs ls C S => lv_pop C.1 C.2.1 hd (by rw [trV_cat]; exact hv) (kk p l e s mi args below meth c o n0 H locs ls C S)
theorem s_dup2 {v w : Value} (hd : decode (zb m) pc = .ok (.dup2, 1)) (hv : v.category = 1) (hw : w.category = 1) (kk : wp0 m Q (pc + 1) lo (v :: w :: v :: w :: st) cs ss n f) : wp0 m Q pc lo (v :: w :: st) cs ss n f := fun p l e s mi args below meth c o n0 H locs ls C S => lv_dup2_11 C.1 C.2.1 hd (by rw [trV_cat]; exact hv) (by rw [trV_cat]; exact hw) (kk p l e s mi args below meth c o n0 H locs ls C S)
theorem s_goto {off : Int} {tgt : Nat} (hd : decode (zb m) pc = .ok (.goto off, 3)) (ht : (pc : Int) + off = (tgt : Int)) (kk : wp0 m Q tgt lo st cs ss n f) : wp0 m Q pc lo st cs ss n f := fun p l e s mi args below meth c o n0 H locs ls C S => lv_goto C.1 C.2.1 hd ht (kk p l e s mi args below meth c o n0 H locs ls C S)
theorem s_if_eq {x : Int32} {off : Int} {tgt : Nat} (hd : decode (zb m) pc = .ok (.ifCond .eq off, 3)) (ht : (pc : Int) + off = (tgt : Int)) (kk : (x = 0 → wp0 m Q tgt lo st cs ss n f) ∧ (¬ x = 0 → wp0 m Q (pc + 3) lo st cs ss n f)) : wp0 m Q pc lo (.int x :: st) cs ss n f := fun p l e s mi args below meth c o n0 H locs ls C S => lv_if_eq C.1 C.2.1 hd ht (fun q => kk.1 q p l e s mi args below meth c o n0 H locs ls C S) (fun q => kk.2 q p l e s mi args below meth c o n0 H locs ls C S)
theorem s_if_lt {x : Int32} {off : Int} {tgt : Nat} (hd : decode (zb m) pc = .ok (.ifCond .lt off, 3)) (ht : (pc : Int) + off = (tgt : Int)) (kk : (x < 0 → wp0 m Q tgt lo st cs ss n f) ∧ (¬ x < 0 → wp0 m Q (pc + 3) lo st cs ss n f)) : wp0 m Q pc lo (.int x :: st) cs ss n f := fun p l e s mi args below meth c o n0 H locs ls C S => lv_if_lt C.1 C.2.1 hd ht (fun q => kk.1 q p l e s mi args below meth c o n0 H locs ls C S) (fun q => kk.2 q p l e s mi args below meth c o n0 H locs ls C S)
theorem s_if_ge {x : Int32} {off : Int} {tgt : Nat} (hd : decode (zb m) pc = .ok (.ifCond .ge off, 3)) (ht : (pc : Int) + off = (tgt : Int)) (kk : (0 ≤ x → wp0 m Q tgt lo st cs ss n f) ∧ (¬ 0 ≤ x → wp0 m Q (pc + 3) lo st cs ss n f)) : wp0 m Q pc lo (.int x :: st) cs ss n f := fun p l e s mi args below meth c o n0 H locs ls C S => lv_if_ge C.1 C.2.1 hd ht (fun q => kk.1 q p l e s mi args below meth c o n0 H locs ls C S) (fun q => kk.2 q p l e s mi args below meth c o n0 H locs ls C S)
theorem s_if_gt {x : Int32} {off : Int} {tgt : Nat} (hd : decode (zb m) pc = .ok (.ifCond .gt off, 3)) (ht : (pc : Int) + off = (tgt : Int)) (kk : (0 < x → wp0 m Q tgt lo st cs ss n f) ∧ (¬ 0 < x → wp0 m Q (pc + 3) lo st cs ss n f)) : wp0 m Q pc lo (.int x :: st) cs ss n f := fun p l e s mi args below meth c o n0 H locs ls C S => lv_if_gt C.1 C.2.1 hd ht (fun q => kk.1 q p l e s mi args below meth c o n0 H locs ls C S) (fun q => kk.2 q p l e s mi args below meth c o n0 H locs ls C S)
theorem s_if_le {x : Int32} {off : Int} {tgt : Nat} (hd : decode (zb m) pc = .ok (.ifCond .le off, 3)) (ht : (pc : Int) + off = (tgt : Int)) (kk : (x ≤ 0 → wp0 m Q tgt lo st cs ss n f) ∧ (¬ x ≤ 0 → wp0 m Q (pc + 3) lo st cs ss n f)) : wp0 m Q pc lo (.int x :: st) cs ss n f := fun p l e s mi args below meth c o n0 H locs ls C S => lv_if_le C.1 C.2.1 hd ht (fun q => kk.1 q p l e s mi args below meth c o n0 H locs ls C S) (fun q => kk.2 q p l e s mi args below meth c o n0 H locs ls C S)
theorem s_if_ne {x : Int32} {off : Int} {tgt : Nat} (hd : decode (zb m) pc = .ok (.ifCond .ne off, 3)) (ht : (pc : Int) + off = (tgt : Int)) (kk : (x = 0 → wp0 m Q (pc + 3) lo st cs ss n f) ∧ (¬ x = 0 → wp0 m Q tgt lo st cs ss n f)) : wp0 m Q pc lo (.int x :: st) cs ss n f := fun p l e s mi args below meth c o n0 H locs ls C S => lv_if_ne C.1 C.2.1 hd ht (fun q => kk.2 q p l e s mi args below meth c o n0 H locs ls C S) (fun q => kk.1 q p l e s mi args below meth c o n0 H locs ls C S)
theorem s_icmp_eq {x y : Int32} {off : Int} {tgt : Nat} (hd : decode (zb m) pc = .ok (.if_icmp .eq off, 3)) (ht : (pc : Int) + off = (tgt : Int)) (kk : (x = y → wp0 m Q tgt lo st cs ss n f) ∧ (¬ x = y → wp0 m Q (pc + 3) lo st cs ss n f)) : wp0 m Q pc lo (.int y :: .int x :: st) cs ss n f := fun p l e s mi args below meth c o n0 H locs ls C S => lv_icmp_eq C.1 C.2.1 hd ht (fun q => kk.1 q p l e s mi args below meth c o n0 H locs ls C S) (fun q => kk.2 q p l e s mi args below meth c o n0 H locs ls C S)
theorem s_icmp_lt {x y : Int32} {off : Int} {tgt : Nat} (hd : decode (zb m) pc = .ok (.if_icmp .lt off, 3)) (ht : (pc : Int) + off = (tgt : Int)) (kk : (x < y → wp0 m Q tgt lo st cs ss n f) ∧ (¬ x < y → wp0 m Q (pc + 3) lo st cs ss n f)) : wp0 m Q pc lo (.int y :: .int x :: st) cs ss n f := fun p l e s mi args below meth c o n0 H locs ls C S => lv_icmp_lt C.1 C.2.1 hd ht (fun q => kk.1 q p l e s mi args below meth c o n0 H locs ls C S) (fun q => kk.2 q p l e s mi args below meth c o n0 H locs ls C S)
theorem s_icmp_ge {x y : Int32} {off : Int} {tgt : Nat} (hd : decode (zb m) pc = .ok (.if_icmp .ge off, 3)) (ht : (pc : Int) + off = (tgt : Int)) (kk : (y ≤ x → wp0 m Q tgt lo st cs ss n f) ∧ (¬ y ≤ x → wp0 m Q (pc + 3) lo st cs ss n f)) : wp0 m Q pc lo (.int y :: .int x :: st) cs ss n f := fun p l e s mi args below meth c o n0 H locs ls C S => lv_icmp_ge C.1 C.2.1 hd ht (fun q => kk.1 q p l e s mi args below meth c o n0 H locs ls C S) (fun q => kk.2 q p l e s mi args below meth c o n0 H locs ls C S)
theorem s_icmp_gt {x y : Int32} {off : Int} {tgt : Nat} (hd : decode (zb m) pc = .ok (.if_icmp .gt off, 3)) (ht : (pc : Int) + off = (tgt : Int)) (kk : (y < x → wp0 m Q tgt lo st cs ss n f) ∧ (¬ y < x → wp0 m Q (pc + 3) lo st cs ss n f)) : wp0 m Q pc lo (.int y :: .int x :: st) cs ss n f := fun p l e s mi args below meth c o n0 H locs ls C S => lv_icmp_gt C.1 C.2.1 hd ht (fun q => kk.1 q p l e s mi args below meth c o n0 H locs ls C S) (fun q => kk.2 q p l e s mi args below meth c o n0 H locs ls C S)
theorem s_icmp_le {x y : Int32} {off : Int} {tgt : Nat} (hd : decode (zb m) pc = .ok (.if_icmp .le off, 3)) (ht : (pc : Int) + off = (tgt : Int)) (kk : (x ≤ y → wp0 m Q tgt lo st cs ss n f) ∧ (¬ x ≤ y → wp0 m Q (pc + 3) lo st cs ss n f)) : wp0 m Q pc lo (.int y :: .int x :: st) cs ss n f := fun p l e s mi args below meth c o n0 H locs ls C S => lv_icmp_le C.1 C.2.1 hd ht (fun q => kk.1 q p l e s mi args below meth c o n0 H locs ls C S) (fun q => kk.2 q p l e s mi args below meth c o n0 H locs ls C S)
theorem s_icmp_ne {x y : Int32} {off : Int} {tgt : Nat} (hd : decode (zb m) pc = .ok (.if_icmp .ne off, 3)) (ht : (pc : Int) + off = (tgt : Int)) (kk : (x = y → wp0 m Q (pc + 3) lo st cs ss n f) ∧ (¬ x = y → wp0 m Q tgt lo st cs ss n f)) : wp0 m Q pc lo (.int y :: .int x :: st) cs ss n f := fun p l e s mi args below meth c o n0 H locs ls C S => lv_icmp_ne C.1 C.2.1 hd ht (fun q => kk.2 q p l e s mi args below meth c o n0 H locs ls C S) (fun q => kk.1 q p l e s mi args below meth c o n0 H locs ls C S)
theorem s_tabOut {dflt a b : Int} {offs : Array Int} {len : Nat} {x : Int32} {tgt : Nat} (hd : decode (zb m) pc = .ok (.tableswitch dflt a b offs, len)) (h : x.toInt < a ∨ b < x.toInt) (ht : (pc : Int) + dflt = (tgt : Int)) (kk : wp0 m Q tgt lo st cs ss n f) : wp0 m Q pc lo (.int x :: st) cs ss n f := fun p l e s mi args below meth c o n0 H locs ls C S => lv_tableOut C.1 C.2.1 hd h ht (kk p l e s mi args below meth c o n0 H locs ls C S)
theorem s_tabIn {dflt a b : Int} {offs : Array Int} {len : Nat} {x : Int32} {off : Int} {tgt : Nat} (hd : decode (zb m) pc = .ok (.tableswitch dflt a b offs, len)) (h1 : ¬ x.toInt < a) (h2 : ¬ b < x.toInt) (ho : offs[(x.toInt - a).toNat]? = some off) (ht : (pc : Int) + off = (tgt : Int)) (kk : wp0 m Q tgt lo st cs ss n f) : wp0 m Q pc lo (.int x :: st) cs ss n f := fun p l e s mi args below meth c o n0 H locs ls C S => lv_tableIn C.1 C.2.1 hd h1 h2 ho ht (kk p l e s mi args below meth c o n0 H locs ls C S)
theorem s_iret {v : Int32} (hr : zr m = some .int) (hd : decode (zb m) pc = .ok (.ireturn, 1)) (hc : cs ≤ (zR m).cells) (hs : ss ≤ (zR m).slots) (hq : Q (some (.int v)) n f) : wp0 m Q pc lo [.int v] cs ss n f := fun p l e s mi args below meth c o n0 H locs ls C S => W.widen hc hs (W.iret (v := v) C.1 C.2.1 (C.2.2.1.trans hr) (fun t ht _ => ⟨⟨some (.int v), n, f, rfl, hq, S.2.1, by rw [ht]; exact S.1, by rw [ht]; exact S.2.2.1, S.2.2.2.1⟩, S.2.2.2.2.1.F ht⟩) (fun q hq => S.2.2.2.2.1.2.2 q hq) hd C.2.2.2.2.2.2.1)
theorem s_zret {v : Int32} (hr : zr m = some .boolean) (hd : decode (zb m) pc = .ok (.ireturn, 1)) (hc : cs ≤ (zR m).cells) (hs : ss ≤ (zR m).slots) (hn : narrow .boolean (.int v) = .int v) (hq : Q (some (.int v)) n f) : wp0 m Q pc lo [.int v] cs ss n f := fun p l e s mi args below meth c o n0 H locs ls C S => W.widen hc hs (W.zret (v := v) C.1 C.2.1 (C.2.2.1.trans hr) hn (fun t ht _ => ⟨⟨some (.int v), n, f, rfl, hq, S.2.1, by rw [ht]; exact S.1, by rw [ht]; exact S.2.2.1, S.2.2.2.1⟩, S.2.2.2.2.1.F ht⟩) (fun q hq => S.2.2.2.2.1.2.2 q hq) hd C.2.2.2.2.2.2.1)
theorem s_lret {v : Int64} (hr : zr m = some .long) (hd : decode (zb m) pc = .ok (.lreturn, 1)) (hc : cs ≤ (zR m).cells) (hs : ss ≤ (zR m).slots) (hq : Q (some (.long v)) n f) : wp0 m Q pc lo [.long v] cs ss n f := fun p l e s mi args below meth c o n0 H locs ls C S => W.widen hc hs (W.lret (v := v) C.1 C.2.1 (C.2.2.1.trans hr) (fun t ht _ => ⟨⟨some (.long v), n, f, rfl, hq, S.2.1, by rw [ht]; exact S.1, by rw [ht]; exact S.2.2.1, S.2.2.2.1⟩, S.2.2.2.2.1.F ht⟩) (fun q hq => S.2.2.2.2.1.2.2 q hq) hd C.2.2.2.2.2.2.1)
theorem s_vret  (hr : zr m = none) (hd : decode (zb m) pc = .ok (.return_, 1)) (hc : cs ≤ (zR m).cells) (hs : ss ≤ (zR m).slots) (hq : Q none n f) : wp0 m Q pc lo [] cs ss n f := fun p l e s mi args below meth c o n0 H locs ls C S => W.widen hc hs (W.vret C.1 C.2.1 (C.2.2.1.trans hr) (fun t ht _ => ⟨⟨none, n, f, rfl, hq, S.2.1, by rw [ht]; exact S.1, by rw [ht]; exact S.2.2.1, S.2.2.2.1⟩, S.2.2.2.2.1.F ht⟩) (fun q hq => S.2.2.2.2.1.2.2 q hq) hd C.2.2.2.2.2.2.1)
theorem s_aret {v : Nat} {rt : FieldType} (hr : zr m = some rt) (hrt : (∃ q, rt = .object q) ∨ ∃ t, rt = .array t) (hd : decode (zb m) pc = .ok (.areturn, 1)) (hc : cs ≤ (zR m).cells) (hs : ss ≤ (zR m).slots) (hq : Q (some (.ref v)) n f) : wp0 m Q pc lo [.ref v] cs ss n f := fun p l e s mi args below meth c o n0 H locs ls C S => W.widen hc hs (W.aret (v := .ref (o.1 + v)) C.1 C.2.1 (C.2.2.1.trans hr) hrt (Or.inr ⟨_, rfl⟩) (fun t ht _ => ⟨⟨some (.ref v), n, f, rfl, hq, S.2.1, by rw [ht]; exact S.1, by rw [ht]; exact S.2.2.1, S.2.2.2.1⟩, S.2.2.2.2.1.F ht⟩) (fun q hq => S.2.2.2.2.1.2.2 q hq) hd C.2.2.2.2.2.2.1)
end ZST
end
section
/-! the rows of the logic that look at the world, and the calls -/
section ZHP
variable {m : Zm} {Q : Option Value → Nat → (Nat → En) → Prop} {pc : Nat} {lo lo' : List (Nat × Value)} {st : List Value} {cs ss n : Nat} {f : Nat → En}
theorem zone {D : va_G} {x : Nat × va_E} {H : Heap} (h : va_at D zcl x H) : va_P D zcl [x] H := fun k q hk => by
  have h0 : k < 1 := (List.getElem?_eq_some_iff.mp hk).1
  rw [show k = 0 by omega] at hk
  cases hk
  exact h
theorem zmem {p : Program} {s : State} {mi : MethodId} {args : Array Value} {meth : Method} {c : Code} {o : Zo} {n0 : Nat} {H : Heap} {locs : List Loc} {ls : Array Slot} (C : Zx m p s mi args meth c o n0) (S : Zs m s o n0 H locs ls lo n f) {a : Nat} (ha : a < n) : zA o.1 n0 s.heap.size (o.1 + a) := by
  obtain ⟨-, -, -, -, -, -, -, -, -, hg, hb⟩ := C
  obtain ⟨-, h1, h2, h3, -⟩ := S
  by_cases h : a < n0
  · exact Or.inl ⟨by omega, by omega⟩
  · cases hgm : zg m with
    | true =>
      have := hg hgm
      exact Or.inr (by omega)
    | false =>
      have := h3 hgm
      omega
theorem zaddr {p : Program} {s : State} {mi : MethodId} {args : Array Value} {meth : Method} {c : Code} {o : Zo} {n0 : Nat} {H : Heap} {locs : List Loc} {ls : Array Slot} (C : Zx m p s mi args meth c o n0) (S : Zs m s o n0 H locs ls lo n f) (hgm : zg m = true) : H.size = o.1 + n := by
  have h1 := C.2.2.2.2.2.2.2.2.2.1 hgm
  have h2 := S.2.2.1
  omega
theorem s_get {ci k index a : Nat} {fs : List Value} {q : vw_C} {v : Value} (hd : decode (zb m) pc = .ok (.getfield index, 3)) (hq : zcl[ci]? = some q) (hk : k < q.2.2) (hw : Cond.fieldLink (zy m).cls index (q.2.1 k).1 (q.2.1 k).2.1 (q.2.1 k).2.2.1 ∈ zG) (hf : f a = .inr (ci, fs)) (ha : a < n) (hv : fs[k]? = some v) (kk : wp0 m Q (pc + 3) lo (v :: st) cs ss n f) : wp0 m Q pc lo (.ref a :: st) cs ss n f := fun p l e s mi args below meth c o n0 H locs ls C S =>
  va_get (D := o.2.1) (ws := [(o.1 + a, trE o (f a))]) (tys := ztys o) (Ts := zw m) C.1 C.2.1 C.2.2.2.2.2.1 (fun w h => List.mem_cons_of_mem _ (zcl_in ci q hq w h)) C.2.2.2.2.1 C.2.2.2.2.2.2.2.2.1.1 (zone (S.1 a ha)) 0 (by rw [hf]; rfl) hq k hk (C.2.2.2.2.2.1 _ (List.mem_cons_of_mem _ hw)) (fun _ h => h) (by rw [List.getElem?_map, hv]; rfl) hd (kk p l e s mi args below meth c o n0 H locs ls C S)
theorem s_put {ci k index a : Nat} {fs : List Value} {q : vw_C} {v : Value} (hd : decode (zb m) pc = .ok (.putfield index, 3)) (hq : zcl[ci]? = some q) (hk : k < q.2.2) (hw : Cond.fieldLink (zy m).cls index (q.2.1 k).1 (q.2.1 k).2.1 (q.2.1 k).2.2.1 ∈ zG) (hfin : (q.2.1 k).2.2.2 = false) (hf : f a = .inr (ci, fs)) (ha : a < n) (hn : ∀ B, narrow (ztf ci k) (trV B v) = trV B v ∧ fits (ztf ci k) (trV B v) = true) (hl : k < fs.length) (kk : wp0 m Q (pc + 3) lo st cs ss n (va_up f a (.inr (ci, fs.set k v)))) : wp0 m Q pc lo (v :: .ref a :: st) cs ss n f := by
  intro p l e s mi args below meth c o n0 H locs ls C S
  have hts := C.2.2.2.2.2.1
  have hin : ∀ w ∈ u_ws q.1 q.2.1 q.2.2, w ∈ zw m := fun w h => List.mem_cons_of_mem _ (zcl_in ci q hq w h)
  have hK := C.2.2.2.2.2.2.2.2.1.1
  have hap := va_apart (own := (zy m).cls) (C := q.1) (T := q.2.1) (N := q.2.2) hts hin (ztf ci) (zcl_ty ci q hq) (zcl_nm ci q hq) hK hq
  have hat := S.1 a ha
  rw [hf] at hat
  obtain ⟨r, h1, cell, q1, q2, q3, q4⟩ := hat
  have hr : r = q := Option.some.inj (h1.symm.trans hq)
  subst hr
  obtain ⟨hS, hfc, kC, hkC, hkind⟩ := hK.1 ci _ hq
  obtain ⟨cf, kf, fi, fd, hi, hsl⟩ := hS k hk
  have hlay := hts _ (hin _ (u_in_lay hk))
  unfold u_lay at hlay
  rw [if_neg (by rw [hfin]; decide)] at hlay
  have hst := (u_facts hfc hkC (u_lays hts hin hk) hi).1
  have h6 := u_store hfc hkC hkind hlay hi (zcl_ty ci r hq k hk) (hn o.1).1 (hn o.1).2
  refine W.putK C.1 C.2.1 (f := fd) ⟨C.2.2.2.2.1, hts _ (List.mem_cons_of_mem _ hw), ⟨_, _, _, hi⟩, hst⟩ (by rw [q2]; exact h6) q1 q3 (by rw [hsl]; exact k2_hasslot (q4 k hk)) rfl rfl hd fun H' e1 e2 e3 => ?_
  rw [hsl] at e1 ⊢
  refine kk p l e s mi args below meth c o n0 H' _ ls C ⟨S.1.put (e := .inr (ci, fs.set k v)) ?_ e3, S.2.1, by rw [e2]; exact S.2.2.1, S.2.2.2.1, S.2.2.2.2.1.put e2 e3 (zmem C S ha), S.2.2.2.2.2⟩
  refine ⟨_, hq, t_OB.to (V := updV (vp_V (fs.map (trV o.1))) k (trV o.1 v)) ⟨_, e1, q2, q3, t_set q4 hap hk (trV o.1 v)⟩ (fun j _ => ?_)⟩
  rw [List.map_set]
  exact vp_updV_set (by rw [List.length_map]; exact hl) _ j
theorem s_putF {ci k index a : Nat} {fs : List Value} {q : vw_C} {v : Value} (hd : decode (zb m) pc = .ok (.putfield index, 3)) (hq : zcl[ci]? = some q) (hk : k < q.2.2) (hw : Cond.fieldLink (zy m).cls index (q.2.1 k).1 (q.2.1 k).2.1 (q.2.1 k).2.2.1 ∈ zG) (hfin : (q.2.1 k).2.2.2 = true) (hini : (zy m).name = "<init>") (hdecl : (q.2.1 k).1 = (zy m).cls) (hf : f a = .inr (ci, fs)) (ha : a < n) (hn : ∀ B, narrow (ztf ci k) (trV B v) = trV B v ∧ fits (ztf ci k) (trV B v) = true) (hl : k < fs.length) (kk : wp0 m Q (pc + 3) lo st cs ss n (va_up f a (.inr (ci, fs.set k v)))) : wp0 m Q pc lo (v :: .ref a :: st) cs ss n f := by
  intro p l e s mi args below meth c o n0 H locs ls C S
  have hts := C.2.2.2.2.2.1
  have hown := C.2.2.2.2.1
  have hin : ∀ w ∈ u_ws q.1 q.2.1 q.2.2, w ∈ zw m := fun w h => List.mem_cons_of_mem _ (zcl_in ci q hq w h)
  have hK := C.2.2.2.2.2.2.2.2.1.1
  have hap := va_apart (own := (zy m).cls) (C := q.1) (T := q.2.1) (N := q.2.2) hts hin (ztf ci) (zcl_ty ci q hq) (zcl_nm ci q hq) hK hq
  have hat := S.1 a ha
  rw [hf] at hat
  obtain ⟨r, h1, cell, q1, q2, q3, q4⟩ := hat
  have hr : r = q := Option.some.inj (h1.symm.trans hq)
  subst hr
  obtain ⟨hS, hfc, kC, hkC, hkind⟩ := hK.1 ci _ hq
  obtain ⟨cf, kf, fi, fd, hi, hsl⟩ := hS k hk
  have hlay := hts _ (hin _ (u_in_lay hk))
  unfold u_lay at hlay
  rw [if_pos hfin] at hlay
  have hst := (u_facts hfc hkC (u_lays hts hin hk) hi).1
  have hcf : mi.cls = cf := by
    obtain ⟨_, _, c', _, _, _, -, -, hf', -, -, -, hown2, -⟩ := Cond.laysFinal_spec hlay
    have e1 : c' = cf := by have := hi.symm.trans hf'; simp at this; exact this.1.symm
    rw [hdecl] at hown2
    rw [← e1]; exact Option.some.inj (hown.symm.trans hown2)
  have h6 := u_fits hfc hkC hkind (Or.inr hlay) hi (zcl_ty ci r hq k hk) (hn o.1).1 (hn o.1).2
  refine W.putFinK C.1 C.2.1 hown (hts _ (List.mem_cons_of_mem _ hw)) hi hst hcf (C.2.2.2.2.2.2.2.1.trans hini) (by rw [q2]; exact h6) q1 q3 (by rw [hsl]; exact k2_hasslot (q4 k hk)) rfl rfl hd fun H' e1 e2 e3 => ?_
  rw [hsl] at e1 ⊢
  refine kk p l e s mi args below meth c o n0 H' _ ls C ⟨S.1.put (e := .inr (ci, fs.set k v)) ?_ e3, S.2.1, by rw [e2]; exact S.2.2.1, S.2.2.2.1, S.2.2.2.2.1.put e2 e3 (zmem C S ha), S.2.2.2.2.2⟩
  refine ⟨_, hq, t_OB.to (V := updV (vp_V (fs.map (trV o.1))) k (trV o.1 v)) ⟨_, e1, q2, q3, t_set q4 hap hk (trV o.1 v)⟩ (fun j _ => ?_)⟩
  rw [List.map_set]
  exact vp_updV_set (by rw [List.length_map]; exact hl) _ j
theorem s_iald {a len : Nat} {g : Nat → Int32} {i : Int32} (hd : decode (zb m) pc = .ok (.iaload, 1)) (hf : f a = .inl (0, len, .inl g)) (ha : a < n) (hin : vp_in i len) (kk : wp0 m Q (pc + 1) lo (.int (g i.toNatClampNeg) :: st) cs ss n f) : wp0 m Q pc lo (.int i :: .ref a :: st) cs ss n f := fun p l e s mi args below meth c o n0 H locs ls C S =>
  va_iald (D := o.2.1) (ws := [(o.1 + a, trE o (f a))]) (tys := ztys o) C.1 C.2.1 C.2.2.2.2.2.2.2.2.1.1 (zone (S.1 a ha)) 0 0 (by rw [hf]; rfl) rfl hin hd (kk p l e s mi args below meth c o n0 H locs ls C S)
theorem s_zald {a len : Nat} {g : Nat → Int32} {i : Int32} (hd : decode (zb m) pc = .ok (.baload, 1)) (hf : f a = .inl (2, len, .inl g)) (ha : a < n) (hin : vp_in i len) (kk : wp0 m Q (pc + 1) lo (.int (g i.toNatClampNeg) :: st) cs ss n f) : wp0 m Q pc lo (.int i :: .ref a :: st) cs ss n f := fun p l e s mi args below meth c o n0 H locs ls C S =>
  va_zald (D := o.2.1) (ws := [(o.1 + a, trE o (f a))]) (tys := ztys o) C.1 C.2.1 C.2.2.2.2.2.2.2.2.1.1 (zone (S.1 a ha)) 0 2 (by rw [hf]; rfl) rfl hin hd (kk p l e s mi args below meth c o n0 H locs ls C S)
theorem s_lald {a len : Nat} {g : Nat → Int64} {i : Int32} (hd : decode (zb m) pc = .ok (.laload, 1)) (hf : f a = .inl (1, len, .inr (.inl g))) (ha : a < n) (hin : vp_in i len) (kk : wp0 m Q (pc + 1) lo (.long (g i.toNatClampNeg) :: st) cs ss n f) : wp0 m Q pc lo (.int i :: .ref a :: st) cs ss n f := fun p l e s mi args below meth c o n0 H locs ls C S =>
  va_lald (D := o.2.1) (ws := [(o.1 + a, trE o (f a))]) (tys := ztys o) C.1 C.2.1 C.2.2.2.2.2.2.2.2.1.1 (zone (S.1 a ha)) 0 1 (by rw [hf]; rfl) rfl hin hd (kk p l e s mi args below meth c o n0 H locs ls C S)
theorem s_aald {t a b len : Nat} {ty : FieldType} {g : Nat → Option Nat} {i : Int32} (hd : decode (zb m) pc = .ok (.aaload, 1)) (ht : ∀ o : Zo, (ztys o)[t]? = some (o.2.2 t, ty)) (hty : ty.isReference = true) (hf : f a = .inl (t, len, .inr (.inr g))) (ha : a < n) (hin : vp_in i len) (hg : g i.toNatClampNeg = some b) (kk : wp0 m Q (pc + 1) lo (.ref b :: st) cs ss n f) : wp0 m Q pc lo (.int i :: .ref a :: st) cs ss n f := by
  intro p l e s mi args below meth c o n0 H locs ls C S
  have hlt : i.toNatClampNeg < len := Nat.not_le.mp fun q => hin (Or.inr q)
  have hat := S.1 a ha
  rw [hf] at hat
  have hat : H[o.1 + a]? = some (arrV (o.2.2 t) len (fun j => va_rf ((g j).map (fun a => o.1 + a)))) := hat
  refine W.aald (v := .ref (o.1 + b)) (ty := ty) C.1 C.2.1 hat ((C.2.2.2.2.2.2.2.2.1.1.2 t _ (ht o)).1 len (fun j => va_rf ((g j).map (fun a => o.1 + a)))) hty (fun q => by cases q) (by rw [arrV_size]; exact hin) (by rw [arrV_read _ _ hlt, hg]; rfl) rfl rfl hd (kk p l e s mi args below meth c o n0 H locs ls C S)
theorem s_alen {t a len : Nat} {ty : FieldType} {g : (Nat → Int32) ⊕ (Nat → Int64) ⊕ (Nat → Option Nat)} (hd : decode (zb m) pc = .ok (.arraylength, 1)) (ht : ∀ o : Zo, (ztys o)[t]? = some (o.2.2 t, ty)) (hf : f a = .inl (t, len, g)) (ha : a < n) (kk : wp0 m Q (pc + 1) lo (.int (Int32.ofNat len) :: st) cs ss n f) : wp0 m Q pc lo (.ref a :: st) cs ss n f := by
  intro p l e s mi args below meth c o n0 H locs ls C S
  have kk' := kk p l e s mi args below meth c o n0 H locs ls C S
  obtain g | g | g := g
  · exact va_alen (D := o.2.1) (x := (len, .inl g)) (ws := [(o.1 + a, trE o (f a))]) (tys := ztys o) C.1 C.2.1 C.2.2.2.2.2.2.2.2.1.1 (zone (S.1 a ha)) 0 t (by rw [hf]; rfl) (ht o) rfl hd kk'
  · exact va_alen (D := o.2.1) (x := (len, .inr (.inl g))) (ws := [(o.1 + a, trE o (f a))]) (tys := ztys o) C.1 C.2.1 C.2.2.2.2.2.2.2.2.1.1 (zone (S.1 a ha)) 0 t (by rw [hf]; rfl) (ht o) rfl hd kk'
  · exact va_alen (D := o.2.1) (x := (len, .inr (.inr (.inr (.inr (fun i => (g i).map (fun a => o.1 + a))))))) (ws := [(o.1 + a, trE o (f a))]) (tys := ztys o) C.1 C.2.1 C.2.2.2.2.2.2.2.2.1.1 (zone (S.1 a ha)) 0 t (by rw [hf]; rfl) (ht o) rfl hd kk'
theorem s_iast {a len : Nat} {g : Nat → Int32} {i x : Int32} (hd : decode (zb m) pc = .ok (.iastore, 1)) (hf : f a = .inl (0, len, .inl g)) (ha : a < n) (hin : vp_in i len) (kk : wp0 m Q (pc + 1) lo st cs ss n (va_up f a (.inl (0, len, .inl (upd g i.toNatClampNeg x))))) : wp0 m Q pc lo (.int x :: .int i :: .ref a :: st) cs ss n f := by
  intro p l e s mi args below meth c o n0 H locs ls C S
  have hat := S.1 a ha
  rw [hf] at hat
  have hat : H[o.1 + a]? = some (arrV (o.2.2 0) len (fun j => .int (g j))) := hat
  refine W.iast C.1 C.2.1 hat ((C.2.2.2.2.2.2.2.2.1.1.2 0 _ rfl).1 len (fun j => .int (g j))) (fun q => by cases q) (by rw [arrV_size]; exact hin) rfl rfl hd fun H1 ee z oq => ?_
  refine kk p l e s mi args below meth c o n0 H1 _ ls C ⟨S.1.put ?_ oq, S.2.1, by rw [z]; exact S.2.2.1, S.2.2.2.1, S.2.2.2.2.1.put z oq (zmem C S ha), S.2.2.2.2.2⟩
  show H1[o.1 + a]? = some (vp_cell _ _)
  rw [ee, vp_cell_i, arrV_store]
  congr 2
  funext q
  by_cases hq : q = i.toNatClampNeg
  · subst hq
    simp [updV, upd]
  · simp [updV, upd, hq]
theorem s_zast {a len : Nat} {g : Nat → Int32} {i x : Int32} (hd : decode (zb m) pc = .ok (.bastore, 1)) (hf : f a = .inl (2, len, .inl g)) (ha : a < n) (hin : vp_in i len) (kk : wp0 m Q (pc + 1) lo st cs ss n (va_up f a (.inl (2, len, .inl (upd g i.toNatClampNeg (vp_nar .boolean x)))))) : wp0 m Q pc lo (.int x :: .int i :: .ref a :: st) cs ss n f := by
  intro p l e s mi args below meth c o n0 H locs ls C S
  have hat := S.1 a ha
  rw [hf] at hat
  have hat : H[o.1 + a]? = some (arrV (o.2.2 2) len (fun j => .int (g j))) := hat
  refine W.zast C.1 C.2.1 hat ((C.2.2.2.2.2.2.2.2.1.1.2 2 _ rfl).1 len (fun j => .int (g j))) (fun q => by cases q) (by rw [arrV_size]; exact hin) rfl rfl hd fun H1 ee z oq => ?_
  refine kk p l e s mi args below meth c o n0 H1 _ ls C ⟨S.1.put ?_ oq, S.2.1, by rw [z]; exact S.2.2.1, S.2.2.2.1, S.2.2.2.2.1.put z oq (zmem C S ha), S.2.2.2.2.2⟩
  show H1[o.1 + a]? = some (vp_cell _ _)
  rw [ee, vp_cell_i, arrV_store]
  congr 2
  funext q
  by_cases hq : q = i.toNatClampNeg
  · subst hq
    simp [updV, upd, vp_nar]
    try rfl
  · simp [updV, upd, hq]
theorem s_last {a len : Nat} {g : Nat → Int64} {i : Int32} {x : Int64} (hd : decode (zb m) pc = .ok (.lastore, 1)) (hf : f a = .inl (1, len, .inr (.inl g))) (ha : a < n) (hin : vp_in i len) (kk : wp0 m Q (pc + 1) lo st cs ss n (va_up f a (.inl (1, len, .inr (.inl (vp_updL g i.toNatClampNeg x)))))) : wp0 m Q pc lo (.long x :: .int i :: .ref a :: st) cs ss n f := by
  intro p l e s mi args below meth c o n0 H locs ls C S
  have hat := S.1 a ha
  rw [hf] at hat
  have hat : H[o.1 + a]? = some (arrV (o.2.2 1) len (fun j => .long (g j))) := hat
  refine W.last C.1 C.2.1 hat ((C.2.2.2.2.2.2.2.2.1.1.2 1 _ rfl).1 len (fun j => .long (g j))) (fun q => by cases q) (by rw [arrV_size]; exact hin) rfl rfl hd fun H1 ee z oq => ?_
  refine kk p l e s mi args below meth c o n0 H1 _ ls C ⟨S.1.put ?_ oq, S.2.1, by rw [z]; exact S.2.2.1, S.2.2.2.1, S.2.2.2.2.1.put z oq (zmem C S ha), S.2.2.2.2.2⟩
  show H1[o.1 + a]? = some (vp_cell _ _)
  rw [ee, vp_cell_l, arrV_store]
  congr 2
  funext q
  by_cases hq : q = i.toNatClampNeg
  · subst hq
    simp [updV, vp_updL]
  · simp [updV, vp_updL, hq]
theorem s_aast {t a b len cib : Nat} {g : Nat → Option Nat} {i : Int32} {r : vw_C} {fsb : List Value} (hd : decode (zb m) pc = .ok (.aastore, 1)) (ht : ∀ o : Zo, (ztys o)[t]? = some (o.2.2 t, .object r.1)) (hf : f a = .inl (t, len, .inr (.inr g))) (ha : a < n) (hin : vp_in i len) (hfb : f b = .inr (cib, fsb)) (hb : b < n) (hr : zcl[cib]? = some r) (kk : wp0 m Q (pc + 1) lo st cs ss n (va_up f a (.inl (t, len, .inr (.inr (va_up g i.toNatClampNeg (some b))))))) : wp0 m Q pc lo (.ref b :: .int i :: .ref a :: st) cs ss n f := by
  intro p l e s mi args below meth c o n0 H locs ls C S
  have hK := C.2.2.2.2.2.2.2.2.1.1
  have hat := S.1 a ha
  rw [hf] at hat
  have hat : H[o.1 + a]? = some (arrV (o.2.2 t) len (fun j => va_rf ((g j).map (fun a => o.1 + a)))) := hat
  have hbt := S.1 b hb
  rw [hfb] at hbt
  have hlt : i.toNatClampNeg < len := Nat.not_le.mp fun q => hin (Or.inr q)
  have h0 : ¬ i < 0 := fun q => hin (Or.inl q)
  obtain ⟨r', hr', cellV, g1, g2, g3, -⟩ := hbt
  have hcls := (hK.1 cib r hr).2
  obtain ⟨kA, comp, k1, k2, k3, -⟩ := (hK.2 t _ (ht o)).2
  have hcomp : comp = o.2.1.1 cib := Option.some.inj (k3.symm.trans hcls.1)
  subst hcomp
  obtain ⟨kC, hkC, -⟩ := hcls.2
  refine W.aast C.1 C.2.1 hat (fun q h => by cases h) (fun h => by cases h) k1 k2 rfl hkC ⟨h0, by rw [arrV_size]; exact hlt⟩ g1 (fun q h => by rw [g3] at h; cases h) (by rw [g2]; exact hkC) (by rw [g2]; exact va_assign hcls) rfl rfl hd fun H1 ee z oq => ?_
  refine kk p l e s mi args below meth c o n0 H1 _ ls C ⟨S.1.put ?_ oq, S.2.1, by rw [z]; exact S.2.2.1, S.2.2.2.1, S.2.2.2.2.1.put z oq (zmem C S ha), S.2.2.2.2.2⟩
  show H1[o.1 + a]? = some (vp_cell _ _)
  rw [ee, vp_cell_q, arrV_store]
  congr 2
  funext q
  by_cases hq : q = i.toNatClampNeg
  · subst hq
    simp [updV, va_up, va_rf]
  · simp [updV, va_up, hq]
end ZHP
end
section
/-! the rows of the logic that call -/
/-- a call's static part: room, and what the tables say of the method -/
def Zc (m m' : Zm) (index np : Nat) : Prop := (zR m').frames + 1 ≤ (zR m).frames ∧ 8 + (zl m' + 11) + (zR m').locals ≤ (zR m).locals ∧ (zg m' = true → zg m = true) ∧ Cond.code (zy m') (zb m') (zl m') (zr m') ∈ zG ∧ Cond.initialized (zy m').cls ∈ zG ∧ ((zy m').cls ≠ "java/lang/invoke/MethodHandle" ∧ (zy m').cls ≠ "java/lang/invoke/VarHandle") ∧ (parseMethodDescriptor (zy m').desc).map (fun d => d.parameters.length) = some np
section ZCA
variable {m m' : Zm} {Q Q' : Option Value → Nat → (Nat → En) → Prop} {pc : Nat} {lo lo' : List (Nat × Value)} {st st0 : List Value} {cs ss n : Nat} {f : Nat → En} {as : List Value} {index np : Nat}
theorem zpay {s : State} {args : Array Value} (h : ∀ w ∈ zw m, w.before args s = true) (hc : Cond.code (zy m') (zb m') (zl m') (zr m') ∈ zG) : ∀ w ∈ zw m', ∀ (a' : Array Value) (U : State), s.WarmedH U.vm → w.before a' U = true := by
  intro w hw a' U hW
  have hg : w ∈ zG := by
    rcases List.mem_cons.mp hw with rfl | hw
    · exact hc
    · exact hw
  exact word_at hW (zg_good hg) (h w (List.mem_cons_of_mem _ hg))
theorem zcb {p : Program} {s : State} {mi : MethodId} {args : Array Value} {meth : Method} {c : Code} {o : Zo} {n0 : Nat} (C : Zx m p s mi args meth c o n0) (hz : Zc m m' index np) (hl : Cond.methodLink (zy m).cls index (zy m') ∈ zG) : CallB (headSpec (zw m) (zR m)).room s args (zy m).cls index (zy m') (zb m') (zl m') (zr m') (zw m') (zR m') (zR m').cells (zR m').slots np := by
  have hts := C.2.2.2.2.2.1
  obtain ⟨h1, h2, -, h4, h5, h6, h7⟩ := hz
  exact ⟨rfl, rfl, h1, h2, zpay hts h4, List.mem_cons_self, hts _ (List.mem_cons_of_mem _ h4), hts _ (List.mem_cons_of_mem _ h5), h6, fun sig h => by rw [h] at h7; exact (Option.some.inj h7).symm, hts _ (List.mem_cons_of_mem _ hl)⟩
/-- behind a call -/
theorem zback {p : Program} {l : Launch} {e : Env} {s : State} {mi : MethodId} {args : Array Value} {below : List Frame} {meth : Method} {c : Code} {o : Zo} {n0 : Nat} {H : Heap} {locs : List Loc} {ls : Array Slot} (C : Zx m p s mi args meth c o n0) (S : Zs m s o n0 H locs ls lo n f) (hgg : zg m' = true → zg m = true) {a : Array Value}
    (hr : va_Run p l e (headSpec (zw m) (zR m)).room s mi args below meth c H locs cs ss (zR m').cells (zR m').slots (F0 mi pc ls (st0.map (trV o.1))) (st.map (trV o.1)) (Zq m' o n Q' (zA o.1 n H.size) a) (zA o.1 n H.size))
    (kk : ∀ (v : Option Value) (n' : Nat) (f' : Nat → En), Q' v n' f' → wp0 m Q (pc + 3) lo (v.toList ++ st) (cs + (zR m').cells) (ss + (zR m').slots) n' f') :
    W p l e (headSpec (zw m) (zR m)).room s mi args below meth c H locs cs ss (MQ below (Zq m o n0 Q (zA o.1 n0 s.heap.size)) args s (zR m).cells (zR m).slots (zA o.1 n0 s.heap.size)) (F0 mi pc ls (st0.map (trV o.1))) := by
  intro T hT X
  obtain ⟨v, st₀, t, T', L, h0, X', hL, e1, e2, ⟨⟨v', n', f', hv, hq, hn, hH, hsz, hg⟩, hz, hk⟩, stp⟩ := hr T hT X
  cases hv
  rw [h0] at hz hk hsz
  have hA : ∀ q, zA o.1 n H.size q → zA o.1 n0 s.heap.size q := by
    intro q hq
    have hS1 := S.2.2.2.2.1.1
    rcases hq with ⟨g1, g2⟩ | g1
    · have := zmem C S (a := q - o.1) (by omega)
      rwa [show o.1 + (q - o.1) = q by omega] at this
    · exact Or.inr (by omega)
  obtain ⟨t2, a1, b1⟩ := kk v' n' f' hq p l e s mi args below meth c o n0 T'.heap (locs ++ L) ls C
    ⟨by rw [e1]; exact hH, Nat.le_trans S.2.1 hn, by rw [e1]; have := S.2.2.1; omega, fun hgm => by
      have h1 := S.2.2.2.1 hgm
      have h2 : zg m' = false := by
        cases hgm' : zg m' with
        | false => rfl
        | true => rw [hgg hgm'] at hgm; cases hgm
      have h3 := hg h2
      omega,
     ⟨Nat.le_trans S.2.2.2.2.1.1 (by rw [e1]; exact hz), fun q h1 h2 => by
        rw [e1, hk q (Nat.lt_of_lt_of_le h1 S.2.2.2.2.1.1) (fun z => h2 (hA q z))]
        exact S.2.2.2.2.1.2.1 q h1 h2, fun q hq => by
        rcases List.mem_append.mp hq with h | h
        · exact S.2.2.2.2.1.2.2 q h
        · exact hA _ (hL q h)⟩, S.2.2.2.2.2⟩ T' rfl X'
  refine ⟨t2, ?_, b1⟩
  refine stp t2 ?_
  have e3 : (v'.map (trV o.1)).toList ++ st.map (trV o.1) = (v'.toList ++ st).map (trV o.1) := by
    cases v' <;> rfl
  show Steps p.tables e below (T'.setTop (F0 mi (pc + 3) ls ((v'.map (trV o.1)).toList ++ st.map (trV o.1)))) t2
  rw [e3]
  exact a1
theorem zcat (B : Nat) : ∀ st : List Value, ((st.map (trV B)).map fun v => v.category).sum = (st.map fun v => v.category).sum
  | [] => rfl
  | v :: vs => by
    have := zcat B vs
    simp only [List.map_cons, List.sum_cons, trV_cat, this]
theorem zpre {p : Program} {s : State} {mi : MethodId} {args : Array Value} {meth : Method} {c : Code} {o : Zo} {n0 : Nat} {H : Heap} {locs : List Loc} {ls : Array Slot} (C : Zx m p s mi args meth c o n0) (S : Zs m s o n0 H locs ls lo n f) (hgg : zg m' = true → zg m = true) : ∀ U : State, U.heap = H → s.WarmedH U.vm → (va_Pc (as.map (trV o.1)) (fun U => U.heap.size = H.size ∧ Hw o n f U.heap ∧ Zk o U ∧ (zg m' = true → H.size = o.1 + n) ∧ o.1 + n ≤ H.size)) (as.map (trV o.1)).toArray U := by
  intro U hU hW
  refine ⟨rfl, by rw [hU], by rw [hU]; exact S.1, Zk.moved hW.alike C.2.2.2.2.2.2.2.2.1, fun hg => zaddr C S (hgg hg), ?_⟩
  have h1 := C.2.2.2.2.2.2.2.2.2.2
  have h2 := S.2.2.1
  omega
theorem zblind {n2 sz : Nat} {o : Zo} {gg : Bool} : FrameBlind (va_Pc as (fun U => U.heap.size = sz ∧ Hw o n f U.heap ∧ Zk o U ∧ (gg = true → sz = o.1 + n) ∧ o.1 + n ≤ sz)) := fun a U g mk q => by
  obtain ⟨q0, q1, q2, q3, q4⟩ := q
  exact ⟨q0, q1, q2, Zk.moved (u := U) (U := U.calling g mk a) (Vm.Alike.refl U.vm) q3, q4⟩
theorem s_callV {b ci : Nat} {fs : List Value} {q : vw_C} (hd : decode (zb m) pc = .ok (.invokevirtual index, 3)) (hz : Zc m m' index np) (hl : Cond.methodLink (zy m).cls index (zy m') ∈ zG) (hi : Cond.instanceMethod (zy m') ∈ zG) (hs : Cond.selects (zy m').cls (zy m') (zy m') ∈ zG) (hq : zcl[ci]? = some q) (hqn : q.1 = (zy m').cls) (hf : f b = .inr (ci, fs)) (hb : b < n) (hst : st0 = as.reverse ++ .ref b :: st) (hn : as.length = np) (hW : (st.map fun v => v.category).sum ≤ 8) (hc : cs + (zR m').cells ≤ (zR m).cells) (hs2 : ss + (zR m').slots ≤ (zR m).slots)
    (hM : Call0 m' (.ref b :: as) n f Q') (kk : ∀ (v : Option Value) (n' : Nat) (f' : Nat → En), Q' v n' f' → wp0 m Q (pc + 3) lo (v.toList ++ st) (cs + (zR m').cells) (ss + (zR m').slots) n' f') : wp0 m Q pc lo st0 cs ss n f := by
  subst hst
  intro p l e s mi args below meth c o n0 H locs ls C S
  have hts := C.2.2.2.2.2.1
  refine zback (Q' := Q') (st := st) (a := (Value.ref (o.1 + b) :: as.map (trV o.1)).toArray) C S hz.2.2.1 ?_ kk
  exact va_runV (As := as.map (trV o.1)) (rest := st.map (trV o.1)) (b := o.1 + b) (C := (zy m').cls) (g := F0 mi pc ls ((as.reverse ++ .ref b :: st).map (trV o.1))) (cells := cs) (slots := ss) (locs := locs) (H := H)
    (S := (⟨C.1, C.2.1, C.2.2.2.1, C.2.2.2.2.1, hts⟩ : CallFix p mi c (zb m) (zl m) s args (zw m) (zy m).cls)) (hM l o H.size) ⟨zcb C hz hl, hts _ (List.mem_cons_of_mem _ hi), hts _ (List.mem_cons_of_mem _ hs)⟩
    ⟨zblind (n2 := 0), by
      have hbt := S.1 b hb
      rw [hf] at hbt
      obtain ⟨q', h1, cell, g1, g2, g3, -⟩ := hbt
      exact ⟨cell, g1, by rw [g3]; rfl, by rw [g2, ← hqn]; exact (C.2.2.2.2.2.2.2.2.1.1.1 ci q hq).2.1⟩, zpre (as := .ref b :: as) C S hz.2.2.1⟩
    rfl (by rw [List.length_map]; exact hn) S.2.2.2.2.2.1 (by show ((as.reverse ++ .ref b :: st).map (trV o.1)) = _; rw [List.map_append, List.map_reverse]; rfl) (lv_room (by rw [zcat]; exact hW)) hd ⟨hc, hs2⟩
theorem s_callS (hd : decode (zb m) pc = .ok (.invokestatic index, 3)) (hz : Zc m m' index np) (hl : Cond.methodLink (zy m).cls index (zy m') ∈ zG) (hi : Cond.static (zy m') ∈ zG) (hst : st0 = as.reverse ++ st) (hn : as.length = np) (hW : (st.map fun v => v.category).sum ≤ 8) (hc : cs + (zR m').cells ≤ (zR m).cells) (hs2 : ss + (zR m').slots ≤ (zR m).slots)
    (hM : Call0 m' as n f Q') (kk : ∀ (v : Option Value) (n' : Nat) (f' : Nat → En), Q' v n' f' → wp0 m Q (pc + 3) lo (v.toList ++ st) (cs + (zR m').cells) (ss + (zR m').slots) n' f') : wp0 m Q pc lo st0 cs ss n f := by
  subst hst
  intro p l e s mi args below meth c o n0 H locs ls C S
  have hts := C.2.2.2.2.2.1
  refine zback (Q' := Q') (st := st) (a := (as.map (trV o.1)).toArray) C S hz.2.2.1 ?_ kk
  exact va_runS (As := as.map (trV o.1)) (rest := st.map (trV o.1)) (g := F0 mi pc ls ((as.reverse ++ st).map (trV o.1))) (cells := cs) (slots := ss) (locs := locs) (H := H)
    (S := (⟨C.1, C.2.1, C.2.2.2.1, C.2.2.2.2.1, hts⟩ : CallFix p mi c (zb m) (zl m) s args (zw m) (zy m).cls)) (hM l o H.size) ⟨zcb C hz hl, hts _ (List.mem_cons_of_mem _ hi)⟩
    ⟨zblind (n2 := 0), zpre (as := as) C S hz.2.2.1⟩
    rfl (by rw [List.length_map]; exact hn) S.2.2.2.2.2.1 (by show ((as.reverse ++ st).map (trV o.1)) = _; rw [List.map_append, List.map_reverse]) (lv_room (by rw [zcat]; exact hW)) hd ⟨hc, hs2⟩
theorem s_callI {b : Nat} (hd : decode (zb m) pc = .ok (.invokespecial index, 3)) (hz : Zc m m' index np) (hl : Cond.methodLink (zy m).cls index (zy m') ∈ zG) (hi : Cond.instanceMethod (zy m') ∈ zG) (hni : (zy m').name = "<init>") (hrn : zr m' = none) (hst : st0 = as.reverse ++ .ref b :: st) (hn : as.length = np) (hW : (st.map fun v => v.category).sum ≤ 8) (hc : cs + (zR m').cells ≤ (zR m).cells) (hs2 : ss + (zR m').slots ≤ (zR m).slots)
    (hM : Call0 m' (.ref b :: as) n f Q') (kk : ∀ (v : Option Value) (n' : Nat) (f' : Nat → En), Q' v n' f' → wp0 m Q (pc + 3) lo (v.toList ++ st) (cs + (zR m').cells) (ss + (zR m').slots) n' f') : wp0 m Q pc lo st0 cs ss n f := by
  subst hst
  intro p l e s mi args below meth c o n0 H locs ls C S
  have hts := C.2.2.2.2.2.1
  have hcb := zcb C hz hl
  rw [hrn] at hcb
  refine zback (Q' := Q') (st := st) (a := (Value.ref (o.1 + b) :: as.map (trV o.1)).toArray) C S hz.2.2.1 ?_ kk
  exact va_runI (As := as.map (trV o.1)) (rest := st.map (trV o.1)) (b := o.1 + b) (g := F0 mi pc ls ((as.reverse ++ .ref b :: st).map (trV o.1))) (cells := cs) (slots := ss) (locs := locs) (H := H)
    (S := (⟨C.1, C.2.1, C.2.2.2.1, C.2.2.2.2.1, hts⟩ : CallFix p mi c (zb m) (zl m) s args (zw m) (zy m).cls)) (hM l o H.size) ⟨hcb, hni, hts _ (List.mem_cons_of_mem _ hi)⟩
    ⟨zblind (n2 := 0), zpre (as := .ref b :: as) C S hz.2.2.1⟩
    rfl (by rw [List.length_map]; exact hn) S.2.2.2.2.2.1 (by show ((as.reverse ++ .ref b :: st).map (trV o.1)) = _; rw [List.map_append, List.map_reverse]; rfl) (lv_room (by rw [zcat]; exact hW)) hd ⟨hc, hs2⟩
/-- a nest mate's private constructor -/
theorem s_callN {b : Nat} {host : String} (hd : decode (zb m) pc = .ok (.invokespecial index, 3)) (hz : Zc m m' index np) (hl : Cond.methodLinkNest (zy m).cls index (zy m') host ∈ zG) (hi : Cond.instanceMethod (zy m') ∈ zG) (hni : (zy m').name = "<init>") (hrn : zr m' = none) (hst : st0 = as.reverse ++ .ref b :: st) (hn : as.length = np) (hW : (st.map fun v => v.category).sum ≤ 8) (hc : cs + (zR m').cells ≤ (zR m).cells) (hs2 : ss + (zR m').slots ≤ (zR m).slots)
    (hM : Call0 m' (.ref b :: as) n f Q') (kk : ∀ (v : Option Value) (n' : Nat) (f' : Nat → En), Q' v n' f' → wp0 m Q (pc + 3) lo (v.toList ++ st) (cs + (zR m').cells) (ss + (zR m').slots) n' f') : wp0 m Q pc lo st0 cs ss n f := by
  subst hst
  intro p l e s mi args below meth c o n0 H locs ls C S
  have hts := C.2.2.2.2.2.1
  obtain ⟨h1, h2, h3, h4, h5, h6, h7⟩ := id hz
  have hcb : va_CN (headSpec (zw m) (zR m)).room s args (zy m).cls index (zy m') host (zb m') (zl m') none (zw m') (zR m') (zR m').cells (zR m').slots np := by
    rw [← hrn]
    exact ⟨⟨rfl, rfl, h1, h2, zpay hts h4, List.mem_cons_self⟩, hts _ (List.mem_cons_of_mem _ h4), hts _ (List.mem_cons_of_mem _ h5), h6, fun sig h => by rw [h] at h7; exact (Option.some.inj h7).symm, hts _ (List.mem_cons_of_mem _ hl)⟩
  refine zback (Q' := Q') (st := st) (a := (Value.ref (o.1 + b) :: as.map (trV o.1)).toArray) C S hz.2.2.1 ?_ kk
  exact va_runIN (As := as.map (trV o.1)) (rest := st.map (trV o.1)) (b := o.1 + b) (g := F0 mi pc ls ((as.reverse ++ .ref b :: st).map (trV o.1))) (cells := cs) (slots := ss) (locs := locs) (H := H)
    (S := (⟨C.1, C.2.1, C.2.2.2.1, C.2.2.2.2.1, hts⟩ : CallFix p mi c (zb m) (zl m) s args (zw m) (zy m).cls)) (hM l o H.size) ⟨hcb, hni, hts _ (List.mem_cons_of_mem _ hi)⟩
    ⟨zblind (n2 := 0), zpre (as := .ref b :: as) C S hz.2.2.1⟩
    rfl (by rw [List.length_map]; exact hn) S.2.2.2.2.2.1 (by show ((as.reverse ++ .ref b :: st).map (trV o.1)) = _; rw [List.map_append, List.map_reverse]; rfl) (lv_room (by rw [zcat]; exact hW)) hd ⟨hc, hs2⟩
theorem s_objInit {a : Nat} (hd : decode (zb m) pc = .ok (.invokespecial index, 3)) (hl : Cond.methodLink (zy m).cls index Lib.objectInit ∈ zG) (hi : Cond.instanceMethod Lib.objectInit ∈ zG) (hcd : Cond.code Lib.objectInit ⟨#[0xb1]⟩ 1 none ∈ zG) (hfr : 1 ≤ (zR m).frames) (hlo : (st.map fun v => v.category).sum + 12 ≤ (zR m).locals) (kk : wp0 m Q (pc + 3) lo st cs ss n f) : wp0 m Q pc lo (.ref a :: st) cs ss n f := by
  intro p l e s mi args below meth c o n0 H locs ls C S
  have hts := C.2.2.2.2.2.1
  exact W.objInit (g := F0 mi pc ls ((.ref a :: st).map (trV o.1))) C.1 C.2.1 C.2.2.2.2.1 (hts _ (List.mem_cons_of_mem _ hl)) (hts _ (List.mem_cons_of_mem _ hi)) (hts _ (List.mem_cons_of_mem _ hcd)) rfl (S.2.2.2.2.2.1.trans C.2.2.2.1.symm) rfl hd hfr (by show 2 * 0 + _ + 12 ≤ _; rw [zcat]; show _ ≤ (zR m).locals; omega) (kk p l e s mi args below meth c o n0 H locs ls C S)
section ZMA
variable {x y : Int32}
theorem s_mmax (hd : decode (zb m) pc = .ok (.invokestatic index, 3)) (hl : Cond.methodLink (zy m).cls index Lib.Math.max.name ∈ zG) (hst : Cond.static Lib.Math.max.name ∈ zG) (hin : Cond.initialized "java/lang/Math" ∈ zG) (hcd : Cond.code Lib.Math.max.name Lib.Math.max.code 2 (some .int) ∈ zG) (hfr : 1 ≤ (zR m).frames) (hlo : (st.map fun v => v.category).sum + 13 ≤ (zR m).locals) (hc : cs ≤ (zR m).cells) (hs : ss ≤ (zR m).slots) (kk : wp0 m Q (pc + 3) lo (.int (if x < y then y else x) :: st) cs ss n f) : wp0 m Q pc lo (.int y :: .int x :: st) cs ss n f := by
  intro p l e s mi args below meth c o n0 H locs ls C S
  have hts := C.2.2.2.2.2.1
  exact va_mmax C.1 C.2.1 (C.2.2.2.1.trans S.2.2.2.2.2.1.symm) C.2.2.2.2.1 (hts _ (List.mem_cons_of_mem _ hl)) (hts _ (List.mem_cons_of_mem _ hst)) (hts _ (List.mem_cons_of_mem _ hin)) (hts _ (List.mem_cons_of_mem _ hcd)) hfr (by rw [zcat]; exact hlo) hc hs hd (kk p l e s mi args below meth c o n0 H locs ls C S)
theorem s_mmin (hd : decode (zb m) pc = .ok (.invokestatic index, 3)) (hl : Cond.methodLink (zy m).cls index Lib.Math.min.name ∈ zG) (hst : Cond.static Lib.Math.min.name ∈ zG) (hin : Cond.initialized "java/lang/Math" ∈ zG) (hcd : Cond.code Lib.Math.min.name Lib.Math.min.code 2 (some .int) ∈ zG) (hfr : 1 ≤ (zR m).frames) (hlo : (st.map fun v => v.category).sum + 13 ≤ (zR m).locals) (hc : cs ≤ (zR m).cells) (hs : ss ≤ (zR m).slots) (kk : wp0 m Q (pc + 3) lo (.int (if y < x then y else x) :: st) cs ss n f) : wp0 m Q pc lo (.int y :: .int x :: st) cs ss n f := by
  intro p l e s mi args below meth c o n0 H locs ls C S
  have hts := C.2.2.2.2.2.1
  exact va_mmin C.1 C.2.1 (C.2.2.2.1.trans S.2.2.2.2.2.1.symm) C.2.2.2.2.1 (hts _ (List.mem_cons_of_mem _ hl)) (hts _ (List.mem_cons_of_mem _ hst)) (hts _ (List.mem_cons_of_mem _ hin)) (hts _ (List.mem_cons_of_mem _ hcd)) hfr (by rw [zcat]; exact hlo) hc hs hd (kk p l e s mi args below meth c o n0 H locs ls C S)
theorem s_mabs (hd : decode (zb m) pc = .ok (.invokestatic index, 3)) (hl : Cond.methodLink (zy m).cls index Lib.Math.abs.name ∈ zG) (hst : Cond.static Lib.Math.abs.name ∈ zG) (hin : Cond.initialized "java/lang/Math" ∈ zG) (hcd : Cond.code Lib.Math.abs.name Lib.Math.abs.code 1 (some .int) ∈ zG) (hfr : 1 ≤ (zR m).frames) (hlo : (st.map fun v => v.category).sum + 13 ≤ (zR m).locals) (hc : cs ≤ (zR m).cells) (hs : ss ≤ (zR m).slots) (kk : wp0 m Q (pc + 3) lo (.int (if 0 ≤ x then x else 0 - x) :: st) cs ss n f) : wp0 m Q pc lo (.int x :: st) cs ss n f := by
  intro p l e s mi args below meth c o n0 H locs ls C S
  have hts := C.2.2.2.2.2.1
  exact va_mabs C.1 C.2.1 (C.2.2.2.1.trans S.2.2.2.2.2.1.symm) C.2.2.2.2.1 (hts _ (List.mem_cons_of_mem _ hl)) (hts _ (List.mem_cons_of_mem _ hst)) (hts _ (List.mem_cons_of_mem _ hin)) (hts _ (List.mem_cons_of_mem _ hcd)) hfr (by rw [zcat]; exact hlo) hc hs hd (kk p l e s mi args below meth c o n0 H locs ls C S)
end ZMA
end ZCA
end
section
/-! the fixed layout: behind the constructors no cell is made and no reference moves; what moves are numbers: M.1 a k an int (a field's place k, an array's index k), M.2 a k a long -/
abbrev Sh : Type := Nat × Nat × Nat × Nat
abbrev Mem : Type := (Nat → Nat → Int32) × (Nat → Nat → Int64)
/-- the shape of a cell: below 10 an array's type, its length, and for references where the elements lie; from 10 on a class -/
def zsh (y : List Sh) (a : Nat) : Sh := y.getD a (0, 0, 0, 0)
def uI (M : Mem) (a k : Nat) (v : Int32) : Mem := (fun b => if b = a then upd (M.1 a) k v else M.1 b, M.2)
def uL (M : Mem) (a k : Nat) (v : Int64) : Mem := (M.1, fun b => if b = a then vp_updL (M.2 a) k v else M.2 b)
def fval (d : Nat × Nat) (k a : Nat) (M : Mem) : Value := if d.1 = 0 then .int (M.1 a k) else if d.1 = 1 then .long (M.2 a k) else .ref (a + d.2)
def fldV : List (Nat × Nat) → Nat → Nat → Mem → List Value
  | [], _, _, _ => []
  | d :: l, k, a, M => fval d k a M :: fldV l (k + 1) a M
def zfd (ci : Nat) : List (Nat × Nat) := match ci with
  | 0 => [(2, 1), (2, 2), (2, 3), (0, 0), (0, 0)]
  | 1 => [(2, 1), (2, 2), (2, 3), (2, 4), (2, 5), (2, 6), (2, 10), (2, 11), (0, 0), (0, 0)]
  | 2 => [(2, 1), (2, 2), (2, 3), (0, 0)]
  | 3 => [(2, 1), (0, 0), (0, 0), (0, 0)]
  | 4 => [(2, 1), (0, 0)]
  | 5 => [(2, 1), (2, 4), (2, 5)]
  | 6 => [(2, 1), (2, 2), (0, 0)]
  | 7 => [(2, 1), (2, 4), (2, 44), (2, 45), (2, 46), (2, 134), (2, 156), (2, 159), (0, 0), (1, 0)]
  | _ => [(2, 1), (2, 2), (2, 3), (2, 4), (0, 0), (2, 5), (2, 6), (0, 0), (0, 0), (2, 7), (2, 8), (2, 9), (0, 0), (2, 10), (2, 11), (2, 12), (2, 13), (0, 0), (2, 14), (2, 15), (2, 16), (2, 17), (2, 18), (0, 0), (0, 0), (2, 19), (2, 20), (2, 21)]
def entS (q : Sh) (a : Nat) (M : Mem) : En :=
  if 10 ≤ q.1 then .inr (q.1 - 10, fldV (zfd (q.1 - 10)) 0 a M)
  else if q.1 = 1 then .inl (1, q.2.1, .inr (.inl (M.2 a)))
  else if q.1 ≤ 2 then .inl (q.1, q.2.1, .inl (M.1 a))
  else .inl (q.1, q.2.1, .inr (.inr (fun i => if i < q.2.1 then some (a + q.2.2.1 + q.2.2.2 * i) else none)))
def ent (y : List Sh) (M : Mem) (a : Nat) : En := entS (zsh y a) a M
theorem fldV_len : ∀ (l : List (Nat × Nat)) (k a : Nat) (M : Mem), (fldV l k a M).length = l.length
  | [], _, _, _ => rfl
  | d :: l, k, a, M => by
    show (fldV l (k + 1) a M).length + 1 = l.length + 1
    rw [fldV_len l (k + 1) a M]
theorem fldV_get : ∀ (l : List (Nat × Nat)) (k0 a : Nat) (M : Mem) (k : Nat) (d : Nat × Nat), l[k]? = some d → (fldV l k0 a M)[k]? = some (fval d (k0 + k) a M)
  | [], _, _, _, k, d, h => by simp at h
  | e :: l, k0, a, M, 0, d, h => by
    cases h
    rfl
  | e :: l, k0, a, M, k + 1, d, h => by
    show (fldV l (k0 + 1) a M)[k]? = _
    rw [List.getElem?_cons_succ] at h
    rw [fldV_get l (k0 + 1) a M k d h]
    rw [show k0 + 1 + k = k0 + (k + 1) by omega]
theorem fldV_hiI : ∀ (l : List (Nat × Nat)) (k0 a : Nat) (M : Mem) (k : Nat) (v : Int32), k < k0 → fldV l k0 a (uI M a k v) = fldV l k0 a M
  | [], _, _, _, _, _, _ => rfl
  | d :: l, k0, a, M, k, v, h => by
    show fval d k0 a (uI M a k v) :: fldV l (k0 + 1) a (uI M a k v) = fval d k0 a M :: fldV l (k0 + 1) a M
    rw [fldV_hiI l (k0 + 1) a M k v (by omega)]
    congr 1
    have hne : k0 ≠ k := by omega
    simp [fval, uI, upd, hne]
theorem fldV_setI : ∀ (l : List (Nat × Nat)) (k0 a : Nat) (M : Mem) (k : Nat) (v : Int32), l[k]? = some (0, 0) → (fldV l k0 a M).set k (.int v) = fldV l k0 a (uI M a (k0 + k) v)
  | [], _, _, _, k, v, h => by simp at h
  | d :: l, k0, a, M, 0, v, h => by
    cases h
    show Value.int v :: fldV l (k0 + 1) a M = fval (0, 0) k0 a (uI M a k0 v) :: fldV l (k0 + 1) a (uI M a k0 v)
    rw [fldV_hiI l (k0 + 1) a M k0 v (by omega)]
    congr 1
    simp [fval, uI, upd]
  | d :: l, k0, a, M, k + 1, v, h => by
    rw [List.getElem?_cons_succ] at h
    show fval d k0 a M :: (fldV l (k0 + 1) a M).set k (.int v) = fval d k0 a (uI M a (k0 + (k + 1)) v) :: fldV l (k0 + 1) a (uI M a (k0 + (k + 1)) v)
    rw [fldV_setI l (k0 + 1) a M k v h, show k0 + 1 + k = k0 + (k + 1) by omega]
    congr 1
    have hne : k0 ≠ k0 + (k + 1) := by omega
    simp [fval, uI, upd, hne]
theorem fldV_hiL : ∀ (l : List (Nat × Nat)) (k0 a : Nat) (M : Mem) (k : Nat) (v : Int64), k < k0 → fldV l k0 a (uL M a k v) = fldV l k0 a M
  | [], _, _, _, _, _, _ => rfl
  | d :: l, k0, a, M, k, v, h => by
    show fval d k0 a (uL M a k v) :: fldV l (k0 + 1) a (uL M a k v) = fval d k0 a M :: fldV l (k0 + 1) a M
    rw [fldV_hiL l (k0 + 1) a M k v (by omega)]
    congr 1
    have hne : k0 ≠ k := by omega
    simp [fval, uL, vp_updL, hne]
theorem fldV_setL : ∀ (l : List (Nat × Nat)) (k0 a : Nat) (M : Mem) (k : Nat) (v : Int64), l[k]? = some (1, 0) → (fldV l k0 a M).set k (.long v) = fldV l k0 a (uL M a (k0 + k) v)
  | [], _, _, _, k, v, h => by simp at h
  | d :: l, k0, a, M, 0, v, h => by
    cases h
    show Value.long v :: fldV l (k0 + 1) a M = fval (1, 0) k0 a (uL M a k0 v) :: fldV l (k0 + 1) a (uL M a k0 v)
    rw [fldV_hiL l (k0 + 1) a M k0 v (by omega)]
    congr 1
    simp [fval, uL, vp_updL]
  | d :: l, k0, a, M, k + 1, v, h => by
    rw [List.getElem?_cons_succ] at h
    show fval d k0 a M :: (fldV l (k0 + 1) a M).set k (.long v) = fval d k0 a (uL M a (k0 + (k + 1)) v) :: fldV l (k0 + 1) a (uL M a (k0 + (k + 1)) v)
    rw [fldV_setL l (k0 + 1) a M k v h, show k0 + 1 + k = k0 + (k + 1) by omega]
    congr 1
    have hne : k0 ≠ k0 + (k + 1) := by omega
    simp [fval, uL, vp_updL, hne]
theorem fldV_neI : ∀ (l : List (Nat × Nat)) (k0 a b : Nat) (M : Mem) (k : Nat) (v : Int32), b ≠ a → fldV l k0 b (uI M a k v) = fldV l k0 b M
  | [], _, _, _, _, _, _, _ => rfl
  | d :: l, k0, a, b, M, k, v, h => by
    show fval d k0 b (uI M a k v) :: fldV l (k0 + 1) b (uI M a k v) = fval d k0 b M :: fldV l (k0 + 1) b M
    rw [fldV_neI l (k0 + 1) a b M k v h]
    congr 1
    simp [fval, uI, h]
theorem fldV_neL : ∀ (l : List (Nat × Nat)) (k0 a b : Nat) (M : Mem) (k : Nat) (v : Int64), b ≠ a → fldV l k0 b (uL M a k v) = fldV l k0 b M
  | [], _, _, _, _, _, _, _ => rfl
  | d :: l, k0, a, b, M, k, v, h => by
    show fval d k0 b (uL M a k v) :: fldV l (k0 + 1) b (uL M a k v) = fval d k0 b M :: fldV l (k0 + 1) b M
    rw [fldV_neL l (k0 + 1) a b M k v h]
    congr 1
    simp [fval, uL, h]
theorem ent_neI {y : List Sh} {M : Mem} {a b k : Nat} {v : Int32} (h : b ≠ a) : ent y (uI M a k v) b = ent y M b := by
  unfold ent entS
  rw [fldV_neI _ _ _ _ _ _ _ h]
  simp [uI, h]
theorem ent_neL {y : List Sh} {M : Mem} {a b k : Nat} {v : Int64} (h : b ≠ a) : ent y (uL M a k v) b = ent y M b := by
  unfold ent entS
  rw [fldV_neL _ _ _ _ _ _ _ h]
  simp [uL, h]
theorem ent_upI {y : List Sh} {M : Mem} {a k : Nat} {v : Int32} {e : En} (h : ent y (uI M a k v) a = e) : va_up (ent y M) a e = ent y (uI M a k v) := by
  funext b
  by_cases hb : b = a
  · subst hb
    rw [show va_up (ent y M) b e b = e from if_pos rfl, h]
  · rw [show va_up (ent y M) a e b = ent y M b from if_neg hb, ent_neI hb]
theorem ent_upL {y : List Sh} {M : Mem} {a k : Nat} {v : Int64} {e : En} (h : ent y (uL M a k v) a = e) : va_up (ent y M) a e = ent y (uL M a k v) := by
  funext b
  by_cases hb : b = a
  · subst hb
    rw [show va_up (ent y M) b e b = e from if_pos rfl, h]
  · rw [show va_up (ent y M) a e b = ent y M b from if_neg hb, ent_neL hb]
theorem zsh_lt {y : List Sh} {a t len b k : Nat} (h : zsh y a = (t, len, b, k)) (h0 : 0 < t ∨ 0 < len) : a < y.length := by
  rcases Nat.lt_or_ge a y.length with q | q
  · exact q
  · unfold zsh at h
    rw [List.getD_eq_getElem?_getD, List.getElem?_eq_none q] at h
    cases h
    omega
theorem vp_lt {i : Int32} {n : Nat} (h : vp_in i n) : i.toNatClampNeg < n := Nat.not_le.mp fun q => h (Or.inr q)
theorem vp_pos {i : Int32} {n : Nat} (h : vp_in i n) : 0 < n := Nat.lt_of_le_of_lt (Nat.zero_le _) (vp_lt h)
theorem ent_obj {y : List Sh} {a ci : Nat} {M : Mem} (h : zsh y a = (10 + ci, 0, 0, 0)) : ent y M a = .inr (ci, fldV (zfd ci) 0 a M) := by
  unfold ent entS
  rw [h, if_pos (show 10 ≤ 10 + ci by omega), show 10 + ci - 10 = ci by omega]
theorem ent_int {y : List Sh} {a len : Nat} {M : Mem} (h : zsh y a = (0, len, 0, 0)) : ent y M a = .inl (0, len, .inl (M.1 a)) := by
  unfold ent entS
  rw [h]
  rfl
theorem ent_bool {y : List Sh} {a len : Nat} {M : Mem} (h : zsh y a = (2, len, 0, 0)) : ent y M a = .inl (2, len, .inl (M.1 a)) := by
  unfold ent entS
  rw [h]
  rfl
theorem ent_long {y : List Sh} {a len : Nat} {M : Mem} (h : zsh y a = (1, len, 0, 0)) : ent y M a = .inl (1, len, .inr (.inl (M.2 a))) := by
  unfold ent entS
  rw [h]
  rfl
theorem ent_ref {y : List Sh} {a t len b k : Nat} {M : Mem} (h : zsh y a = (t, len, b, k)) (h3 : 3 ≤ t) (h9 : t < 10) : ent y M a = .inl (t, len, .inr (.inr (fun i => if i < len then some (a + b + k * i) else none))) := by
  unfold ent entS
  rw [h, if_neg (show ¬ 10 ≤ t by omega), if_neg (show ¬ t = 1 by omega), if_neg (show ¬ t ≤ 2 by omega)]
/-- the logic over the layout -/
def wp (y : List Sh) (m : Zm) (Q : Option Value → Mem → Prop) (pc : Nat) (lo : List (Nat × Value)) (st : List Value) (M : Mem) : Prop :=
  wp0 m (fun v n f => n = y.length ∧ ∃ M' : Mem, f = ent y M' ∧ Q v M') pc lo st 0 0 y.length (ent y M)
def Call (y : List Sh) (m : Zm) (as : List Value) (M : Mem) (Q : Option Value → Mem → Prop) : Prop :=
  Call0 m as y.length (ent y M) (fun v n f => n = y.length ∧ ∃ M' : Mem, f = ent y M' ∧ Q v M')
def CallI (y : List Sh) (m : Zm) (as : List Value) (M : Mem) (Q : Int32 → Mem → Prop) : Prop := Call y m as M (fun v M' => ∃ r : Int32, v = some (.int r) ∧ Q r M')
def CallL (y : List Sh) (m : Zm) (as : List Value) (M : Mem) (Q : Int64 → Mem → Prop) : Prop := Call y m as M (fun v M' => ∃ r : Int64, v = some (.long r) ∧ Q r M')
def CallR (y : List Sh) (m : Zm) (as : List Value) (M : Mem) (Q : Nat → Mem → Prop) : Prop := Call y m as M (fun v M' => ∃ r : Nat, v = some (.ref r) ∧ Q r M')
def CallV (y : List Sh) (m : Zm) (as : List Value) (M : Mem) (Q : Mem → Prop) : Prop := Call y m as M (fun v M' => v = none ∧ Q M')
theorem call_of {y : List Sh} {m : Zm} {as : List Value} {M : Mem} {Q : Option Value → Mem → Prop} (hpl : plainName (zy m).cls = true) (hlen : (lg_sl as).length ≤ zl m) (h : wp y m Q 0 (lv_args 0 as) [] M) : Call y m as M Q := call0_of hpl hlen h
end
section
/-! the rows of the logic over the layout -/
section ZRW
variable {yy : List Sh} {m m' : Zm} {Q : Option Value → Mem → Prop} {pc q : Nat} {lo lo' : List (Nat × Value)} {st st0 : List Value} {M : Mem}
theorem zt_sub (ks : List Nat) (hl : lv_pick lo ks = lo') (kk : wp yy m Q pc lo' st M) : wp yy m Q pc lo st M := s_sub ks hl kk

theorem zt_iconst {z : Int} {v : Int32} (hd : decode (zb m) pc = .ok (.iconst z, 1)) (hp : pc + 1 = q) (hv : Int32.ofInt z = v) (kk : wp yy m Q q lo (.int v :: st) M) : wp yy m Q pc lo st M := by
  subst hp
  exact s_iconst hd hv kk
theorem zt_bipush {z : Int} {v : Int32} (hd : decode (zb m) pc = .ok (.bipush z, 2)) (hp : pc + 2 = q) (hv : (Int8.ofInt z).toInt32 = v) (kk : wp yy m Q q lo (.int v :: st) M) : wp yy m Q pc lo st M := by
  subst hp
  exact s_bipush hd hv kk
theorem zt_sipush {z : Int} {v : Int32} (hd : decode (zb m) pc = .ok (.sipush z, 3)) (hp : pc + 3 = q) (hv : (Int16.ofInt z).toInt32 = v) (kk : wp yy m Q q lo (.int v :: st) M) : wp yy m Q pc lo st M := by
  subst hp
  exact s_sipush hd hv kk
theorem zt_lconst {z : Fin 2} {v : Int64} (hd : decode (zb m) pc = .ok (.lconst z, 1)) (hp : pc + 1 = q) (hv : Int64.ofNat (z : Nat) = v) (kk : wp yy m Q q lo (.long v :: st) M) : wp yy m Q pc lo st M := by
  subst hp
  exact s_lconst hd hv kk
theorem zt_ldc {i : Nat} {v : Int32} (hd : decode (zb m) pc = .ok (.ldc i, 2)) (hp : pc + 2 = q) (hw : Cond.constant (zy m).cls i v ∈ zG) (kk : wp yy m Q q lo (.int v :: st) M) : wp yy m Q pc lo st M := by
  subst hp
  exact s_ldc hd hw kk
theorem zt_ldc2_w {i : Nat} {v : Int64} (hd : decode (zb m) pc = .ok (.ldc2_w i, 3)) (hp : pc + 3 = q) (hw : Cond.constantLong (zy m).cls i v ∈ zG) (kk : wp yy m Q q lo (.long v :: st) M) : wp yy m Q pc lo st M := by
  subst hp
  exact s_ldc2_w hd hw kk
theorem zt_iload {i : Nat} {v : Int32} (k : Nat) (hd : decode (zb m) pc = .ok (.iload i, 2)) (hp : pc + 2 = q) (hl : lo[k]? = some (i, .int v)) (kk : wp yy m Q q lo (.int v :: st) M) : wp yy m Q pc lo st M := by
  subst hp
  exact s_iload k hd hl kk
theorem zt_iload_n {j : Fin 4} {i : Nat} {v : Int32} (k : Nat) (hd : decode (zb m) pc = .ok (.iload_n j, 1)) (hp : pc + 1 = q) (hi : (j : Nat) = i) (hl : lo[k]? = some (i, .int v)) (kk : wp yy m Q q lo (.int v :: st) M) : wp yy m Q pc lo st M := by
  subst hp
  exact s_iload_n k hd hi hl kk
theorem zt_lload {i : Nat} {v : Int64} (k : Nat) (hd : decode (zb m) pc = .ok (.lload i, 2)) (hp : pc + 2 = q) (hl : lo[k]? = some (i, .long v)) (kk : wp yy m Q q lo (.long v :: st) M) : wp yy m Q pc lo st M := by
  subst hp
  exact s_lload k hd hl kk
theorem zt_lload_n {j : Fin 4} {i : Nat} {v : Int64} (k : Nat) (hd : decode (zb m) pc = .ok (.lload_n j, 1)) (hp : pc + 1 = q) (hi : (j : Nat) = i) (hl : lo[k]? = some (i, .long v)) (kk : wp yy m Q q lo (.long v :: st) M) : wp yy m Q pc lo st M := by
  subst hp
  exact s_lload_n k hd hi hl kk
theorem zt_aload {i : Nat} {v : Nat} (k : Nat) (hd : decode (zb m) pc = .ok (.aload i, 2)) (hp : pc + 2 = q) (hl : lo[k]? = some (i, .ref v)) (kk : wp yy m Q q lo (.ref v :: st) M) : wp yy m Q pc lo st M := by
  subst hp
  exact s_aload k hd hl kk
theorem zt_aload_n {j : Fin 4} {i : Nat} {v : Nat} (k : Nat) (hd : decode (zb m) pc = .ok (.aload_n j, 1)) (hp : pc + 1 = q) (hi : (j : Nat) = i) (hl : lo[k]? = some (i, .ref v)) (kk : wp yy m Q q lo (.ref v :: st) M) : wp yy m Q pc lo st M := by
  subst hp
  exact s_aload_n k hd hi hl kk
theorem zt_istore {i : Nat} {v : Int32} (hd : decode (zb m) pc = .ok (.istore i, 2)) (hp : pc + 2 = q) (hn : i < zl m) (hl : (i, Value.int v) :: lo.filter (fun q => !(q.1 == i) && !(q.1 + 1 == i && q.2.category == 2)) = lo') (kk : wp yy m Q q lo' st M) : wp yy m Q pc lo (.int v :: st) M := by
  subst hp
  exact s_istore hd hn hl kk
theorem zt_istore_n {j : Fin 4} {i : Nat} {v : Int32} (hd : decode (zb m) pc = .ok (.istore_n j, 1)) (hp : pc + 1 = q) (hi : (j : Nat) = i) (hn : i < zl m) (hl : (i, Value.int v) :: lo.filter (fun q => !(q.1 == i) && !(q.1 + 1 == i && q.2.category == 2)) = lo') (kk : wp yy m Q q lo' st M) : wp yy m Q pc lo (.int v :: st) M := by
  subst hp
  exact s_istore_n hd hi hn hl kk
theorem zt_astore {i : Nat} {v : Nat} (hd : decode (zb m) pc = .ok (.astore i, 2)) (hp : pc + 2 = q) (hn : i < zl m) (hl : (i, Value.ref v) :: lo.filter (fun q => !(q.1 == i) && !(q.1 + 1 == i && q.2.category == 2)) = lo') (kk : wp yy m Q q lo' st M) : wp yy m Q pc lo (.ref v :: st) M := by
  subst hp
  exact s_astore hd hn hl kk
theorem zt_astore_n {j : Fin 4} {i : Nat} {v : Nat} (hd : decode (zb m) pc = .ok (.astore_n j, 1)) (hp : pc + 1 = q) (hi : (j : Nat) = i) (hn : i < zl m) (hl : (i, Value.ref v) :: lo.filter (fun q => !(q.1 == i) && !(q.1 + 1 == i && q.2.category == 2)) = lo') (kk : wp yy m Q q lo' st M) : wp yy m Q pc lo (.ref v :: st) M := by
  subst hp
  exact s_astore_n hd hi hn hl kk
theorem zt_lstore {i : Nat} {v : Int64} (hd : decode (zb m) pc = .ok (.lstore i, 2)) (hp : pc + 2 = q) (hn : i + 1 < zl m) (hl : (i, Value.long v) :: lo.filter (fun q => !(q.1 == i) && (!(q.1 == i + 1) && !(q.1 + 1 == i && q.2.category == 2))) = lo') (kk : wp yy m Q q lo' st M) : wp yy m Q pc lo (.long v :: st) M := by
  subst hp
  exact s_lstore hd hn hl kk
theorem zt_lstore_n {j : Fin 4} {i : Nat} {v : Int64} (hd : decode (zb m) pc = .ok (.lstore_n j, 1)) (hp : pc + 1 = q) (hi : (j : Nat) = i) (hn : i + 1 < zl m) (hl : (i, Value.long v) :: lo.filter (fun q => !(q.1 == i) && (!(q.1 == i + 1) && !(q.1 + 1 == i && q.2.category == 2))) = lo') (kk : wp yy m Q q lo' st M) : wp yy m Q pc lo (.long v :: st) M := by
  subst hp
  exact s_lstore_n hd hi hn hl kk
theorem zt_iinc {i : Nat} {z : Int} {x v : Int32} (k : Nat) (hd : decode (zb m) pc = .ok (.iinc i z, 3)) (hp : pc + 3 = q) (hk : lo[k]? = some (i, .int x)) (hv : x + Int32.ofInt z = v) (hn : i < zl m) (hl : (i, Value.int v) :: lo.filter (fun q => !(q.1 == i) && !(q.1 + 1 == i && q.2.category == 2)) = lo') (kk : wp yy m Q q lo' st M) : wp yy m Q pc lo st M := by
  subst hp
  exact s_iinc k hd hk hv hn hl kk
theorem zt_iadd {x y : Int32} (hd : decode (zb m) pc = .ok (.iadd, 1)) (hp : pc + 1 = q) (kk : wp yy m Q q lo (.int (x + y) :: st) M) : wp yy m Q pc lo (.int y :: .int x :: st) M := by
  subst hp
  exact s_iadd hd kk
theorem zt_isub {x y : Int32} (hd : decode (zb m) pc = .ok (.isub, 1)) (hp : pc + 1 = q) (kk : wp yy m Q q lo (.int (x - y) :: st) M) : wp yy m Q pc lo (.int y :: .int x :: st) M := by
  subst hp
  exact s_isub hd kk
theorem zt_imul {x y : Int32} (hd : decode (zb m) pc = .ok (.imul, 1)) (hp : pc + 1 = q) (kk : wp yy m Q q lo (.int (x * y) :: st) M) : wp yy m Q pc lo (.int y :: .int x :: st) M := by
  subst hp
  exact s_imul hd kk
theorem zt_iand {x y : Int32} (hd : decode (zb m) pc = .ok (.iand, 1)) (hp : pc + 1 = q) (kk : wp yy m Q q lo (.int (x &&& y) :: st) M) : wp yy m Q pc lo (.int y :: .int x :: st) M := by
  subst hp
  exact s_iand hd kk
theorem zt_ladd {x y : Int64} (hd : decode (zb m) pc = .ok (.ladd, 1)) (hp : pc + 1 = q) (kk : wp yy m Q q lo (.long (x + y) :: st) M) : wp yy m Q pc lo (.long y :: .long x :: st) M := by
  subst hp
  exact s_ladd hd kk
theorem zt_lmul {x y : Int64} (hd : decode (zb m) pc = .ok (.lmul, 1)) (hp : pc + 1 = q) (kk : wp yy m Q q lo (.long (x * y) :: st) M) : wp yy m Q pc lo (.long y :: .long x :: st) M := by
  subst hp
  exact s_lmul hd kk
theorem zt_idiv {x y : Int32} (hd : decode (zb m) pc = .ok (.idiv, 1)) (hp : pc + 1 = q) (hne : ¬ y = 0) (kk : wp yy m Q q lo (.int (x / y) :: st) M) : wp yy m Q pc lo (.int y :: .int x :: st) M := by
  subst hp
  exact s_idiv hd hne kk
theorem zt_irem {x y : Int32} (hd : decode (zb m) pc = .ok (.irem, 1)) (hp : pc + 1 = q) (hne : ¬ y = 0) (kk : wp yy m Q q lo (.int (x - x / y * y) :: st) M) : wp yy m Q pc lo (.int y :: .int x :: st) M := by
  subst hp
  exact s_irem hd hne kk
theorem zt_ineg {x : Int32} (hd : decode (zb m) pc = .ok (.ineg, 1)) (hp : pc + 1 = q) (kk : wp yy m Q q lo (.int (-x) :: st) M) : wp yy m Q pc lo (.int x :: st) M := by
  subst hp
  exact s_ineg hd kk
theorem zt_i2l {x : Int32} (hd : decode (zb m) pc = .ok (.i2l, 1)) (hp : pc + 1 = q) (kk : wp yy m Q q lo (.long x.toInt64 :: st) M) : wp yy m Q pc lo (.int x :: st) M := by
  subst hp
  exact s_i2l hd kk
theorem zt_lcmp {x y : Int64} (hd : decode (zb m) pc = .ok (.lcmp, 1)) (hp : pc + 1 = q) (kk : wp yy m Q q lo (.int (lg_cmp x y) :: st) M) : wp yy m Q pc lo (.long y :: .long x :: st) M := by
  subst hp
  exact s_lcmp hd kk
theorem zt_dup {v : Value} (hd : decode (zb m) pc = .ok (.dup, 1)) (hp : pc + 1 = q) (hv : v.category = 1) (kk : wp yy m Q q lo (v :: v :: st) M) : wp yy m Q pc lo (v :: st) M := by
  subst hp
  exact s_dup hd hv kk
theorem zt_pop {v : Value} (hd : decode (zb m) pc = .ok (.pop, 1)) (hp : pc + 1 = q) (hv : v.category = 1) (kk : wp yy m Q q lo st M) : wp yy m Q pc lo (v :: st) M := by
  subst hp
  exact s_pop hd hv kk
theorem zt_dup2 {v w : Value} (hd : decode (zb m) pc = .ok (.dup2, 1)) (hp : pc + 1 = q) (hv : v.category = 1) (hw : w.category = 1) (kk : wp yy m Q q lo (v :: w :: v :: w :: st) M) : wp yy m Q pc lo (v :: w :: st) M := by
  subst hp
  exact s_dup2 hd hv hw kk
theorem zt_goto {off : Int} {tgt : Nat} (hd : decode (zb m) pc = .ok (.goto off, 3)) (ht : (pc : Int) + off = (tgt : Int)) (kk : wp yy m Q tgt lo st M) : wp yy m Q pc lo st M := by
  exact s_goto hd ht kk
theorem zt_if_eq {x : Int32} {off : Int} {tgt : Nat} (hd : decode (zb m) pc = .ok (.ifCond .eq off, 3)) (hp : pc + 3 = q) (ht : (pc : Int) + off = (tgt : Int)) (kk : (x = 0 → wp yy m Q tgt lo st M) ∧ (¬ x = 0 → wp yy m Q q lo st M)) : wp yy m Q pc lo (.int x :: st) M := by
  subst hp
  exact s_if_eq hd ht kk
theorem zt_if_lt {x : Int32} {off : Int} {tgt : Nat} (hd : decode (zb m) pc = .ok (.ifCond .lt off, 3)) (hp : pc + 3 = q) (ht : (pc : Int) + off = (tgt : Int)) (kk : (x < 0 → wp yy m Q tgt lo st M) ∧ (¬ x < 0 → wp yy m Q q lo st M)) : wp yy m Q pc lo (.int x :: st) M := by
  subst hp
  exact s_if_lt hd ht kk
theorem zt_if_ge {x : Int32} {off : Int} {tgt : Nat} (hd : decode (zb m) pc = .ok (.ifCond .ge off, 3)) (hp : pc + 3 = q) (ht : (pc : Int) + off = (tgt : Int)) (kk : (0 ≤ x → wp yy m Q tgt lo st M) ∧ (¬ 0 ≤ x → wp yy m Q q lo st M)) : wp yy m Q pc lo (.int x :: st) M := by
  subst hp
  exact s_if_ge hd ht kk
theorem zt_if_gt {x : Int32} {off : Int} {tgt : Nat} (hd : decode (zb m) pc = .ok (.ifCond .gt off, 3)) (hp : pc + 3 = q) (ht : (pc : Int) + off = (tgt : Int)) (kk : (0 < x → wp yy m Q tgt lo st M) ∧ (¬ 0 < x → wp yy m Q q lo st M)) : wp yy m Q pc lo (.int x :: st) M := by
  subst hp
  exact s_if_gt hd ht kk
theorem zt_if_le {x : Int32} {off : Int} {tgt : Nat} (hd : decode (zb m) pc = .ok (.ifCond .le off, 3)) (hp : pc + 3 = q) (ht : (pc : Int) + off = (tgt : Int)) (kk : (x ≤ 0 → wp yy m Q tgt lo st M) ∧ (¬ x ≤ 0 → wp yy m Q q lo st M)) : wp yy m Q pc lo (.int x :: st) M := by
  subst hp
  exact s_if_le hd ht kk
theorem zt_if_ne {x : Int32} {off : Int} {tgt : Nat} (hd : decode (zb m) pc = .ok (.ifCond .ne off, 3)) (hp : pc + 3 = q) (ht : (pc : Int) + off = (tgt : Int)) (kk : (x = 0 → wp yy m Q q lo st M) ∧ (¬ x = 0 → wp yy m Q tgt lo st M)) : wp yy m Q pc lo (.int x :: st) M := by
  subst hp
  exact s_if_ne hd ht kk
theorem zt_icmp_eq {x y : Int32} {off : Int} {tgt : Nat} (hd : decode (zb m) pc = .ok (.if_icmp .eq off, 3)) (hp : pc + 3 = q) (ht : (pc : Int) + off = (tgt : Int)) (kk : (x = y → wp yy m Q tgt lo st M) ∧ (¬ x = y → wp yy m Q q lo st M)) : wp yy m Q pc lo (.int y :: .int x :: st) M := by
  subst hp
  exact s_icmp_eq hd ht kk
theorem zt_icmp_lt {x y : Int32} {off : Int} {tgt : Nat} (hd : decode (zb m) pc = .ok (.if_icmp .lt off, 3)) (hp : pc + 3 = q) (ht : (pc : Int) + off = (tgt : Int)) (kk : (x < y → wp yy m Q tgt lo st M) ∧ (¬ x < y → wp yy m Q q lo st M)) : wp yy m Q pc lo (.int y :: .int x :: st) M := by
  subst hp
  exact s_icmp_lt hd ht kk
theorem zt_icmp_ge {x y : Int32} {off : Int} {tgt : Nat} (hd : decode (zb m) pc = .ok (.if_icmp .ge off, 3)) (hp : pc + 3 = q) (ht : (pc : Int) + off = (tgt : Int)) (kk : (y ≤ x → wp yy m Q tgt lo st M) ∧ (¬ y ≤ x → wp yy m Q q lo st M)) : wp yy m Q pc lo (.int y :: .int x :: st) M := by
  subst hp
  exact s_icmp_ge hd ht kk
theorem zt_icmp_gt {x y : Int32} {off : Int} {tgt : Nat} (hd : decode (zb m) pc = .ok (.if_icmp .gt off, 3)) (hp : pc + 3 = q) (ht : (pc : Int) + off = (tgt : Int)) (kk : (y < x → wp yy m Q tgt lo st M) ∧ (¬ y < x → wp yy m Q q lo st M)) : wp yy m Q pc lo (.int y :: .int x :: st) M := by
  subst hp
  exact s_icmp_gt hd ht kk
theorem zt_icmp_le {x y : Int32} {off : Int} {tgt : Nat} (hd : decode (zb m) pc = .ok (.if_icmp .le off, 3)) (hp : pc + 3 = q) (ht : (pc : Int) + off = (tgt : Int)) (kk : (x ≤ y → wp yy m Q tgt lo st M) ∧ (¬ x ≤ y → wp yy m Q q lo st M)) : wp yy m Q pc lo (.int y :: .int x :: st) M := by
  subst hp
  exact s_icmp_le hd ht kk
theorem zt_icmp_ne {x y : Int32} {off : Int} {tgt : Nat} (hd : decode (zb m) pc = .ok (.if_icmp .ne off, 3)) (hp : pc + 3 = q) (ht : (pc : Int) + off = (tgt : Int)) (kk : (x = y → wp yy m Q q lo st M) ∧ (¬ x = y → wp yy m Q tgt lo st M)) : wp yy m Q pc lo (.int y :: .int x :: st) M := by
  subst hp
  exact s_icmp_ne hd ht kk
theorem zt_tabOut {dflt a b : Int} {offs : Array Int} {len : Nat} {x : Int32} {tgt : Nat} (hd : decode (zb m) pc = .ok (.tableswitch dflt a b offs, len)) (h : x.toInt < a ∨ b < x.toInt) (ht : (pc : Int) + dflt = (tgt : Int)) (kk : wp yy m Q tgt lo st M) : wp yy m Q pc lo (.int x :: st) M := by
  exact s_tabOut hd h ht kk
theorem zt_tabIn {dflt a b : Int} {offs : Array Int} {len : Nat} {x : Int32} {off : Int} {tgt : Nat} (hd : decode (zb m) pc = .ok (.tableswitch dflt a b offs, len)) (h1 : ¬ x.toInt < a) (h2 : ¬ b < x.toInt) (ho : offs[(x.toInt - a).toNat]? = some off) (ht : (pc : Int) + off = (tgt : Int)) (kk : wp yy m Q tgt lo st M) : wp yy m Q pc lo (.int x :: st) M := by
  exact s_tabIn hd h1 h2 ho ht kk
theorem zt_iret {v : Int32} (hr : zr m = some .int) (hd : decode (zb m) pc = .ok (.ireturn, 1))  (hq : Q (some (.int v)) M) : wp yy m Q pc lo [.int v] M := s_iret hr hd (Nat.zero_le _) (Nat.zero_le _) ⟨rfl, M, rfl, hq⟩
theorem zt_zret {v : Int32} (hr : zr m = some .boolean) (hd : decode (zb m) pc = .ok (.ireturn, 1))  (hn : narrow .boolean (.int v) = .int v) (hq : Q (some (.int v)) M) : wp yy m Q pc lo [.int v] M := s_zret hr hd (Nat.zero_le _) (Nat.zero_le _) hn ⟨rfl, M, rfl, hq⟩
theorem zt_lret {v : Int64} (hr : zr m = some .long) (hd : decode (zb m) pc = .ok (.lreturn, 1))  (hq : Q (some (.long v)) M) : wp yy m Q pc lo [.long v] M := s_lret hr hd (Nat.zero_le _) (Nat.zero_le _) ⟨rfl, M, rfl, hq⟩
theorem zt_vret  (hr : zr m = none) (hd : decode (zb m) pc = .ok (.return_, 1))  (hq : Q none M) : wp yy m Q pc lo [] M := s_vret hr hd (Nat.zero_le _) (Nat.zero_le _) ⟨rfl, M, rfl, hq⟩
theorem zt_aret {v : Nat} {rt : FieldType} (hr : zr m = some rt) (hrt : (∃ q, rt = .object q) ∨ ∃ t, rt = .array t) (hd : decode (zb m) pc = .ok (.areturn, 1))  (hq : Q (some (.ref v)) M) : wp yy m Q pc lo [.ref v] M := s_aret hr hrt hd (Nat.zero_le _) (Nat.zero_le _) ⟨rfl, M, rfl, hq⟩
/-- a field's site: its class and place, its link, its kind -/
def Zf (own : String) (index ci k : Nat) (d : Nat × Nat) (fin : Bool) (ty : FieldType) : Prop := ∃ cl : vw_C, zcl[ci]? = some cl ∧ k < cl.2.2 ∧ Cond.fieldLink own index (cl.2.1 k).1 (cl.2.1 k).2.1 (cl.2.1 k).2.2.1 ∈ zG ∧ (zfd ci)[k]? = some d ∧ (cl.2.1 k).2.2.2 = fin ∧ ztf ci k = ty
theorem zt_getI {ci k index a : Nat} {fin : Bool} {ty : FieldType} (hd : decode (zb m) pc = .ok (.getfield index, 3)) (hp : pc + 3 = q) (hz : Zf (zy m).cls index ci k (0, 0) fin ty) (hs : zsh yy a = (10 + ci, 0, 0, 0)) (kk : wp yy m Q q lo (.int (M.1 a k) :: st) M) : wp yy m Q pc lo (.ref a :: st) M := by
  subst hp
  obtain ⟨cl, h1, h2, h3, h4, h5, h6⟩ := hz
  exact s_get hd h1 h2 h3 (ent_obj hs) (zsh_lt hs (Or.inl (by omega))) (by rw [fldV_get _ _ _ _ _ _ h4, Nat.zero_add]; rfl) kk
theorem zt_getL {ci k index a : Nat} {fin : Bool} {ty : FieldType} (hd : decode (zb m) pc = .ok (.getfield index, 3)) (hp : pc + 3 = q) (hz : Zf (zy m).cls index ci k (1, 0) fin ty) (hs : zsh yy a = (10 + ci, 0, 0, 0)) (kk : wp yy m Q q lo (.long (M.2 a k) :: st) M) : wp yy m Q pc lo (.ref a :: st) M := by
  subst hp
  obtain ⟨cl, h1, h2, h3, h4, h5, h6⟩ := hz
  exact s_get hd h1 h2 h3 (ent_obj hs) (zsh_lt hs (Or.inl (by omega))) (by rw [fldV_get _ _ _ _ _ _ h4, Nat.zero_add]; rfl) kk
theorem zt_getR {ci k index a b off : Nat} {fin : Bool} {ty : FieldType} (hd : decode (zb m) pc = .ok (.getfield index, 3)) (hp : pc + 3 = q) (hz : Zf (zy m).cls index ci k (2, off) fin ty) (hb : a + off = b) (hs : zsh yy a = (10 + ci, 0, 0, 0)) (kk : wp yy m Q q lo (.ref b :: st) M) : wp yy m Q pc lo (.ref a :: st) M := by
  subst hp
  subst hb
  obtain ⟨cl, h1, h2, h3, h4, h5, h6⟩ := hz
  exact s_get hd h1 h2 h3 (ent_obj hs) (zsh_lt hs (Or.inl (by omega))) (by rw [fldV_get _ _ _ _ _ _ h4, Nat.zero_add]; rfl) kk
theorem zt_putI {ci k index a : Nat} {v : Int32} (hd : decode (zb m) pc = .ok (.putfield index, 3)) (hp : pc + 3 = q) (hz : Zf (zy m).cls index ci k (0, 0) false .int) (hs : zsh yy a = (10 + ci, 0, 0, 0)) (kk : wp yy m Q q lo st (uI M a k v)) : wp yy m Q pc lo (.int v :: .ref a :: st) M := by
  subst hp
  obtain ⟨cl, h1, h2, h3, h4, h5, h6⟩ := hz
  refine s_put hd h1 h2 h3 h5 (ent_obj hs) (zsh_lt hs (Or.inl (by omega))) (fun B => by rw [h6]; exact ⟨rfl, rfl⟩) (by rw [fldV_len]; exact (List.getElem?_eq_some_iff.mp h4).1) ?_
  rw [fldV_setI _ _ _ _ _ _ h4, Nat.zero_add, ent_upI (ent_obj hs)]
  exact kk
theorem zt_putZ {ci k index a : Nat} {v : Int32} (hd : decode (zb m) pc = .ok (.putfield index, 3)) (hp : pc + 3 = q) (hz : Zf (zy m).cls index ci k (0, 0) false .boolean) (hn : narrow .boolean (.int v) = .int v) (hfit : fits .boolean (.int v) = true) (hs : zsh yy a = (10 + ci, 0, 0, 0)) (kk : wp yy m Q q lo st (uI M a k v)) : wp yy m Q pc lo (.int v :: .ref a :: st) M := by
  subst hp
  obtain ⟨cl, h1, h2, h3, h4, h5, h6⟩ := hz
  refine s_put hd h1 h2 h3 h5 (ent_obj hs) (zsh_lt hs (Or.inl (by omega))) (fun B => by rw [h6]; exact ⟨hn, hfit⟩) (by rw [fldV_len]; exact (List.getElem?_eq_some_iff.mp h4).1) ?_
  rw [fldV_setI _ _ _ _ _ _ h4, Nat.zero_add, ent_upI (ent_obj hs)]
  exact kk
theorem zt_putL {ci k index a : Nat} {v : Int64} (hd : decode (zb m) pc = .ok (.putfield index, 3)) (hp : pc + 3 = q) (hz : Zf (zy m).cls index ci k (1, 0) false .long) (hs : zsh yy a = (10 + ci, 0, 0, 0)) (kk : wp yy m Q q lo st (uL M a k v)) : wp yy m Q pc lo (.long v :: .ref a :: st) M := by
  subst hp
  obtain ⟨cl, h1, h2, h3, h4, h5, h6⟩ := hz
  refine s_put hd h1 h2 h3 h5 (ent_obj hs) (zsh_lt hs (Or.inl (by omega))) (fun B => by rw [h6]; exact ⟨rfl, rfl⟩) (by rw [fldV_len]; exact (List.getElem?_eq_some_iff.mp h4).1) ?_
  rw [fldV_setL _ _ _ _ _ _ h4, Nat.zero_add, ent_upL (ent_obj hs)]
  exact kk
theorem zt_iald {a len : Nat} {i : Int32} (hd : decode (zb m) pc = .ok (.iaload, 1)) (hp : pc + 1 = q) (hs : zsh yy a = (0, len, 0, 0)) (hin : vp_in i len) (kk : wp yy m Q q lo (.int (M.1 a i.toNatClampNeg) :: st) M) : wp yy m Q pc lo (.int i :: .ref a :: st) M := by
  subst hp
  exact s_iald hd (ent_int hs) (zsh_lt hs (Or.inr (vp_pos hin))) hin kk
theorem zt_zald {a len : Nat} {i : Int32} (hd : decode (zb m) pc = .ok (.baload, 1)) (hp : pc + 1 = q) (hs : zsh yy a = (2, len, 0, 0)) (hin : vp_in i len) (kk : wp yy m Q q lo (.int (M.1 a i.toNatClampNeg) :: st) M) : wp yy m Q pc lo (.int i :: .ref a :: st) M := by
  subst hp
  exact s_zald hd (ent_bool hs) (zsh_lt hs (Or.inl (by omega))) hin kk
theorem zt_lald {a len : Nat} {i : Int32} (hd : decode (zb m) pc = .ok (.laload, 1)) (hp : pc + 1 = q) (hs : zsh yy a = (1, len, 0, 0)) (hin : vp_in i len) (kk : wp yy m Q q lo (.long (M.2 a i.toNatClampNeg) :: st) M) : wp yy m Q pc lo (.int i :: .ref a :: st) M := by
  subst hp
  exact s_lald hd (ent_long hs) (zsh_lt hs (Or.inl (by omega))) hin kk
theorem zt_aald {t a b len bs ks : Nat} {ty : FieldType} {i : Int32} (hd : decode (zb m) pc = .ok (.aaload, 1)) (hp : pc + 1 = q) (ht : ∀ o : Zo, (ztys o)[t]? = some (o.2.2 t, ty)) (hty : ty.isReference = true) (h3 : 3 ≤ t) (h9 : t < 10) (hs : zsh yy a = (t, len, bs, ks)) (hin : vp_in i len) (hb : a + bs + ks * i.toNatClampNeg = b) (kk : wp yy m Q q lo (.ref b :: st) M) : wp yy m Q pc lo (.int i :: .ref a :: st) M := by
  subst hp
  subst hb
  exact s_aald hd ht hty (ent_ref hs h3 h9) (zsh_lt hs (Or.inl (by omega))) hin (if_pos (vp_lt hin)) kk
theorem zt_alenI {a len : Nat} (hd : decode (zb m) pc = .ok (.arraylength, 1)) (hp : pc + 1 = q) (hs : zsh yy a = (0, len, 0, 0)) (h0 : 0 < len) (kk : wp yy m Q q lo (.int (Int32.ofNat len) :: st) M) : wp yy m Q pc lo (.ref a :: st) M := by
  subst hp
  exact s_alen (t := 0) hd (fun _ => rfl) (ent_int hs) (zsh_lt hs (Or.inr h0)) kk
theorem zt_iast {a len : Nat} {i x : Int32} (hd : decode (zb m) pc = .ok (.iastore, 1)) (hp : pc + 1 = q) (hs : zsh yy a = (0, len, 0, 0)) (hin : vp_in i len) (kk : wp yy m Q q lo st (uI M a i.toNatClampNeg x)) : wp yy m Q pc lo (.int x :: .int i :: .ref a :: st) M := by
  subst hp
  refine s_iast hd (ent_int hs) (zsh_lt hs (Or.inr (vp_pos hin))) hin ?_
  rw [ent_upI (k := i.toNatClampNeg) (v := x) (by rw [ent_int hs]; simp [uI])]
  exact kk
theorem zt_zast {a len : Nat} {i x : Int32} (hd : decode (zb m) pc = .ok (.bastore, 1)) (hp : pc + 1 = q) (hs : zsh yy a = (2, len, 0, 0)) (hin : vp_in i len) (kk : wp yy m Q q lo st (uI M a i.toNatClampNeg (vp_nar .boolean x))) : wp yy m Q pc lo (.int x :: .int i :: .ref a :: st) M := by
  subst hp
  refine s_zast hd (ent_bool hs) (zsh_lt hs (Or.inl (by omega))) hin ?_
  rw [ent_upI (k := i.toNatClampNeg) (v := vp_nar .boolean x) (by rw [ent_bool hs]; simp [uI])]
  exact kk
theorem zt_last {a len : Nat} {i : Int32} {x : Int64} (hd : decode (zb m) pc = .ok (.lastore, 1)) (hp : pc + 1 = q) (hs : zsh yy a = (1, len, 0, 0)) (hin : vp_in i len) (kk : wp yy m Q q lo st (uL M a i.toNatClampNeg x)) : wp yy m Q pc lo (.long x :: .int i :: .ref a :: st) M := by
  subst hp
  refine s_last hd (ent_long hs) (zsh_lt hs (Or.inl (by omega))) hin ?_
  rw [ent_upL (k := i.toNatClampNeg) (v := x) (by rw [ent_long hs]; simp [uL])]
  exact kk
/-- what the tables say of a method, whoever calls it -/
def Zm0 (m' : Zm) (np : Nat) : Prop := Cond.code (zy m') (zb m') (zl m') (zr m') ∈ zG ∧ Cond.initialized (zy m').cls ∈ zG ∧ ((zy m').cls ≠ "java/lang/invoke/MethodHandle" ∧ (zy m').cls ≠ "java/lang/invoke/VarHandle") ∧ (parseMethodDescriptor (zy m').desc).map (fun d => d.parameters.length) = some np
def ZmI (m' : Zm) (ci np : Nat) : Prop := Zm0 m' np ∧ Cond.instanceMethod (zy m') ∈ zG ∧ Cond.selects (zy m').cls (zy m') (zy m') ∈ zG ∧ (zR m').cells = 0 ∧ (zR m').slots = 0 ∧ zg m' = false ∧ ∃ cl : vw_C, zcl[ci]? = some cl ∧ cl.1 = (zy m').cls
def ZmS (m' : Zm) (np : Nat) : Prop := Zm0 m' np ∧ Cond.static (zy m') ∈ zG ∧ (zR m').cells = 0 ∧ (zR m').slots = 0 ∧ zg m' = false
/-- the room of a call -/
def Zro (m m' : Zm) : Prop := (zR m').frames + 1 ≤ (zR m).frames ∧ 8 + (zl m' + 11) + (zR m').locals ≤ (zR m).locals
theorem zt_callV {b ci np index : Nat} {as : List Value} {Q' : Option Value → Mem → Prop} (hd : decode (zb m) pc = .ok (.invokevirtual index, 3)) (hp : pc + 3 = q) (hm : ZmI m' ci np) (hro : Zro m m') (hl : Cond.methodLink (zy m).cls index (zy m') ∈ zG) (hst : st0 = as.reverse ++ .ref b :: st) (hn : as.length = np) (hW : (st.map fun v => v.category).sum ≤ 8) (hs : zsh yy b = (10 + ci, 0, 0, 0)) (hM : Call yy m' (.ref b :: as) M Q') (kk : ∀ v M1, Q' v M1 → wp yy m Q q lo (v.toList ++ st) M1) : wp yy m Q pc lo st0 M := by
  subst hp
  obtain ⟨⟨h1, h2, h3, h4⟩, h5, h6, h7, h8, h9, cl, h10, h11⟩ := hm
  refine s_callV hd ⟨hro.1, hro.2, (fun g => by rw [h9] at g; cases g), h1, h2, h3, h4⟩ hl h5 h6 h10 h11 (ent_obj hs) (zsh_lt hs (Or.inl (by omega))) hst hn hW (by rw [h7]; exact Nat.zero_le _) (by rw [h8]; exact Nat.zero_le _) hM ?_
  rintro v n' f' ⟨rfl, M1, rfl, hq⟩
  rw [h7, h8]
  exact kk v M1 hq
theorem zt_callS {np index : Nat} {as : List Value} {Q' : Option Value → Mem → Prop} (hd : decode (zb m) pc = .ok (.invokestatic index, 3)) (hp : pc + 3 = q) (hm : ZmS m' np) (hro : Zro m m') (hl : Cond.methodLink (zy m).cls index (zy m') ∈ zG) (hst : st0 = as.reverse ++ st) (hn : as.length = np) (hW : (st.map fun v => v.category).sum ≤ 8) (hM : Call yy m' as M Q') (kk : ∀ v M1, Q' v M1 → wp yy m Q q lo (v.toList ++ st) M1) : wp yy m Q pc lo st0 M := by
  subst hp
  obtain ⟨⟨h1, h2, h3, h4⟩, h5, h7, h8, h9⟩ := hm
  refine s_callS hd ⟨hro.1, hro.2, (fun g => by rw [h9] at g; cases g), h1, h2, h3, h4⟩ hl h5 hst hn hW (by rw [h7]; exact Nat.zero_le _) (by rw [h8]; exact Nat.zero_le _) hM ?_
  rintro v n' f' ⟨rfl, M1, rfl, hq⟩
  rw [h7, h8]
  exact kk v M1 hq
theorem zt_callVI {b ci np index : Nat} {as : List Value} (hd : decode (zb m) pc = .ok (.invokevirtual index, 3)) (hp : pc + 3 = q) (hm : ZmI m' ci np) (hro : Zro m m') (hl : Cond.methodLink (zy m).cls index (zy m') ∈ zG) (hst : st0 = as.reverse ++ .ref b :: st) (hn : as.length = np) (hW : (st.map fun v => v.category).sum ≤ 8) (hs : zsh yy b = (10 + ci, 0, 0, 0)) (hM : CallI yy m' (.ref b :: as) M (fun r M1 => wp yy m Q q lo (.int r :: st) M1)) : wp yy m Q pc lo st0 M :=
  zt_callV hd hp hm hro hl hst hn hW hs hM (fun v M1 h => by obtain ⟨r, rfl, h⟩ := h; exact h)
theorem zt_callSI {np index : Nat} {as : List Value} (hd : decode (zb m) pc = .ok (.invokestatic index, 3)) (hp : pc + 3 = q) (hm : ZmS m' np) (hro : Zro m m') (hl : Cond.methodLink (zy m).cls index (zy m') ∈ zG) (hst : st0 = as.reverse ++ st) (hn : as.length = np) (hW : (st.map fun v => v.category).sum ≤ 8) (hM : CallI yy m' as M (fun r M1 => wp yy m Q q lo (.int r :: st) M1)) : wp yy m Q pc lo st0 M :=
  zt_callS hd hp hm hro hl hst hn hW hM (fun v M1 h => by obtain ⟨r, rfl, h⟩ := h; exact h)
theorem zt_callVL {b ci np index : Nat} {as : List Value} (hd : decode (zb m) pc = .ok (.invokevirtual index, 3)) (hp : pc + 3 = q) (hm : ZmI m' ci np) (hro : Zro m m') (hl : Cond.methodLink (zy m).cls index (zy m') ∈ zG) (hst : st0 = as.reverse ++ .ref b :: st) (hn : as.length = np) (hW : (st.map fun v => v.category).sum ≤ 8) (hs : zsh yy b = (10 + ci, 0, 0, 0)) (hM : CallL yy m' (.ref b :: as) M (fun r M1 => wp yy m Q q lo (.long r :: st) M1)) : wp yy m Q pc lo st0 M :=
  zt_callV hd hp hm hro hl hst hn hW hs hM (fun v M1 h => by obtain ⟨r, rfl, h⟩ := h; exact h)
theorem zt_callSL {np index : Nat} {as : List Value} (hd : decode (zb m) pc = .ok (.invokestatic index, 3)) (hp : pc + 3 = q) (hm : ZmS m' np) (hro : Zro m m') (hl : Cond.methodLink (zy m).cls index (zy m') ∈ zG) (hst : st0 = as.reverse ++ st) (hn : as.length = np) (hW : (st.map fun v => v.category).sum ≤ 8) (hM : CallL yy m' as M (fun r M1 => wp yy m Q q lo (.long r :: st) M1)) : wp yy m Q pc lo st0 M :=
  zt_callS hd hp hm hro hl hst hn hW hM (fun v M1 h => by obtain ⟨r, rfl, h⟩ := h; exact h)
theorem zt_callVR {b ci np index : Nat} {as : List Value} (hd : decode (zb m) pc = .ok (.invokevirtual index, 3)) (hp : pc + 3 = q) (hm : ZmI m' ci np) (hro : Zro m m') (hl : Cond.methodLink (zy m).cls index (zy m') ∈ zG) (hst : st0 = as.reverse ++ .ref b :: st) (hn : as.length = np) (hW : (st.map fun v => v.category).sum ≤ 8) (hs : zsh yy b = (10 + ci, 0, 0, 0)) (hM : CallR yy m' (.ref b :: as) M (fun r M1 => wp yy m Q q lo (.ref r :: st) M1)) : wp yy m Q pc lo st0 M :=
  zt_callV hd hp hm hro hl hst hn hW hs hM (fun v M1 h => by obtain ⟨r, rfl, h⟩ := h; exact h)
theorem zt_callSR {np index : Nat} {as : List Value} (hd : decode (zb m) pc = .ok (.invokestatic index, 3)) (hp : pc + 3 = q) (hm : ZmS m' np) (hro : Zro m m') (hl : Cond.methodLink (zy m).cls index (zy m') ∈ zG) (hst : st0 = as.reverse ++ st) (hn : as.length = np) (hW : (st.map fun v => v.category).sum ≤ 8) (hM : CallR yy m' as M (fun r M1 => wp yy m Q q lo (.ref r :: st) M1)) : wp yy m Q pc lo st0 M :=
  zt_callS hd hp hm hro hl hst hn hW hM (fun v M1 h => by obtain ⟨r, rfl, h⟩ := h; exact h)
theorem zt_callVV {b ci np index : Nat} {as : List Value} (hd : decode (zb m) pc = .ok (.invokevirtual index, 3)) (hp : pc + 3 = q) (hm : ZmI m' ci np) (hro : Zro m m') (hl : Cond.methodLink (zy m).cls index (zy m') ∈ zG) (hst : st0 = as.reverse ++ .ref b :: st) (hn : as.length = np) (hW : (st.map fun v => v.category).sum ≤ 8) (hs : zsh yy b = (10 + ci, 0, 0, 0)) (hM : CallV yy m' (.ref b :: as) M (fun M1 => wp yy m Q q lo st M1)) : wp yy m Q pc lo st0 M :=
  zt_callV hd hp hm hro hl hst hn hW hs hM (fun v M1 h => by obtain ⟨rfl, h⟩ := h; exact h)
theorem zt_callSV {np index : Nat} {as : List Value} (hd : decode (zb m) pc = .ok (.invokestatic index, 3)) (hp : pc + 3 = q) (hm : ZmS m' np) (hro : Zro m m') (hl : Cond.methodLink (zy m).cls index (zy m') ∈ zG) (hst : st0 = as.reverse ++ st) (hn : as.length = np) (hW : (st.map fun v => v.category).sum ≤ 8) (hM : CallV yy m' as M (fun M1 => wp yy m Q q lo st M1)) : wp yy m Q pc lo st0 M :=
  zt_callS hd hp hm hro hl hst hn hW hM (fun v M1 h => by obtain ⟨rfl, h⟩ := h; exact h)
/-- Math's static functions -/
def Zma (m : Zm) (index : Nat) (y : MethodName) (b : ByteArray) (k : Nat) : Prop := Cond.methodLink (zy m).cls index y ∈ zG ∧ Cond.static y ∈ zG ∧ Cond.initialized "java/lang/Math" ∈ zG ∧ Cond.code y b k (some .int) ∈ zG ∧ 1 ≤ (zR m).frames
theorem zt_mmax {index : Nat} {x z : Int32} (hd : decode (zb m) pc = .ok (.invokestatic index, 3)) (hp : pc + 3 = q) (hz : Zma m index Lib.Math.max.name Lib.Math.max.code 2) (hlo : (st.map fun v => v.category).sum + 13 ≤ (zR m).locals) (kk : wp yy m Q q lo (.int (if x < z then z else x) :: st) M) : wp yy m Q pc lo (.int z :: .int x :: st) M := by
  subst hp
  exact s_mmax hd hz.1 hz.2.1 hz.2.2.1 hz.2.2.2.1 hz.2.2.2.2 hlo (Nat.zero_le _) (Nat.zero_le _) kk
theorem zt_mmin {index : Nat} {x z : Int32} (hd : decode (zb m) pc = .ok (.invokestatic index, 3)) (hp : pc + 3 = q) (hz : Zma m index Lib.Math.min.name Lib.Math.min.code 2) (hlo : (st.map fun v => v.category).sum + 13 ≤ (zR m).locals) (kk : wp yy m Q q lo (.int (if z < x then z else x) :: st) M) : wp yy m Q pc lo (.int z :: .int x :: st) M := by
  subst hp
  exact s_mmin hd hz.1 hz.2.1 hz.2.2.1 hz.2.2.2.1 hz.2.2.2.2 hlo (Nat.zero_le _) (Nat.zero_le _) kk
theorem zt_mabs {index : Nat} {x : Int32} (hd : decode (zb m) pc = .ok (.invokestatic index, 3)) (hp : pc + 3 = q) (hz : Zma m index Lib.Math.abs.name Lib.Math.abs.code 1) (hlo : (st.map fun v => v.category).sum + 13 ≤ (zR m).locals) (kk : wp yy m Q q lo (.int (if 0 ≤ x then x else 0 - x) :: st) M) : wp yy m Q pc lo (.int x :: st) M := by
  subst hp
  exact s_mabs hd hz.1 hz.2.1 hz.2.2.1 hz.2.2.2.1 hz.2.2.2.2 hlo (Nat.zero_le _) (Nat.zero_le _) kk
end ZRW
end
