-- ===== PART A: goes FIRST, ahead of the names: the tables' words, and 'selects' of the private methods out of them =====
/-- a private method of a class that the tables say can be made, by its rows of tables_1 -/
def lw_okq (q : MethodName × Nat) : Prop := (q.1.cls ≠ "java/lang/invoke/MethodHandle" ∧ q.1.cls ≠ "java/lang/invoke/VarHandle") ∧ Cond.instantiable q.1.cls q.2 ∈ tables_1 ∧ Cond.privateMethod q.1 ∈ tables_1 ∧ Cond.instanceMethod q.1 ∈ tables_1
theorem lw_p0 : lw_okq (⟨"StrataBase$Reader", "begin", "()V"⟩, 19) := ⟨⟨by decide +kernel, by decide +kernel⟩, List.mem_of_getElem? (i := 181) (by decide +kernel), List.mem_of_getElem? (i := 570) (by decide +kernel), List.mem_of_getElem? (i := 571) (by decide +kernel)⟩
theorem lw_p1 : lw_okq (⟨"StrataBase$Reader", "beginBody", "()V"⟩, 19) := ⟨⟨by decide +kernel, by decide +kernel⟩, List.mem_of_getElem? (i := 181) (by decide +kernel), List.mem_of_getElem? (i := 582) (by decide +kernel), List.mem_of_getElem? (i := 583) (by decide +kernel)⟩
theorem lw_p2 : lw_okq (⟨"StrataBase$Tokens", "skipBlanks", "()V"⟩, 6) := ⟨⟨by decide +kernel, by decide +kernel⟩, List.mem_of_getElem? (i := 189) (by decide +kernel), List.mem_of_getElem? (i := 608) (by decide +kernel), List.mem_of_getElem? (i := 609) (by decide +kernel)⟩
theorem lw_p3 : lw_okq (⟨"StrataBase$Tokens", "readWord", "()V"⟩, 6) := ⟨⟨by decide +kernel, by decide +kernel⟩, List.mem_of_getElem? (i := 189) (by decide +kernel), List.mem_of_getElem? (i := 624) (by decide +kernel), List.mem_of_getElem? (i := 625) (by decide +kernel)⟩
theorem lw_p4 : lw_okq (⟨"StrataBase$Tokens", "isNot", "()Z"⟩, 6) := ⟨⟨by decide +kernel, by decide +kernel⟩, List.mem_of_getElem? (i := 189) (by decide +kernel), List.mem_of_getElem? (i := 628) (by decide +kernel), List.mem_of_getElem? (i := 629) (by decide +kernel)⟩
theorem lw_p5 : lw_okq (⟨"StrataBase$Tokens", "readNumber", "()V"⟩, 6) := ⟨⟨by decide +kernel, by decide +kernel⟩, List.mem_of_getElem? (i := 189) (by decide +kernel), List.mem_of_getElem? (i := 632) (by decide +kernel), List.mem_of_getElem? (i := 633) (by decide +kernel)⟩
theorem lw_p6 : lw_okq (⟨"StrataBase$Tokens", "readSign", "()V"⟩, 6) := ⟨⟨by decide +kernel, by decide +kernel⟩, List.mem_of_getElem? (i := 189) (by decide +kernel), List.mem_of_getElem? (i := 644) (by decide +kernel), List.mem_of_getElem? (i := 645) (by decide +kernel)⟩
theorem lw_p7 : lw_okq (⟨"StrataBase$Tokens", "takes", "(I)Z"⟩, 6) := ⟨⟨by decide +kernel, by decide +kernel⟩, List.mem_of_getElem? (i := 189) (by decide +kernel), List.mem_of_getElem? (i := 648) (by decide +kernel), List.mem_of_getElem? (i := 649) (by decide +kernel)⟩
theorem lw_p8 : lw_okq (⟨"StrataBase$Reader", "settleBefore", "()V"⟩, 19) := ⟨⟨by decide +kernel, by decide +kernel⟩, List.mem_of_getElem? (i := 181) (by decide +kernel), List.mem_of_getElem? (i := 652) (by decide +kernel), List.mem_of_getElem? (i := 653) (by decide +kernel)⟩
theorem lw_p9 : lw_okq (⟨"StrataBase$Reader", "decideName", "()V"⟩, 19) := ⟨⟨by decide +kernel, by decide +kernel⟩, List.mem_of_getElem? (i := 181) (by decide +kernel), List.mem_of_getElem? (i := 656) (by decide +kernel), List.mem_of_getElem? (i := 657) (by decide +kernel)⟩
theorem lw_p10 : lw_okq (⟨"StrataBase$Reader", "openComparison", "(I)V"⟩, 19) := ⟨⟨by decide +kernel, by decide +kernel⟩, List.mem_of_getElem? (i := 181) (by decide +kernel), List.mem_of_getElem? (i := 664) (by decide +kernel), List.mem_of_getElem? (i := 665) (by decide +kernel)⟩
theorem lw_p11 : lw_okq (⟨"StrataBase$Reader", "addSideConstant", "(IIII)V"⟩, 19) := ⟨⟨by decide +kernel, by decide +kernel⟩, List.mem_of_getElem? (i := 181) (by decide +kernel), List.mem_of_getElem? (i := 669) (by decide +kernel), List.mem_of_getElem? (i := 670) (by decide +kernel)⟩
theorem lw_p12 : lw_okq (⟨"StrataBase$Reader", "addConstant", "(III)V"⟩, 19) := ⟨⟨by decide +kernel, by decide +kernel⟩, List.mem_of_getElem? (i := 181) (by decide +kernel), List.mem_of_getElem? (i := 717) (by decide +kernel), List.mem_of_getElem? (i := 718) (by decide +kernel)⟩
theorem lw_p13 : lw_okq (⟨"StrataBase$Reader", "stop", "(II)V"⟩, 19) := ⟨⟨by decide +kernel, by decide +kernel⟩, List.mem_of_getElem? (i := 181) (by decide +kernel), List.mem_of_getElem? (i := 721) (by decide +kernel), List.mem_of_getElem? (i := 722) (by decide +kernel)⟩
theorem lw_p14 : lw_okq (⟨"StrataBase$Reader", "namePredicate", "()V"⟩, 19) := ⟨⟨by decide +kernel, by decide +kernel⟩, List.mem_of_getElem? (i := 181) (by decide +kernel), List.mem_of_getElem? (i := 733) (by decide +kernel), List.mem_of_getElem? (i := 734) (by decide +kernel)⟩
theorem lw_p15 : lw_okq (⟨"StrataBase$Reader", "closeAtom", "()V"⟩, 19) := ⟨⟨by decide +kernel, by decide +kernel⟩, List.mem_of_getElem? (i := 181) (by decide +kernel), List.mem_of_getElem? (i := 747) (by decide +kernel), List.mem_of_getElem? (i := 748) (by decide +kernel)⟩
def lw_privs_1 : List (MethodName × Nat) := [(⟨"StrataBase$Reader", "begin", "()V"⟩, 19), (⟨"StrataBase$Reader", "beginBody", "()V"⟩, 19), (⟨"StrataBase$Tokens", "skipBlanks", "()V"⟩, 6), (⟨"StrataBase$Tokens", "readWord", "()V"⟩, 6), (⟨"StrataBase$Tokens", "isNot", "()Z"⟩, 6), (⟨"StrataBase$Tokens", "readNumber", "()V"⟩, 6), (⟨"StrataBase$Tokens", "readSign", "()V"⟩, 6), (⟨"StrataBase$Tokens", "takes", "(I)Z"⟩, 6), (⟨"StrataBase$Reader", "settleBefore", "()V"⟩, 19), (⟨"StrataBase$Reader", "decideName", "()V"⟩, 19), (⟨"StrataBase$Reader", "openComparison", "(I)V"⟩, 19), (⟨"StrataBase$Reader", "addSideConstant", "(IIII)V"⟩, 19), (⟨"StrataBase$Reader", "addConstant", "(III)V"⟩, 19), (⟨"StrataBase$Reader", "stop", "(II)V"⟩, 19), (⟨"StrataBase$Reader", "namePredicate", "()V"⟩, 19), (⟨"StrataBase$Reader", "closeAtom", "()V"⟩, 19)]
theorem lw_r1 : ∀ q ∈ lw_privs_1, lw_okq q := List.forall_mem_cons.mpr ⟨lw_p0, List.forall_mem_cons.mpr ⟨lw_p1, List.forall_mem_cons.mpr ⟨lw_p2, List.forall_mem_cons.mpr ⟨lw_p3, List.forall_mem_cons.mpr ⟨lw_p4, List.forall_mem_cons.mpr ⟨lw_p5, List.forall_mem_cons.mpr ⟨lw_p6, List.forall_mem_cons.mpr ⟨lw_p7, List.forall_mem_cons.mpr ⟨lw_p8, List.forall_mem_cons.mpr ⟨lw_p9, List.forall_mem_cons.mpr ⟨lw_p10, List.forall_mem_cons.mpr ⟨lw_p11, List.forall_mem_cons.mpr ⟨lw_p12, List.forall_mem_cons.mpr ⟨lw_p13, List.forall_mem_cons.mpr ⟨lw_p14, List.forall_mem_cons.mpr ⟨lw_p15, fun _ h => absurd h List.not_mem_nil⟩⟩⟩⟩⟩⟩⟩⟩⟩⟩⟩⟩⟩⟩⟩⟩
theorem lw_p16 : lw_okq (⟨"StrataBase$Reader", "checkSize", "(I)V"⟩, 19) := ⟨⟨by decide +kernel, by decide +kernel⟩, List.mem_of_getElem? (i := 181) (by decide +kernel), List.mem_of_getElem? (i := 751) (by decide +kernel), List.mem_of_getElem? (i := 752) (by decide +kernel)⟩
theorem lw_p17 : lw_okq (⟨"StrataBase$Reader", "checkOwnSize", "(I)V"⟩, 19) := ⟨⟨by decide +kernel, by decide +kernel⟩, List.mem_of_getElem? (i := 181) (by decide +kernel), List.mem_of_getElem? (i := 755) (by decide +kernel), List.mem_of_getElem? (i := 756) (by decide +kernel)⟩
theorem lw_p18 : lw_okq (⟨"StrataBase$Reader", "note", "(II)V"⟩, 19) := ⟨⟨by decide +kernel, by decide +kernel⟩, List.mem_of_getElem? (i := 181) (by decide +kernel), List.mem_of_getElem? (i := 759) (by decide +kernel), List.mem_of_getElem? (i := 760) (by decide +kernel)⟩
theorem lw_p19 : lw_okq (⟨"StrataBase$Reader", "beginClause", "()V"⟩, 19) := ⟨⟨by decide +kernel, by decide +kernel⟩, List.mem_of_getElem? (i := 181) (by decide +kernel), List.mem_of_getElem? (i := 763) (by decide +kernel), List.mem_of_getElem? (i := 764) (by decide +kernel)⟩
theorem lw_p20 : lw_okq (⟨"StrataBase$Reader", "refuse", "()V"⟩, 19) := ⟨⟨by decide +kernel, by decide +kernel⟩, List.mem_of_getElem? (i := 181) (by decide +kernel), List.mem_of_getElem? (i := 767) (by decide +kernel), List.mem_of_getElem? (i := 768) (by decide +kernel)⟩
theorem lw_p21 : lw_okq (⟨"StrataBase$Reader", "readPredicate", "()V"⟩, 19) := ⟨⟨by decide +kernel, by decide +kernel⟩, List.mem_of_getElem? (i := 181) (by decide +kernel), List.mem_of_getElem? (i := 771) (by decide +kernel), List.mem_of_getElem? (i := 772) (by decide +kernel)⟩
theorem lw_p22 : lw_okq (⟨"StrataBase$Reader", "markName", "()V"⟩, 19) := ⟨⟨by decide +kernel, by decide +kernel⟩, List.mem_of_getElem? (i := 181) (by decide +kernel), List.mem_of_getElem? (i := 775) (by decide +kernel), List.mem_of_getElem? (i := 776) (by decide +kernel)⟩
theorem lw_p23 : lw_okq (⟨"StrataBase$Reader", "readTerm", "()V"⟩, 19) := ⟨⟨by decide +kernel, by decide +kernel⟩, List.mem_of_getElem? (i := 181) (by decide +kernel), List.mem_of_getElem? (i := 779) (by decide +kernel), List.mem_of_getElem? (i := 780) (by decide +kernel)⟩
theorem lw_p24 : lw_okq (⟨"StrataBase$Reader", "addVariable", "(I)V"⟩, 19) := ⟨⟨by decide +kernel, by decide +kernel⟩, List.mem_of_getElem? (i := 181) (by decide +kernel), List.mem_of_getElem? (i := 787) (by decide +kernel), List.mem_of_getElem? (i := 788) (by decide +kernel)⟩
theorem lw_p25 : lw_okq (⟨"StrataBase$Reader", "addAtomConstant", "()V"⟩, 19) := ⟨⟨by decide +kernel, by decide +kernel⟩, List.mem_of_getElem? (i := 181) (by decide +kernel), List.mem_of_getElem? (i := 791) (by decide +kernel), List.mem_of_getElem? (i := 792) (by decide +kernel)⟩
theorem lw_p26 : lw_okq (⟨"StrataBase$Reader", "readTermEnd", "()V"⟩, 19) := ⟨⟨by decide +kernel, by decide +kernel⟩, List.mem_of_getElem? (i := 181) (by decide +kernel), List.mem_of_getElem? (i := 800) (by decide +kernel), List.mem_of_getElem? (i := 801) (by decide +kernel)⟩
theorem lw_p27 : lw_okq (⟨"StrataBase$Reader", "readHeadEnd", "()V"⟩, 19) := ⟨⟨by decide +kernel, by decide +kernel⟩, List.mem_of_getElem? (i := 181) (by decide +kernel), List.mem_of_getElem? (i := 804) (by decide +kernel), List.mem_of_getElem? (i := 805) (by decide +kernel)⟩
theorem lw_p28 : lw_okq (⟨"StrataBase$Reader", "closeClause", "()V"⟩, 19) := ⟨⟨by decide +kernel, by decide +kernel⟩, List.mem_of_getElem? (i := 181) (by decide +kernel), List.mem_of_getElem? (i := 808) (by decide +kernel), List.mem_of_getElem? (i := 809) (by decide +kernel)⟩
theorem lw_p29 : lw_okq (⟨"StrataBase$Reader", "beginLiteral", "()V"⟩, 19) := ⟨⟨by decide +kernel, by decide +kernel⟩, List.mem_of_getElem? (i := 181) (by decide +kernel), List.mem_of_getElem? (i := 816) (by decide +kernel), List.mem_of_getElem? (i := 817) (by decide +kernel)⟩
theorem lw_p30 : lw_okq (⟨"StrataBase$Reader", "addSide", "(I)V"⟩, 19) := ⟨⟨by decide +kernel, by decide +kernel⟩, List.mem_of_getElem? (i := 181) (by decide +kernel), List.mem_of_getElem? (i := 820) (by decide +kernel), List.mem_of_getElem? (i := 821) (by decide +kernel)⟩
theorem lw_p31 : lw_okq (⟨"StrataBase$Reader", "readComparison", "()V"⟩, 19) := ⟨⟨by decide +kernel, by decide +kernel⟩, List.mem_of_getElem? (i := 181) (by decide +kernel), List.mem_of_getElem? (i := 824) (by decide +kernel), List.mem_of_getElem? (i := 825) (by decide +kernel)⟩
def lw_privs_2 : List (MethodName × Nat) := [(⟨"StrataBase$Reader", "checkSize", "(I)V"⟩, 19), (⟨"StrataBase$Reader", "checkOwnSize", "(I)V"⟩, 19), (⟨"StrataBase$Reader", "note", "(II)V"⟩, 19), (⟨"StrataBase$Reader", "beginClause", "()V"⟩, 19), (⟨"StrataBase$Reader", "refuse", "()V"⟩, 19), (⟨"StrataBase$Reader", "readPredicate", "()V"⟩, 19), (⟨"StrataBase$Reader", "markName", "()V"⟩, 19), (⟨"StrataBase$Reader", "readTerm", "()V"⟩, 19), (⟨"StrataBase$Reader", "addVariable", "(I)V"⟩, 19), (⟨"StrataBase$Reader", "addAtomConstant", "()V"⟩, 19), (⟨"StrataBase$Reader", "readTermEnd", "()V"⟩, 19), (⟨"StrataBase$Reader", "readHeadEnd", "()V"⟩, 19), (⟨"StrataBase$Reader", "closeClause", "()V"⟩, 19), (⟨"StrataBase$Reader", "beginLiteral", "()V"⟩, 19), (⟨"StrataBase$Reader", "addSide", "(I)V"⟩, 19), (⟨"StrataBase$Reader", "readComparison", "()V"⟩, 19)]
theorem lw_r2 : ∀ q ∈ lw_privs_2, lw_okq q := List.forall_mem_cons.mpr ⟨lw_p16, List.forall_mem_cons.mpr ⟨lw_p17, List.forall_mem_cons.mpr ⟨lw_p18, List.forall_mem_cons.mpr ⟨lw_p19, List.forall_mem_cons.mpr ⟨lw_p20, List.forall_mem_cons.mpr ⟨lw_p21, List.forall_mem_cons.mpr ⟨lw_p22, List.forall_mem_cons.mpr ⟨lw_p23, List.forall_mem_cons.mpr ⟨lw_p24, List.forall_mem_cons.mpr ⟨lw_p25, List.forall_mem_cons.mpr ⟨lw_p26, List.forall_mem_cons.mpr ⟨lw_p27, List.forall_mem_cons.mpr ⟨lw_p28, List.forall_mem_cons.mpr ⟨lw_p29, List.forall_mem_cons.mpr ⟨lw_p30, List.forall_mem_cons.mpr ⟨lw_p31, fun _ h => absurd h List.not_mem_nil⟩⟩⟩⟩⟩⟩⟩⟩⟩⟩⟩⟩⟩⟩⟩⟩
theorem lw_p32 : lw_okq (⟨"StrataBase$Reader", "readRightSide", "()V"⟩, 19) := ⟨⟨by decide +kernel, by decide +kernel⟩, List.mem_of_getElem? (i := 181) (by decide +kernel), List.mem_of_getElem? (i := 828) (by decide +kernel), List.mem_of_getElem? (i := 829) (by decide +kernel)⟩
theorem lw_p33 : lw_okq (⟨"StrataBase$Reader", "compareSides", "()V"⟩, 19) := ⟨⟨by decide +kernel, by decide +kernel⟩, List.mem_of_getElem? (i := 181) (by decide +kernel), List.mem_of_getElem? (i := 832) (by decide +kernel), List.mem_of_getElem? (i := 833) (by decide +kernel)⟩
theorem lw_p34 : lw_okq (⟨"StrataBase$Reader", "readLiteralEnd", "()V"⟩, 19) := ⟨⟨by decide +kernel, by decide +kernel⟩, List.mem_of_getElem? (i := 181) (by decide +kernel), List.mem_of_getElem? (i := 849) (by decide +kernel), List.mem_of_getElem? (i := 850) (by decide +kernel)⟩
theorem lw_p35 : lw_okq (⟨"StrataBase$Reader", "expectEnd", "()V"⟩, 19) := ⟨⟨by decide +kernel, by decide +kernel⟩, List.mem_of_getElem? (i := 181) (by decide +kernel), List.mem_of_getElem? (i := 853) (by decide +kernel), List.mem_of_getElem? (i := 854) (by decide +kernel)⟩
theorem lw_p36 : lw_okq (⟨"StrataBase$Program", "findReached", "()V"⟩, 7) := ⟨⟨by decide +kernel, by decide +kernel⟩, List.mem_of_getElem? (i := 35) (by decide +kernel), List.mem_of_getElem? (i := 865) (by decide +kernel), List.mem_of_getElem? (i := 866) (by decide +kernel)⟩
theorem lw_p37 : lw_okq (⟨"StrataBase", "forgetTape", "()V"⟩, 13) := ⟨⟨by decide +kernel, by decide +kernel⟩, List.mem_of_getElem? (i := 26) (by decide +kernel), List.mem_of_getElem? (i := 873) (by decide +kernel), List.mem_of_getElem? (i := 874) (by decide +kernel)⟩
theorem lw_p38 : lw_okq (⟨"StrataBase$Program", "settleTerms", "(I)V"⟩, 7) := ⟨⟨by decide +kernel, by decide +kernel⟩, List.mem_of_getElem? (i := 35) (by decide +kernel), List.mem_of_getElem? (i := 883) (by decide +kernel), List.mem_of_getElem? (i := 884) (by decide +kernel)⟩
theorem lw_p39 : lw_okq (⟨"StrataBase$Program", "raiseStrata", "()Z"⟩, 7) := ⟨⟨by decide +kernel, by decide +kernel⟩, List.mem_of_getElem? (i := 35) (by decide +kernel), List.mem_of_getElem? (i := 894) (by decide +kernel), List.mem_of_getElem? (i := 895) (by decide +kernel)⟩
theorem lw_p40 : lw_okq (⟨"java/lang/Throwable", "fillInStackTrace", "(I)Ljava/lang/Throwable;"⟩, 6) := ⟨⟨by decide +kernel, by decide +kernel⟩, List.mem_of_getElem? (i := 962) (by decide +kernel), List.mem_of_getElem? (i := 960) (by decide +kernel), List.mem_of_getElem? (i := 961) (by decide +kernel)⟩
theorem lw_p41 : lw_okq (⟨"StrataBase", "putBytes", "(I)V"⟩, 13) := ⟨⟨by decide +kernel, by decide +kernel⟩, List.mem_of_getElem? (i := 26) (by decide +kernel), List.mem_of_getElem? (i := 987) (by decide +kernel), List.mem_of_getElem? (i := 988) (by decide +kernel)⟩
theorem lw_p42 : lw_okq (⟨"StrataBase$Join", "addPlainFacts", "(LStrataBase$Program;I)V"⟩, 11) := ⟨⟨by decide +kernel, by decide +kernel⟩, List.mem_of_getElem? (i := 341) (by decide +kernel), List.mem_of_getElem? (i := 1038) (by decide +kernel), List.mem_of_getElem? (i := 1039) (by decide +kernel)⟩
theorem lw_p43 : lw_okq (⟨"StrataBase$Facts", "slotOf", "(IJ)I"⟩, 14) := ⟨⟨by decide +kernel, by decide +kernel⟩, List.mem_of_getElem? (i := 283) (by decide +kernel), List.mem_of_getElem? (i := 1059) (by decide +kernel), List.mem_of_getElem? (i := 1060) (by decide +kernel)⟩
theorem lw_p44 : lw_okq (⟨"StrataBase$Join", "startsWork", "(LStrataBase$Program;II)Z"⟩, 11) := ⟨⟨by decide +kernel, by decide +kernel⟩, List.mem_of_getElem? (i := 341) (by decide +kernel), List.mem_of_getElem? (i := 1070) (by decide +kernel), List.mem_of_getElem? (i := 1071) (by decide +kernel)⟩
theorem lw_p45 : lw_okq (⟨"StrataBase$Join", "work", "(III)V"⟩, 11) := ⟨⟨by decide +kernel, by decide +kernel⟩, List.mem_of_getElem? (i := 341) (by decide +kernel), List.mem_of_getElem? (i := 1078) (by decide +kernel), List.mem_of_getElem? (i := 1079) (by decide +kernel)⟩
theorem lw_p46 : lw_okq (⟨"StrataBase$Join", "lacksFacts", "(II)Z"⟩, 11) := ⟨⟨by decide +kernel, by decide +kernel⟩, List.mem_of_getElem? (i := 341) (by decide +kernel), List.mem_of_getElem? (i := 1082) (by decide +kernel), List.mem_of_getElem? (i := 1083) (by decide +kernel)⟩
theorem lw_p47 : lw_okq (⟨"StrataBase$Join", "arrange", "(III)V"⟩, 11) := ⟨⟨by decide +kernel, by decide +kernel⟩, List.mem_of_getElem? (i := 341) (by decide +kernel), List.mem_of_getElem? (i := 1090) (by decide +kernel), List.mem_of_getElem? (i := 1091) (by decide +kernel)⟩
def lw_privs_3 : List (MethodName × Nat) := [(⟨"StrataBase$Reader", "readRightSide", "()V"⟩, 19), (⟨"StrataBase$Reader", "compareSides", "()V"⟩, 19), (⟨"StrataBase$Reader", "readLiteralEnd", "()V"⟩, 19), (⟨"StrataBase$Reader", "expectEnd", "()V"⟩, 19), (⟨"StrataBase$Program", "findReached", "()V"⟩, 7), (⟨"StrataBase", "forgetTape", "()V"⟩, 13), (⟨"StrataBase$Program", "settleTerms", "(I)V"⟩, 7), (⟨"StrataBase$Program", "raiseStrata", "()Z"⟩, 7), (⟨"java/lang/Throwable", "fillInStackTrace", "(I)Ljava/lang/Throwable;"⟩, 6), (⟨"StrataBase", "putBytes", "(I)V"⟩, 13), (⟨"StrataBase$Join", "addPlainFacts", "(LStrataBase$Program;I)V"⟩, 11), (⟨"StrataBase$Facts", "slotOf", "(IJ)I"⟩, 14), (⟨"StrataBase$Join", "startsWork", "(LStrataBase$Program;II)Z"⟩, 11), (⟨"StrataBase$Join", "work", "(III)V"⟩, 11), (⟨"StrataBase$Join", "lacksFacts", "(II)Z"⟩, 11), (⟨"StrataBase$Join", "arrange", "(III)V"⟩, 11)]
theorem lw_r3 : ∀ q ∈ lw_privs_3, lw_okq q := List.forall_mem_cons.mpr ⟨lw_p32, List.forall_mem_cons.mpr ⟨lw_p33, List.forall_mem_cons.mpr ⟨lw_p34, List.forall_mem_cons.mpr ⟨lw_p35, List.forall_mem_cons.mpr ⟨lw_p36, List.forall_mem_cons.mpr ⟨lw_p37, List.forall_mem_cons.mpr ⟨lw_p38, List.forall_mem_cons.mpr ⟨lw_p39, List.forall_mem_cons.mpr ⟨lw_p40, List.forall_mem_cons.mpr ⟨lw_p41, List.forall_mem_cons.mpr ⟨lw_p42, List.forall_mem_cons.mpr ⟨lw_p43, List.forall_mem_cons.mpr ⟨lw_p44, List.forall_mem_cons.mpr ⟨lw_p45, List.forall_mem_cons.mpr ⟨lw_p46, List.forall_mem_cons.mpr ⟨lw_p47, fun _ h => absurd h List.not_mem_nil⟩⟩⟩⟩⟩⟩⟩⟩⟩⟩⟩⟩⟩⟩⟩⟩
theorem lw_p48 : lw_okq (⟨"StrataBase$Join", "nextLiteral", "(III)I"⟩, 11) := ⟨⟨by decide +kernel, by decide +kernel⟩, List.mem_of_getElem? (i := 341) (by decide +kernel), List.mem_of_getElem? (i := 1094) (by decide +kernel), List.mem_of_getElem? (i := 1095) (by decide +kernel)⟩
theorem lw_p49 : lw_okq (⟨"StrataBase$Join", "costOf", "(II)I"⟩, 11) := ⟨⟨by decide +kernel, by decide +kernel⟩, List.mem_of_getElem? (i := 341) (by decide +kernel), List.mem_of_getElem? (i := 1099) (by decide +kernel), List.mem_of_getElem? (i := 1100) (by decide +kernel)⟩
theorem lw_p50 : lw_okq (⟨"StrataBase$Join", "prepare", "()V"⟩, 11) := ⟨⟨by decide +kernel, by decide +kernel⟩, List.mem_of_getElem? (i := 341) (by decide +kernel), List.mem_of_getElem? (i := 1105) (by decide +kernel), List.mem_of_getElem? (i := 1106) (by decide +kernel)⟩
theorem lw_p51 : lw_okq (⟨"StrataBase$Step", "givePositions", "(LStrataBase$Clauses;II)V"⟩, 17) := ⟨⟨by decide +kernel, by decide +kernel⟩, List.mem_of_getElem? (i := 382) (by decide +kernel), List.mem_of_getElem? (i := 1114) (by decide +kernel), List.mem_of_getElem? (i := 1115) (by decide +kernel)⟩
theorem lw_p52 : lw_okq (⟨"StrataBase$Step", "firstColumnOf", "(LStrataBase$Clauses;I)I"⟩, 17) := ⟨⟨by decide +kernel, by decide +kernel⟩, List.mem_of_getElem? (i := 382) (by decide +kernel), List.mem_of_getElem? (i := 1119) (by decide +kernel), List.mem_of_getElem? (i := 1120) (by decide +kernel)⟩
theorem lw_p53 : lw_okq (⟨"StrataBase$Step", "setOtherRole", "(LStrataBase$Clauses;I)V"⟩, 17) := ⟨⟨by decide +kernel, by decide +kernel⟩, List.mem_of_getElem? (i := 382) (by decide +kernel), List.mem_of_getElem? (i := 1123) (by decide +kernel), List.mem_of_getElem? (i := 1124) (by decide +kernel)⟩
theorem lw_p54 : lw_okq (⟨"StrataBase$Step", "setIndex", "(I)V"⟩, 17) := ⟨⟨by decide +kernel, by decide +kernel⟩, List.mem_of_getElem? (i := 382) (by decide +kernel), List.mem_of_getElem? (i := 1128) (by decide +kernel), List.mem_of_getElem? (i := 1129) (by decide +kernel)⟩
theorem lw_p55 : lw_okq (⟨"StrataBase$Indexes", "collect", "(LStrataBase$Step;LStrataBase$Facts;II)V"⟩, 9) := ⟨⟨by decide +kernel, by decide +kernel⟩, List.mem_of_getElem? (i := 347) (by decide +kernel), List.mem_of_getElem? (i := 1150) (by decide +kernel), List.mem_of_getElem? (i := 1151) (by decide +kernel)⟩
theorem lw_p56 : lw_okq (⟨"StrataBase$Indexes", "sort", "(I)V"⟩, 9) := ⟨⟨by decide +kernel, by decide +kernel⟩, List.mem_of_getElem? (i := 347) (by decide +kernel), List.mem_of_getElem? (i := 1167) (by decide +kernel), List.mem_of_getElem? (i := 1168) (by decide +kernel)⟩
theorem lw_p57 : lw_okq (⟨"StrataBase$Indexes", "dropEquals", "(I)V"⟩, 9) := ⟨⟨by decide +kernel, by decide +kernel⟩, List.mem_of_getElem? (i := 347) (by decide +kernel), List.mem_of_getElem? (i := 1173) (by decide +kernel), List.mem_of_getElem? (i := 1174) (by decide +kernel)⟩
theorem lw_p58 : lw_okq (⟨"StrataBase$Join", "solve", "(I)I"⟩, 11) := ⟨⟨by decide +kernel, by decide +kernel⟩, List.mem_of_getElem? (i := 341) (by decide +kernel), List.mem_of_getElem? (i := 1177) (by decide +kernel), List.mem_of_getElem? (i := 1178) (by decide +kernel)⟩
theorem lw_p59 : lw_okq (⟨"StrataBase$Join", "holds", "(I)Z"⟩, 11) := ⟨⟨by decide +kernel, by decide +kernel⟩, List.mem_of_getElem? (i := 341) (by decide +kernel), List.mem_of_getElem? (i := 1181) (by decide +kernel), List.mem_of_getElem? (i := 1182) (by decide +kernel)⟩
theorem lw_p60 : lw_okq (⟨"StrataBase$Clauses", "orderCode", "(II[I)I"⟩, 9) := ⟨⟨by decide +kernel, by decide +kernel⟩, List.mem_of_getElem? (i := 41) (by decide +kernel), List.mem_of_getElem? (i := 1189) (by decide +kernel), List.mem_of_getElem? (i := 1190) (by decide +kernel)⟩
theorem lw_p61 : lw_okq (⟨"StrataBase$Join", "scan", "(I)I"⟩, 11) := ⟨⟨by decide +kernel, by decide +kernel⟩, List.mem_of_getElem? (i := 341) (by decide +kernel), List.mem_of_getElem? (i := 1197) (by decide +kernel), List.mem_of_getElem? (i := 1198) (by decide +kernel)⟩
theorem lw_p62 : lw_okq (⟨"StrataBase$Join", "emit", "()V"⟩, 11) := ⟨⟨by decide +kernel, by decide +kernel⟩, List.mem_of_getElem? (i := 341) (by decide +kernel), List.mem_of_getElem? (i := 1217) (by decide +kernel), List.mem_of_getElem? (i := 1218) (by decide +kernel)⟩
theorem lw_p63 : lw_okq (⟨"StrataBase$Rows", "keyOf", "([II)J"⟩, 6) := ⟨⟨by decide +kernel, by decide +kernel⟩, List.mem_of_getElem? (i := 489) (by decide +kernel), List.mem_of_getElem? (i := 1225) (by decide +kernel), List.mem_of_getElem? (i := 1226) (by decide +kernel)⟩
def lw_privs_4 : List (MethodName × Nat) := [(⟨"StrataBase$Join", "nextLiteral", "(III)I"⟩, 11), (⟨"StrataBase$Join", "costOf", "(II)I"⟩, 11), (⟨"StrataBase$Join", "prepare", "()V"⟩, 11), (⟨"StrataBase$Step", "givePositions", "(LStrataBase$Clauses;II)V"⟩, 17), (⟨"StrataBase$Step", "firstColumnOf", "(LStrataBase$Clauses;I)I"⟩, 17), (⟨"StrataBase$Step", "setOtherRole", "(LStrataBase$Clauses;I)V"⟩, 17), (⟨"StrataBase$Step", "setIndex", "(I)V"⟩, 17), (⟨"StrataBase$Indexes", "collect", "(LStrataBase$Step;LStrataBase$Facts;II)V"⟩, 9), (⟨"StrataBase$Indexes", "sort", "(I)V"⟩, 9), (⟨"StrataBase$Indexes", "dropEquals", "(I)V"⟩, 9), (⟨"StrataBase$Join", "solve", "(I)I"⟩, 11), (⟨"StrataBase$Join", "holds", "(I)Z"⟩, 11), (⟨"StrataBase$Clauses", "orderCode", "(II[I)I"⟩, 9), (⟨"StrataBase$Join", "scan", "(I)I"⟩, 11), (⟨"StrataBase$Join", "emit", "()V"⟩, 11), (⟨"StrataBase$Rows", "keyOf", "([II)J"⟩, 6)]
theorem lw_r4 : ∀ q ∈ lw_privs_4, lw_okq q := List.forall_mem_cons.mpr ⟨lw_p48, List.forall_mem_cons.mpr ⟨lw_p49, List.forall_mem_cons.mpr ⟨lw_p50, List.forall_mem_cons.mpr ⟨lw_p51, List.forall_mem_cons.mpr ⟨lw_p52, List.forall_mem_cons.mpr ⟨lw_p53, List.forall_mem_cons.mpr ⟨lw_p54, List.forall_mem_cons.mpr ⟨lw_p55, List.forall_mem_cons.mpr ⟨lw_p56, List.forall_mem_cons.mpr ⟨lw_p57, List.forall_mem_cons.mpr ⟨lw_p58, List.forall_mem_cons.mpr ⟨lw_p59, List.forall_mem_cons.mpr ⟨lw_p60, List.forall_mem_cons.mpr ⟨lw_p61, List.forall_mem_cons.mpr ⟨lw_p62, List.forall_mem_cons.mpr ⟨lw_p63, fun _ h => absurd h List.not_mem_nil⟩⟩⟩⟩⟩⟩⟩⟩⟩⟩⟩⟩⟩⟩⟩⟩
theorem lw_p64 : lw_okq (⟨"StrataBase$Rows", "sink", "(II)V"⟩, 6) := ⟨⟨by decide +kernel, by decide +kernel⟩, List.mem_of_getElem? (i := 489) (by decide +kernel), List.mem_of_getElem? (i := 1266) (by decide +kernel), List.mem_of_getElem? (i := 1267) (by decide +kernel)⟩
theorem lw_p65 : lw_okq (⟨"StrataBase$Rows", "isAbove", "(IJJ)Z"⟩, 6) := ⟨⟨by decide +kernel, by decide +kernel⟩, List.mem_of_getElem? (i := 489) (by decide +kernel), List.mem_of_getElem? (i := 1270) (by decide +kernel), List.mem_of_getElem? (i := 1271) (by decide +kernel)⟩
theorem lw_p66 : lw_okq (⟨"StrataBaseModel", "starts", "(I)Z"⟩, 64) := ⟨⟨by decide +kernel, by decide +kernel⟩, List.mem_of_getElem? (i := 1360) (by decide +kernel), List.mem_of_getElem? (i := 1585) (by decide +kernel), List.mem_of_getElem? (i := 1586) (by decide +kernel)⟩
theorem lw_p67 : lw_okq (⟨"StrataBaseModel", "next", "()Z"⟩, 64) := ⟨⟨by decide +kernel, by decide +kernel⟩, List.mem_of_getElem? (i := 1360) (by decide +kernel), List.mem_of_getElem? (i := 1589) (by decide +kernel), List.mem_of_getElem? (i := 1590) (by decide +kernel)⟩
theorem lw_p68 : lw_okq (⟨"StrataBaseModel", "at", "(I)I"⟩, 64) := ⟨⟨by decide +kernel, by decide +kernel⟩, List.mem_of_getElem? (i := 1360) (by decide +kernel), List.mem_of_getElem? (i := 1593) (by decide +kernel), List.mem_of_getElem? (i := 1594) (by decide +kernel)⟩
theorem lw_p69 : lw_okq (⟨"StrataBaseModel", "figure", "(Z)Z"⟩, 64) := ⟨⟨by decide +kernel, by decide +kernel⟩, List.mem_of_getElem? (i := 1360) (by decide +kernel), List.mem_of_getElem? (i := 1609) (by decide +kernel), List.mem_of_getElem? (i := 1610) (by decide +kernel)⟩
theorem lw_p70 : lw_okq (⟨"StrataBaseModel", "flaw", "(II)Z"⟩, 64) := ⟨⟨by decide +kernel, by decide +kernel⟩, List.mem_of_getElem? (i := 1360) (by decide +kernel), List.mem_of_getElem? (i := 1618) (by decide +kernel), List.mem_of_getElem? (i := 1619) (by decide +kernel)⟩
theorem lw_p71 : lw_okq (⟨"StrataBaseModel", "readClauses", "()Z"⟩, 64) := ⟨⟨by decide +kernel, by decide +kernel⟩, List.mem_of_getElem? (i := 1360) (by decide +kernel), List.mem_of_getElem? (i := 1622) (by decide +kernel), List.mem_of_getElem? (i := 1623) (by decide +kernel)⟩
theorem lw_p72 : lw_okq (⟨"StrataBaseModel", "cannot", "()Z"⟩, 64) := ⟨⟨by decide +kernel, by decide +kernel⟩, List.mem_of_getElem? (i := 1360) (by decide +kernel), List.mem_of_getElem? (i := 1626) (by decide +kernel), List.mem_of_getElem? (i := 1627) (by decide +kernel)⟩
theorem lw_p73 : lw_okq (⟨"StrataBaseModel", "atom", "(II)Z"⟩, 64) := ⟨⟨by decide +kernel, by decide +kernel⟩, List.mem_of_getElem? (i := 1360) (by decide +kernel), List.mem_of_getElem? (i := 1630) (by decide +kernel), List.mem_of_getElem? (i := 1631) (by decide +kernel)⟩
theorem lw_p74 : lw_okq (⟨"StrataBaseModel", "name", "(II)Z"⟩, 64) := ⟨⟨by decide +kernel, by decide +kernel⟩, List.mem_of_getElem? (i := 1360) (by decide +kernel), List.mem_of_getElem? (i := 1634) (by decide +kernel), List.mem_of_getElem? (i := 1635) (by decide +kernel)⟩
theorem lw_p75 : lw_okq (⟨"StrataBaseModel", "predicate", "()I"⟩, 64) := ⟨⟨by decide +kernel, by decide +kernel⟩, List.mem_of_getElem? (i := 1360) (by decide +kernel), List.mem_of_getElem? (i := 1638) (by decide +kernel), List.mem_of_getElem? (i := 1639) (by decide +kernel)⟩
theorem lw_p76 : lw_okq (⟨"StrataBaseModel", "isSame", "(III)Z"⟩, 64) := ⟨⟨by decide +kernel, by decide +kernel⟩, List.mem_of_getElem? (i := 1360) (by decide +kernel), List.mem_of_getElem? (i := 1642) (by decide +kernel), List.mem_of_getElem? (i := 1643) (by decide +kernel)⟩
theorem lw_p77 : lw_okq (⟨"StrataBaseModel", "literal", "(I)I"⟩, 64) := ⟨⟨by decide +kernel, by decide +kernel⟩, List.mem_of_getElem? (i := 1360) (by decide +kernel), List.mem_of_getElem? (i := 1646) (by decide +kernel), List.mem_of_getElem? (i := 1647) (by decide +kernel)⟩
theorem lw_p78 : lw_okq (⟨"StrataBaseModel", "terms", "(I)Z"⟩, 64) := ⟨⟨by decide +kernel, by decide +kernel⟩, List.mem_of_getElem? (i := 1360) (by decide +kernel), List.mem_of_getElem? (i := 1650) (by decide +kernel), List.mem_of_getElem? (i := 1651) (by decide +kernel)⟩
theorem lw_p79 : lw_okq (⟨"StrataBaseModel", "isTerm", "()Z"⟩, 64) := ⟨⟨by decide +kernel, by decide +kernel⟩, List.mem_of_getElem? (i := 1360) (by decide +kernel), List.mem_of_getElem? (i := 1654) (by decide +kernel), List.mem_of_getElem? (i := 1655) (by decide +kernel)⟩
def lw_privs_5 : List (MethodName × Nat) := [(⟨"StrataBase$Rows", "sink", "(II)V"⟩, 6), (⟨"StrataBase$Rows", "isAbove", "(IJJ)Z"⟩, 6), (⟨"StrataBaseModel", "starts", "(I)Z"⟩, 64), (⟨"StrataBaseModel", "next", "()Z"⟩, 64), (⟨"StrataBaseModel", "at", "(I)I"⟩, 64), (⟨"StrataBaseModel", "figure", "(Z)Z"⟩, 64), (⟨"StrataBaseModel", "flaw", "(II)Z"⟩, 64), (⟨"StrataBaseModel", "readClauses", "()Z"⟩, 64), (⟨"StrataBaseModel", "cannot", "()Z"⟩, 64), (⟨"StrataBaseModel", "atom", "(II)Z"⟩, 64), (⟨"StrataBaseModel", "name", "(II)Z"⟩, 64), (⟨"StrataBaseModel", "predicate", "()I"⟩, 64), (⟨"StrataBaseModel", "isSame", "(III)Z"⟩, 64), (⟨"StrataBaseModel", "literal", "(I)I"⟩, 64), (⟨"StrataBaseModel", "terms", "(I)Z"⟩, 64), (⟨"StrataBaseModel", "isTerm", "()Z"⟩, 64)]
theorem lw_r5 : ∀ q ∈ lw_privs_5, lw_okq q := List.forall_mem_cons.mpr ⟨lw_p64, List.forall_mem_cons.mpr ⟨lw_p65, List.forall_mem_cons.mpr ⟨lw_p66, List.forall_mem_cons.mpr ⟨lw_p67, List.forall_mem_cons.mpr ⟨lw_p68, List.forall_mem_cons.mpr ⟨lw_p69, List.forall_mem_cons.mpr ⟨lw_p70, List.forall_mem_cons.mpr ⟨lw_p71, List.forall_mem_cons.mpr ⟨lw_p72, List.forall_mem_cons.mpr ⟨lw_p73, List.forall_mem_cons.mpr ⟨lw_p74, List.forall_mem_cons.mpr ⟨lw_p75, List.forall_mem_cons.mpr ⟨lw_p76, List.forall_mem_cons.mpr ⟨lw_p77, List.forall_mem_cons.mpr ⟨lw_p78, List.forall_mem_cons.mpr ⟨lw_p79, fun _ h => absurd h List.not_mem_nil⟩⟩⟩⟩⟩⟩⟩⟩⟩⟩⟩⟩⟩⟩⟩⟩
theorem lw_p80 : lw_okq (⟨"StrataBaseModel", "term", "(II)Z"⟩, 64) := ⟨⟨by decide +kernel, by decide +kernel⟩, List.mem_of_getElem? (i := 1360) (by decide +kernel), List.mem_of_getElem? (i := 1658) (by decide +kernel), List.mem_of_getElem? (i := 1659) (by decide +kernel)⟩
theorem lw_p81 : lw_okq (⟨"StrataBaseModel", "constant", "(I)I"⟩, 64) := ⟨⟨by decide +kernel, by decide +kernel⟩, List.mem_of_getElem? (i := 1360) (by decide +kernel), List.mem_of_getElem? (i := 1662) (by decide +kernel), List.mem_of_getElem? (i := 1663) (by decide +kernel)⟩
theorem lw_p82 : lw_okq (⟨"StrataBaseModel", "body", "()Z"⟩, 64) := ⟨⟨by decide +kernel, by decide +kernel⟩, List.mem_of_getElem? (i := 1360) (by decide +kernel), List.mem_of_getElem? (i := 1666) (by decide +kernel), List.mem_of_getElem? (i := 1667) (by decide +kernel)⟩
theorem lw_p83 : lw_okq (⟨"StrataBaseModel", "bodyLiteral", "(I)Z"⟩, 64) := ⟨⟨by decide +kernel, by decide +kernel⟩, List.mem_of_getElem? (i := 1360) (by decide +kernel), List.mem_of_getElem? (i := 1670) (by decide +kernel), List.mem_of_getElem? (i := 1671) (by decide +kernel)⟩
theorem lw_p84 : lw_okq (⟨"StrataBaseModel", "isSign", "()Z"⟩, 64) := ⟨⟨by decide +kernel, by decide +kernel⟩, List.mem_of_getElem? (i := 1360) (by decide +kernel), List.mem_of_getElem? (i := 1674) (by decide +kernel), List.mem_of_getElem? (i := 1675) (by decide +kernel)⟩
theorem lw_p85 : lw_okq (⟨"StrataBaseModel", "arities", "()V"⟩, 64) := ⟨⟨by decide +kernel, by decide +kernel⟩, List.mem_of_getElem? (i := 1360) (by decide +kernel), List.mem_of_getElem? (i := 1679) (by decide +kernel), List.mem_of_getElem? (i := 1680) (by decide +kernel)⟩
theorem lw_p86 : lw_okq (⟨"StrataBaseModel", "wrong", "(II)V"⟩, 64) := ⟨⟨by decide +kernel, by decide +kernel⟩, List.mem_of_getElem? (i := 1360) (by decide +kernel), List.mem_of_getElem? (i := 1683) (by decide +kernel), List.mem_of_getElem? (i := 1684) (by decide +kernel)⟩
theorem lw_p87 : lw_okq (⟨"StrataBaseModel", "look", "(I)V"⟩, 64) := ⟨⟨by decide +kernel, by decide +kernel⟩, List.mem_of_getElem? (i := 1360) (by decide +kernel), List.mem_of_getElem? (i := 1687) (by decide +kernel), List.mem_of_getElem? (i := 1688) (by decide +kernel)⟩
theorem lw_p88 : lw_okq (⟨"StrataBaseModel", "isBound", "(I)Z"⟩, 64) := ⟨⟨by decide +kernel, by decide +kernel⟩, List.mem_of_getElem? (i := 1360) (by decide +kernel), List.mem_of_getElem? (i := 1691) (by decide +kernel), List.mem_of_getElem? (i := 1692) (by decide +kernel)⟩
theorem lw_p89 : lw_okq (⟨"StrataBaseModel", "isStrata", "()Z"⟩, 64) := ⟨⟨by decide +kernel, by decide +kernel⟩, List.mem_of_getElem? (i := 1360) (by decide +kernel), List.mem_of_getElem? (i := 1695) (by decide +kernel), List.mem_of_getElem? (i := 1696) (by decide +kernel)⟩
theorem lw_p90 : lw_okq (⟨"StrataBaseModel", "dependencies", "()V"⟩, 64) := ⟨⟨by decide +kernel, by decide +kernel⟩, List.mem_of_getElem? (i := 1360) (by decide +kernel), List.mem_of_getElem? (i := 1699) (by decide +kernel), List.mem_of_getElem? (i := 1700) (by decide +kernel)⟩
theorem lw_p91 : lw_okq (⟨"StrataBaseModel", "layStrata", "()V"⟩, 64) := ⟨⟨by decide +kernel, by decide +kernel⟩, List.mem_of_getElem? (i := 1360) (by decide +kernel), List.mem_of_getElem? (i := 1703) (by decide +kernel), List.mem_of_getElem? (i := 1704) (by decide +kernel)⟩
theorem lw_p92 : lw_okq (⟨"StrataBaseModel", "follow", "(I)Z"⟩, 64) := ⟨⟨by decide +kernel, by decide +kernel⟩, List.mem_of_getElem? (i := 1360) (by decide +kernel), List.mem_of_getElem? (i := 1711) (by decide +kernel), List.mem_of_getElem? (i := 1712) (by decide +kernel)⟩
theorem lw_p93 : lw_okq (⟨"StrataBaseModel", "join", "(IIZ)Z"⟩, 64) := ⟨⟨by decide +kernel, by decide +kernel⟩, List.mem_of_getElem? (i := 1360) (by decide +kernel), List.mem_of_getElem? (i := 1715) (by decide +kernel), List.mem_of_getElem? (i := 1716) (by decide +kernel)⟩
theorem lw_p94 : lw_okq (⟨"StrataBaseModel", "free", "(I)V"⟩, 64) := ⟨⟨by decide +kernel, by decide +kernel⟩, List.mem_of_getElem? (i := 1360) (by decide +kernel), List.mem_of_getElem? (i := 1719) (by decide +kernel), List.mem_of_getElem? (i := 1720) (by decide +kernel)⟩
theorem lw_p95 : lw_okq (⟨"StrataBaseModel", "holds", "()Z"⟩, 64) := ⟨⟨by decide +kernel, by decide +kernel⟩, List.mem_of_getElem? (i := 1360) (by decide +kernel), List.mem_of_getElem? (i := 1723) (by decide +kernel), List.mem_of_getElem? (i := 1724) (by decide +kernel)⟩
def lw_privs_6 : List (MethodName × Nat) := [(⟨"StrataBaseModel", "term", "(II)Z"⟩, 64), (⟨"StrataBaseModel", "constant", "(I)I"⟩, 64), (⟨"StrataBaseModel", "body", "()Z"⟩, 64), (⟨"StrataBaseModel", "bodyLiteral", "(I)Z"⟩, 64), (⟨"StrataBaseModel", "isSign", "()Z"⟩, 64), (⟨"StrataBaseModel", "arities", "()V"⟩, 64), (⟨"StrataBaseModel", "wrong", "(II)V"⟩, 64), (⟨"StrataBaseModel", "look", "(I)V"⟩, 64), (⟨"StrataBaseModel", "isBound", "(I)Z"⟩, 64), (⟨"StrataBaseModel", "isStrata", "()Z"⟩, 64), (⟨"StrataBaseModel", "dependencies", "()V"⟩, 64), (⟨"StrataBaseModel", "layStrata", "()V"⟩, 64), (⟨"StrataBaseModel", "follow", "(I)Z"⟩, 64), (⟨"StrataBaseModel", "join", "(IIZ)Z"⟩, 64), (⟨"StrataBaseModel", "free", "(I)V"⟩, 64), (⟨"StrataBaseModel", "holds", "()Z"⟩, 64)]
theorem lw_r6 : ∀ q ∈ lw_privs_6, lw_okq q := List.forall_mem_cons.mpr ⟨lw_p80, List.forall_mem_cons.mpr ⟨lw_p81, List.forall_mem_cons.mpr ⟨lw_p82, List.forall_mem_cons.mpr ⟨lw_p83, List.forall_mem_cons.mpr ⟨lw_p84, List.forall_mem_cons.mpr ⟨lw_p85, List.forall_mem_cons.mpr ⟨lw_p86, List.forall_mem_cons.mpr ⟨lw_p87, List.forall_mem_cons.mpr ⟨lw_p88, List.forall_mem_cons.mpr ⟨lw_p89, List.forall_mem_cons.mpr ⟨lw_p90, List.forall_mem_cons.mpr ⟨lw_p91, List.forall_mem_cons.mpr ⟨lw_p92, List.forall_mem_cons.mpr ⟨lw_p93, List.forall_mem_cons.mpr ⟨lw_p94, List.forall_mem_cons.mpr ⟨lw_p95, fun _ h => absurd h List.not_mem_nil⟩⟩⟩⟩⟩⟩⟩⟩⟩⟩⟩⟩⟩⟩⟩⟩
theorem lw_p96 : lw_okq (⟨"StrataBaseModel", "value", "(I)I"⟩, 64) := ⟨⟨by decide +kernel, by decide +kernel⟩, List.mem_of_getElem? (i := 1360) (by decide +kernel), List.mem_of_getElem? (i := 1727) (by decide +kernel), List.mem_of_getElem? (i := 1728) (by decide +kernel)⟩
theorem lw_p97 : lw_okq (⟨"StrataBaseModel", "order", "(II)I"⟩, 64) := ⟨⟨by decide +kernel, by decide +kernel⟩, List.mem_of_getElem? (i := 1360) (by decide +kernel), List.mem_of_getElem? (i := 1731) (by decide +kernel), List.mem_of_getElem? (i := 1732) (by decide +kernel)⟩
theorem lw_p98 : lw_okq (⟨"StrataBaseModel", "arity", "(I)I"⟩, 64) := ⟨⟨by decide +kernel, by decide +kernel⟩, List.mem_of_getElem? (i := 1360) (by decide +kernel), List.mem_of_getElem? (i := 1735) (by decide +kernel), List.mem_of_getElem? (i := 1736) (by decide +kernel)⟩
theorem lw_p99 : lw_okq (⟨"StrataBaseModel", "find", "(II)I"⟩, 64) := ⟨⟨by decide +kernel, by decide +kernel⟩, List.mem_of_getElem? (i := 1360) (by decide +kernel), List.mem_of_getElem? (i := 1739) (by decide +kernel), List.mem_of_getElem? (i := 1740) (by decide +kernel)⟩
theorem lw_p100 : lw_okq (⟨"StrataBaseModel", "row", "()Z"⟩, 64) := ⟨⟨by decide +kernel, by decide +kernel⟩, List.mem_of_getElem? (i := 1360) (by decide +kernel), List.mem_of_getElem? (i := 1745) (by decide +kernel), List.mem_of_getElem? (i := 1746) (by decide +kernel)⟩
theorem lw_p101 : lw_okq (⟨"StrataBaseModel", "fact", "(I)Z"⟩, 64) := ⟨⟨by decide +kernel, by decide +kernel⟩, List.mem_of_getElem? (i := 1360) (by decide +kernel), List.mem_of_getElem? (i := 1749) (by decide +kernel), List.mem_of_getElem? (i := 1750) (by decide +kernel)⟩
theorem lw_p102 : lw_okq (⟨"StrataBaseModel", "isFact", "(III)Z"⟩, 64) := ⟨⟨by decide +kernel, by decide +kernel⟩, List.mem_of_getElem? (i := 1360) (by decide +kernel), List.mem_of_getElem? (i := 1753) (by decide +kernel), List.mem_of_getElem? (i := 1754) (by decide +kernel)⟩
theorem lw_p103 : lw_okq (⟨"StrataBaseModel", "beginQuestion", "()V"⟩, 64) := ⟨⟨by decide +kernel, by decide +kernel⟩, List.mem_of_getElem? (i := 1360) (by decide +kernel), List.mem_of_getElem? (i := 1761) (by decide +kernel), List.mem_of_getElem? (i := 1762) (by decide +kernel)⟩
theorem lw_p104 : lw_okq (⟨"StrataBaseModel", "readQuestion", "()Z"⟩, 64) := ⟨⟨by decide +kernel, by decide +kernel⟩, List.mem_of_getElem? (i := 1360) (by decide +kernel), List.mem_of_getElem? (i := 1766) (by decide +kernel), List.mem_of_getElem? (i := 1767) (by decide +kernel)⟩
theorem lw_p105 : lw_okq (⟨"StrataBaseModel", "ownArities", "()V"⟩, 64) := ⟨⟨by decide +kernel, by decide +kernel⟩, List.mem_of_getElem? (i := 1360) (by decide +kernel), List.mem_of_getElem? (i := 1770) (by decide +kernel), List.mem_of_getElem? (i := 1771) (by decide +kernel)⟩
theorem lw_p106 : lw_okq (⟨"StrataBaseModel", "isName", "(II)Z"⟩, 64) := ⟨⟨by decide +kernel, by decide +kernel⟩, List.mem_of_getElem? (i := 1360) (by decide +kernel), List.mem_of_getElem? (i := 1774) (by decide +kernel), List.mem_of_getElem? (i := 1775) (by decide +kernel)⟩
theorem lw_p107 : lw_okq (⟨"StrataBaseModel", "sort", "()V"⟩, 64) := ⟨⟨by decide +kernel, by decide +kernel⟩, List.mem_of_getElem? (i := 1360) (by decide +kernel), List.mem_of_getElem? (i := 1778) (by decide +kernel), List.mem_of_getElem? (i := 1779) (by decide +kernel)⟩
theorem lw_p108 : lw_okq (⟨"StrataBaseModel", "isBehind", "(II)Z"⟩, 64) := ⟨⟨by decide +kernel, by decide +kernel⟩, List.mem_of_getElem? (i := 1360) (by decide +kernel), List.mem_of_getElem? (i := 1782) (by decide +kernel), List.mem_of_getElem? (i := 1783) (by decide +kernel)⟩
theorem lw_p109 : lw_okq (⟨"StrataBaseModel", "cell", "(II)I"⟩, 64) := ⟨⟨by decide +kernel, by decide +kernel⟩, List.mem_of_getElem? (i := 1360) (by decide +kernel), List.mem_of_getElem? (i := 1794) (by decide +kernel), List.mem_of_getElem? (i := 1795) (by decide +kernel)⟩
theorem lw_p110 : lw_okq (⟨"StrataBaseModel", "ground", "()Z"⟩, 64) := ⟨⟨by decide +kernel, by decide +kernel⟩, List.mem_of_getElem? (i := 1360) (by decide +kernel), List.mem_of_getElem? (i := 1810) (by decide +kernel), List.mem_of_getElem? (i := 1811) (by decide +kernel)⟩
def lw_privs_7 : List (MethodName × Nat) := [(⟨"StrataBaseModel", "value", "(I)I"⟩, 64), (⟨"StrataBaseModel", "order", "(II)I"⟩, 64), (⟨"StrataBaseModel", "arity", "(I)I"⟩, 64), (⟨"StrataBaseModel", "find", "(II)I"⟩, 64), (⟨"StrataBaseModel", "row", "()Z"⟩, 64), (⟨"StrataBaseModel", "fact", "(I)Z"⟩, 64), (⟨"StrataBaseModel", "isFact", "(III)Z"⟩, 64), (⟨"StrataBaseModel", "beginQuestion", "()V"⟩, 64), (⟨"StrataBaseModel", "readQuestion", "()Z"⟩, 64), (⟨"StrataBaseModel", "ownArities", "()V"⟩, 64), (⟨"StrataBaseModel", "isName", "(II)Z"⟩, 64), (⟨"StrataBaseModel", "sort", "()V"⟩, 64), (⟨"StrataBaseModel", "isBehind", "(II)Z"⟩, 64), (⟨"StrataBaseModel", "cell", "(II)I"⟩, 64), (⟨"StrataBaseModel", "ground", "()Z"⟩, 64)]
theorem lw_r7 : ∀ q ∈ lw_privs_7, lw_okq q := List.forall_mem_cons.mpr ⟨lw_p96, List.forall_mem_cons.mpr ⟨lw_p97, List.forall_mem_cons.mpr ⟨lw_p98, List.forall_mem_cons.mpr ⟨lw_p99, List.forall_mem_cons.mpr ⟨lw_p100, List.forall_mem_cons.mpr ⟨lw_p101, List.forall_mem_cons.mpr ⟨lw_p102, List.forall_mem_cons.mpr ⟨lw_p103, List.forall_mem_cons.mpr ⟨lw_p104, List.forall_mem_cons.mpr ⟨lw_p105, List.forall_mem_cons.mpr ⟨lw_p106, List.forall_mem_cons.mpr ⟨lw_p107, List.forall_mem_cons.mpr ⟨lw_p108, List.forall_mem_cons.mpr ⟨lw_p109, List.forall_mem_cons.mpr ⟨lw_p110, fun _ h => absurd h List.not_mem_nil⟩⟩⟩⟩⟩⟩⟩⟩⟩⟩⟩⟩⟩⟩⟩
def lw_privs : List (MethodName × Nat) := lw_privs_1 ++ (lw_privs_2 ++ (lw_privs_3 ++ (lw_privs_4 ++ (lw_privs_5 ++ (lw_privs_6 ++ (lw_privs_7))))))
def lw_tbl : List Cond := k2_sels lw_privs ++ tables_1
theorem lw_privs_ok : ∀ q ∈ lw_privs, lw_okq q := by
  show ∀ q ∈ lw_privs_1 ++ (lw_privs_2 ++ (lw_privs_3 ++ (lw_privs_4 ++ (lw_privs_5 ++ (lw_privs_6 ++ (lw_privs_7)))))), lw_okq q
  exact List.forall_mem_append.mpr ⟨lw_r1, List.forall_mem_append.mpr ⟨lw_r2, List.forall_mem_append.mpr ⟨lw_r3, List.forall_mem_append.mpr ⟨lw_r4, List.forall_mem_append.mpr ⟨lw_r5, List.forall_mem_append.mpr ⟨lw_r6, lw_r7⟩⟩⟩⟩⟩⟩
/-- the words that calls keep -/
def tblG : List Cond := lw_tbl.filter goodWord
theorem tg_of {w : Cond} (h : w ∈ tables_1) (g : goodWord w = true) : w ∈ tblG := List.mem_filter.mpr ⟨List.mem_append_right _ h, g⟩
theorem tg_sel {w : Cond} (h : w ∈ k2_sels lw_privs) (g : goodWord w = true) : w ∈ tblG := List.mem_filter.mpr ⟨List.mem_append_left _ h, g⟩
theorem tg_good : GoodIn lw_tbl tblG := fun _ h => ⟨(List.mem_filter.mp h).1, good_of_word (List.mem_filter.mp h).2⟩
theorem tg_self {w : Cond} (h : w ∈ tblG) : w ∈ tblG ∧ ((w.onTables && w.keeps) = true ∨ ∃ ty, w = .arrayClass ty) := ⟨h, good_of_word (List.mem_filter.mp h).2⟩
theorem rn_1 {w : Cond} (h : w ∈ tables_1_1) (g : goodWord w = true) : w ∈ tblG := tg_of (show w ∈ tables_1 from List.mem_append_left _ h) g
theorem rn_2 {w : Cond} (h : w ∈ tables_1_2) (g : goodWord w = true) : w ∈ tblG := tg_of (show w ∈ tables_1 from List.mem_append_right _ (List.mem_append_left _ h)) g
theorem rn_3 {w : Cond} (h : w ∈ tables_1_3) (g : goodWord w = true) : w ∈ tblG := tg_of (show w ∈ tables_1 from List.mem_append_right _ (List.mem_append_right _ (List.mem_append_left _ h))) g
theorem rn_4 {w : Cond} (h : w ∈ tables_1_4) (g : goodWord w = true) : w ∈ tblG := tg_of (show w ∈ tables_1 from List.mem_append_right _ (List.mem_append_right _ (List.mem_append_right _ (List.mem_append_left _ h)))) g
theorem rn_5 {w : Cond} (h : w ∈ tables_1_5) (g : goodWord w = true) : w ∈ tblG := tg_of (show w ∈ tables_1 from List.mem_append_right _ (List.mem_append_right _ (List.mem_append_right _ (List.mem_append_right _ (List.mem_append_left _ h))))) g
theorem rn_6 {w : Cond} (h : w ∈ tables_1_6) (g : goodWord w = true) : w ∈ tblG := tg_of (show w ∈ tables_1 from List.mem_append_right _ (List.mem_append_right _ (List.mem_append_right _ (List.mem_append_right _ (List.mem_append_right _ (List.mem_append_left _ h)))))) g
theorem rn_7 {w : Cond} (h : w ∈ tables_1_7) (g : goodWord w = true) : w ∈ tblG := tg_of (show w ∈ tables_1 from List.mem_append_right _ (List.mem_append_right _ (List.mem_append_right _ (List.mem_append_right _ (List.mem_append_right _ (List.mem_append_right _ (List.mem_append_left _ h))))))) g
theorem rn_8 {w : Cond} (h : w ∈ tables_1_8) (g : goodWord w = true) : w ∈ tblG := tg_of (show w ∈ tables_1 from List.mem_append_right _ (List.mem_append_right _ (List.mem_append_right _ (List.mem_append_right _ (List.mem_append_right _ (List.mem_append_right _ (List.mem_append_right _ (h)))))))) g
def tb_SB : u_T := fun k => match k with
  | 0 => ("StrataBase", "tape", "[B", true)
  | 1 => ("StrataBase", "tapeLength", "I", false)
  | 2 => ("StrataBase", "faultCode", "I", false)
  | 3 => ("StrataBase", "program", "LStrataBase$Program;", false)
  | 4 => ("StrataBase", "spare", "LStrataBase$Program;", false)
  | 5 => ("StrataBase", "question", "LStrataBase$Clauses;", true)
  | 6 => ("StrataBase", "reader", "LStrataBase$Reader;", true)
  | 7 => ("StrataBase", "facts", "LStrataBase$Facts;", true)
  | 8 => ("StrataBase", "join", "LStrataBase$Join;", true)
  | 9 => ("StrataBase", "rows", "LStrataBase$Rows;", false)
  | 10 => ("StrataBase", "spareRows", "LStrataBase$Rows;", false)
  | 11 => ("StrataBase", "ran", "Z", false)
  | _ => ("StrataBase", "overflowed", "Z", false)
def ty_SB : Nat → FieldType := fun k => match k with
  | 0 => .array .byte
  | 1 => .int
  | 2 => .int
  | 3 => .object "StrataBase$Program"
  | 4 => .object "StrataBase$Program"
  | 5 => .object "StrataBase$Clauses"
  | 6 => .object "StrataBase$Reader"
  | 7 => .object "StrataBase$Facts"
  | 8 => .object "StrataBase$Join"
  | 9 => .object "StrataBase$Rows"
  | 10 => .object "StrataBase$Rows"
  | 11 => .boolean
  | _ => .boolean
set_option maxRecDepth 20000 in
theorem nm_SB : ∀ a, a < 13 → ∀ b, b < 13 → a ≠ b → (tb_SB a).2.1 ≠ (tb_SB b).2.1 := by decide +kernel
set_option maxRecDepth 20000 in
theorem tk_SB : ∀ k, k < 13 → parseFieldDescriptor (tb_SB k).2.2.1 = some (ty_SB k) := by decide +kernel
def tb_Cl : u_T := fun k => match k with
  | 0 => ("StrataBase$Clauses", "size", "I", false)
  | 1 => ("StrataBase$Clauses", "first", "[I", true)
  | 2 => ("StrataBase$Clauses", "kinds", "[I", true)
  | 3 => ("StrataBase$Clauses", "predicates", "[I", true)
  | 4 => ("StrataBase$Clauses", "places", "[I", true)
  | 5 => ("StrataBase$Clauses", "sizes", "[I", true)
  | 6 => ("StrataBase$Clauses", "masks", "[I", true)
  | 7 => ("StrataBase$Clauses", "terms", "[I", true)
  | _ => ("StrataBase$Clauses", "literals", "I", false)
def ty_Cl : Nat → FieldType := fun k => match k with
  | 0 => .int
  | 1 => .array .int
  | 2 => .array .int
  | 3 => .array .int
  | 4 => .array .int
  | 5 => .array .int
  | 6 => .array .int
  | 7 => .array .int
  | _ => .int
set_option maxRecDepth 20000 in
theorem nm_Cl : ∀ a, a < 9 → ∀ b, b < 9 → a ≠ b → (tb_Cl a).2.1 ≠ (tb_Cl b).2.1 := by decide +kernel
set_option maxRecDepth 20000 in
theorem tk_Cl : ∀ k, k < 9 → parseFieldDescriptor (tb_Cl k).2.2.1 = some (ty_Cl k) := by decide +kernel
def tb_Co : u_T := fun k => match k with
  | 0 => ("StrataBase$Constants", "names", "LStrataBase$Names;", true)
  | 1 => ("StrataBase$Constants", "values", "[I", true)
  | 2 => ("StrataBase$Constants", "byRank", "[I", true)
  | _ => ("StrataBase$Constants", "ranks", "[I", true)
def ty_Co : Nat → FieldType := fun k => match k with
  | 0 => .object "StrataBase$Names"
  | 1 => .array .int
  | 2 => .array .int
  | _ => .array .int
set_option maxRecDepth 20000 in
theorem nm_Co : ∀ a, a < 4 → ∀ b, b < 4 → a ≠ b → (tb_Co a).2.1 ≠ (tb_Co b).2.1 := by decide +kernel
set_option maxRecDepth 20000 in
theorem tk_Co : ∀ k, k < 4 → parseFieldDescriptor (tb_Co k).2.2.1 = some (ty_Co k) := by decide +kernel
def tb_Fa : u_T := fun k => match k with
  | 0 => ("StrataBase$Facts", "size", "I", false)
  | 1 => ("StrataBase$Facts", "highest", "I", false)
  | 2 => ("StrataBase$Facts", "full", "Z", false)
  | 3 => ("StrataBase$Facts", "keys", "[J", true)
  | 4 => ("StrataBase$Facts", "stages", "[I", true)
  | 5 => ("StrataBase$Facts", "amounts", "[I", true)
  | 6 => ("StrataBase$Facts", "predicates", "[I", true)
  | 7 => ("StrataBase$Facts", "next", "[I", true)
  | 8 => ("StrataBase$Facts", "slots", "[I", true)
  | 9 => ("StrataBase$Facts", "oldest", "[I", true)
  | 10 => ("StrataBase$Facts", "newest", "[I", true)
  | 11 => ("StrataBase$Facts", "known", "[I", true)
  | 12 => ("StrataBase$Facts", "knownBefore", "[I", true)
  | _ => ("StrataBase$Facts", "visible", "I", false)
def ty_Fa : Nat → FieldType := fun k => match k with
  | 0 => .int
  | 1 => .int
  | 2 => .boolean
  | 3 => .array .long
  | 4 => .array .int
  | 5 => .array .int
  | 6 => .array .int
  | 7 => .array .int
  | 8 => .array .int
  | 9 => .array .int
  | 10 => .array .int
  | 11 => .array .int
  | 12 => .array .int
  | _ => .int
set_option maxRecDepth 20000 in
theorem nm_Fa : ∀ a, a < 14 → ∀ b, b < 14 → a ≠ b → (tb_Fa a).2.1 ≠ (tb_Fa b).2.1 := by decide +kernel
set_option maxRecDepth 20000 in
theorem tk_Fa : ∀ k, k < 14 → parseFieldDescriptor (tb_Fa k).2.2.1 = some (ty_Fa k) := by decide +kernel
def tb_Ix : u_T := fun k => match k with
  | 0 => ("StrataBase$Indexes", "size", "I", false)
  | 1 => ("StrataBase$Indexes", "shapes", "[I", true)
  | 2 => ("StrataBase$Indexes", "fixed", "[J", true)
  | 3 => ("StrataBase$Indexes", "firsts", "[I", true)
  | 4 => ("StrataBase$Indexes", "lasts", "[I", true)
  | 5 => ("StrataBase$Indexes", "froms", "[I", true)
  | 6 => ("StrataBase$Indexes", "tos", "[I", true)
  | 7 => ("StrataBase$Indexes", "pool", "[J", false)
  | _ => ("StrataBase$Indexes", "used", "I", false)
def ty_Ix : Nat → FieldType := fun k => match k with
  | 0 => .int
  | 1 => .array .int
  | 2 => .array .long
  | 3 => .array .int
  | 4 => .array .int
  | 5 => .array .int
  | 6 => .array .int
  | 7 => .array .long
  | _ => .int
set_option maxRecDepth 20000 in
theorem nm_Ix : ∀ a, a < 9 → ∀ b, b < 9 → a ≠ b → (tb_Ix a).2.1 ≠ (tb_Ix b).2.1 := by decide +kernel
set_option maxRecDepth 20000 in
theorem tk_Ix : ∀ k, k < 9 → parseFieldDescriptor (tb_Ix k).2.2.1 = some (ty_Ix k) := by decide +kernel
def tb_Jo : u_T := fun k => match k with
  | 0 => ("StrataBase$Join", "values", "[I", true)
  | 1 => ("StrataBase$Join", "facts", "LStrataBase$Facts;", true)
  | 2 => ("StrataBase$Join", "indexes", "LStrataBase$Indexes;", true)
  | 3 => ("StrataBase$Join", "steps", "[LStrataBase$Step;", true)
  | 4 => ("StrataBase$Join", "stepCount", "I", false)
  | 5 => ("StrataBase$Join", "clauses", "LStrataBase$Clauses;", false)
  | 6 => ("StrataBase$Join", "head", "I", false)
  | 7 => ("StrataBase$Join", "rows", "LStrataBase$Rows;", false)
  | 8 => ("StrataBase$Join", "stage", "I", false)
  | 9 => ("StrataBase$Join", "output", "I", false)
  | _ => ("StrataBase$Join", "stopped", "Z", false)
def ty_Jo : Nat → FieldType := fun k => match k with
  | 0 => .array .int
  | 1 => .object "StrataBase$Facts"
  | 2 => .object "StrataBase$Indexes"
  | 3 => .array (.object "StrataBase$Step")
  | 4 => .int
  | 5 => .object "StrataBase$Clauses"
  | 6 => .int
  | 7 => .object "StrataBase$Rows"
  | 8 => .int
  | 9 => .int
  | _ => .boolean
set_option maxRecDepth 20000 in
theorem nm_Jo : ∀ a, a < 11 → ∀ b, b < 11 → a ≠ b → (tb_Jo a).2.1 ≠ (tb_Jo b).2.1 := by decide +kernel
set_option maxRecDepth 20000 in
theorem tk_Jo : ∀ k, k < 11 → parseFieldDescriptor (tb_Jo k).2.2.1 = some (ty_Jo k) := by decide +kernel
def tb_Na : u_T := fun k => match k with
  | 0 => ("StrataBase$Names", "size", "I", false)
  | 1 => ("StrataBase$Names", "starts", "[I", true)
  | 2 => ("StrataBase$Names", "lengths", "[I", true)
  | 3 => ("StrataBase$Names", "text", "[B", false)
  | _ => ("StrataBase$Names", "used", "I", false)
def ty_Na : Nat → FieldType := fun k => match k with
  | 0 => .int
  | 1 => .array .int
  | 2 => .array .int
  | 3 => .array .byte
  | _ => .int
set_option maxRecDepth 20000 in
theorem nm_Na : ∀ a, a < 5 → ∀ b, b < 5 → a ≠ b → (tb_Na a).2.1 ≠ (tb_Na b).2.1 := by decide +kernel
set_option maxRecDepth 20000 in
theorem tk_Na : ∀ k, k < 5 → parseFieldDescriptor (tb_Na k).2.2.1 = some (ty_Na k) := by decide +kernel
def tb_Pr : u_T := fun k => match k with
  | 0 => ("StrataBase$Program", "clauses", "LStrataBase$Clauses;", true)
  | 1 => ("StrataBase$Program", "predicates", "LStrataBase$Names;", true)
  | 2 => ("StrataBase$Program", "sizes", "[I", true)
  | 3 => ("StrataBase$Program", "strata", "[I", true)
  | 4 => ("StrataBase$Program", "constants", "LStrataBase$Constants;", true)
  | 5 => ("StrataBase$Program", "strataCount", "I", false)
  | _ => ("StrataBase$Program", "reached", "[J", true)
def ty_Pr : Nat → FieldType := fun k => match k with
  | 0 => .object "StrataBase$Clauses"
  | 1 => .object "StrataBase$Names"
  | 2 => .array .int
  | 3 => .array .int
  | 4 => .object "StrataBase$Constants"
  | 5 => .int
  | _ => .array .long
set_option maxRecDepth 20000 in
theorem nm_Pr : ∀ a, a < 7 → ∀ b, b < 7 → a ≠ b → (tb_Pr a).2.1 ≠ (tb_Pr b).2.1 := by decide +kernel
set_option maxRecDepth 20000 in
theorem tk_Pr : ∀ k, k < 7 → parseFieldDescriptor (tb_Pr k).2.2.1 = some (ty_Pr k) := by decide +kernel
def tb_Re : u_T := fun k => match k with
  | 0 => ("StrataBase$Reader", "code", "I", false)
  | 1 => ("StrataBase$Reader", "place", "I", false)
  | 2 => ("StrataBase$Reader", "variables", "LStrataBase$Names;", true)
  | 3 => ("StrataBase$Reader", "anonymous", "I", false)
  | 4 => ("StrataBase$Reader", "tokens", "LStrataBase$Tokens;", true)
  | 5 => ("StrataBase$Reader", "mode", "I", false)
  | 6 => ("StrataBase$Reader", "state", "I", false)
  | 7 => ("StrataBase$Reader", "program", "LStrataBase$Program;", false)
  | 8 => ("StrataBase$Reader", "target", "LStrataBase$Clauses;", false)
  | 9 => ("StrataBase$Reader", "bodySize", "I", false)
  | 10 => ("StrataBase$Reader", "inHead", "Z", false)
  | 11 => ("StrataBase$Reader", "foreign", "Z", false)
  | 12 => ("StrataBase$Reader", "nameStart", "I", false)
  | 13 => ("StrataBase$Reader", "nameStop", "I", false)
  | 14 => ("StrataBase$Reader", "positive", "I", false)
  | 15 => ("StrataBase$Reader", "needed", "[I", true)
  | 16 => ("StrataBase$Reader", "ownPredicates", "LStrataBase$Names;", true)
  | 17 => ("StrataBase$Reader", "ownSizes", "[I", true)
  | _ => ("StrataBase$Reader", "sides", "LStrataBase$Constants;", true)
def ty_Re : Nat → FieldType := fun k => match k with
  | 0 => .int
  | 1 => .int
  | 2 => .object "StrataBase$Names"
  | 3 => .int
  | 4 => .object "StrataBase$Tokens"
  | 5 => .int
  | 6 => .int
  | 7 => .object "StrataBase$Program"
  | 8 => .object "StrataBase$Clauses"
  | 9 => .int
  | 10 => .boolean
  | 11 => .boolean
  | 12 => .int
  | 13 => .int
  | 14 => .int
  | 15 => .array .int
  | 16 => .object "StrataBase$Names"
  | 17 => .array .int
  | _ => .object "StrataBase$Constants"
set_option maxRecDepth 20000 in
theorem nm_Re : ∀ a, a < 19 → ∀ b, b < 19 → a ≠ b → (tb_Re a).2.1 ≠ (tb_Re b).2.1 := by decide +kernel
set_option maxRecDepth 20000 in
theorem tk_Re : ∀ k, k < 19 → parseFieldDescriptor (tb_Re k).2.2.1 = some (ty_Re k) := by decide +kernel
def tb_Ro : u_T := fun k => match k with
  | 0 => ("StrataBase$Rows", "size", "I", false)
  | 1 => ("StrataBase$Rows", "width", "I", false)
  | 2 => ("StrataBase$Rows", "full", "Z", false)
  | 3 => ("StrataBase$Rows", "left", "[J", true)
  | 4 => ("StrataBase$Rows", "right", "[J", true)
  | _ => ("StrataBase$Rows", "variables", "[I", true)
def ty_Ro : Nat → FieldType := fun k => match k with
  | 0 => .int
  | 1 => .int
  | 2 => .boolean
  | 3 => .array .long
  | 4 => .array .long
  | _ => .array .int
set_option maxRecDepth 20000 in
theorem nm_Ro : ∀ a, a < 6 → ∀ b, b < 6 → a ≠ b → (tb_Ro a).2.1 ≠ (tb_Ro b).2.1 := by decide +kernel
set_option maxRecDepth 20000 in
theorem tk_Ro : ∀ k, k < 6 → parseFieldDescriptor (tb_Ro k).2.2.1 = some (ty_Ro k) := by decide +kernel
def tb_St : u_T := fun k => match k with
  | 0 => ("StrataBase$Step", "literal", "I", false)
  | 1 => ("StrataBase$Step", "scans", "Z", false)
  | 2 => ("StrataBase$Step", "freshOnly", "Z", false)
  | 3 => ("StrataBase$Step", "bound", "I", false)
  | 4 => ("StrataBase$Step", "live", "I", false)
  | 5 => ("StrataBase$Step", "soughtMask", "I", false)
  | 6 => ("StrataBase$Step", "givenMask", "I", false)
  | 7 => ("StrataBase$Step", "sought", "I", false)
  | 8 => ("StrataBase$Step", "width", "I", false)
  | 9 => ("StrataBase$Step", "predicate", "I", false)
  | 10 => ("StrataBase$Step", "ordered", "Z", false)
  | 11 => ("StrataBase$Step", "shape", "I", false)
  | 12 => ("StrataBase$Step", "fixed", "J", false)
  | 13 => ("StrataBase$Step", "from", "I", false)
  | 14 => ("StrataBase$Step", "to", "I", false)
  | 15 => ("StrataBase$Step", "roles", "[I", true)
  | _ => ("StrataBase$Step", "variables", "[I", true)
def ty_St : Nat → FieldType := fun k => match k with
  | 0 => .int
  | 1 => .boolean
  | 2 => .boolean
  | 3 => .int
  | 4 => .int
  | 5 => .int
  | 6 => .int
  | 7 => .int
  | 8 => .int
  | 9 => .int
  | 10 => .boolean
  | 11 => .int
  | 12 => .long
  | 13 => .int
  | 14 => .int
  | 15 => .array .int
  | _ => .array .int
set_option maxRecDepth 20000 in
theorem nm_St : ∀ a, a < 17 → ∀ b, b < 17 → a ≠ b → (tb_St a).2.1 ≠ (tb_St b).2.1 := by decide +kernel
set_option maxRecDepth 20000 in
theorem tk_St : ∀ k, k < 17 → parseFieldDescriptor (tb_St k).2.2.1 = some (ty_St k) := by decide +kernel
def tb_To : u_T := fun k => match k with
  | 0 => ("StrataBase$Tokens", "text", "[B", false)
  | 1 => ("StrataBase$Tokens", "kind", "I", false)
  | 2 => ("StrataBase$Tokens", "start", "I", false)
  | 3 => ("StrataBase$Tokens", "stop", "I", false)
  | 4 => ("StrataBase$Tokens", "value", "I", false)
  | _ => ("StrataBase$Tokens", "length", "I", false)
def ty_To : Nat → FieldType := fun k => match k with
  | 0 => .array .byte
  | 1 => .int
  | 2 => .int
  | 3 => .int
  | 4 => .int
  | _ => .int
set_option maxRecDepth 20000 in
theorem nm_To : ∀ a, a < 6 → ∀ b, b < 6 → a ≠ b → (tb_To a).2.1 ≠ (tb_To b).2.1 := by decide +kernel
set_option maxRecDepth 20000 in
theorem tk_To : ∀ k, k < 6 → parseFieldDescriptor (tb_To k).2.2.1 = some (ty_To k) := by decide +kernel
def tb_Mo : u_T := fun k => match k with
  | 0 => ("StrataBaseModel", "code", "I", false)
  | 1 => ("StrataBaseModel", "tape", "[B", true)
  | 2 => ("StrataBaseModel", "length", "I", false)
  | 3 => ("StrataBaseModel", "faultCode", "I", false)
  | 4 => ("StrataBaseModel", "faultPlace", "I", false)
  | 5 => ("StrataBaseModel", "text", "[B", true)
  | 6 => ("StrataBaseModel", "live", "I", false)
  | 7 => ("StrataBaseModel", "set", "I", false)
  | 8 => ("StrataBaseModel", "predFrom", "[I", true)
  | 9 => ("StrataBaseModel", "predLength", "[I", true)
  | 10 => ("StrataBaseModel", "predArity", "[I", true)
  | 11 => ("StrataBaseModel", "preds", "[I", true)
  | 12 => ("StrataBaseModel", "conNumber", "[Z", true)
  | 13 => ("StrataBaseModel", "conValue", "[I", true)
  | 14 => ("StrataBaseModel", "conFrom", "[I", true)
  | 15 => ("StrataBaseModel", "cons", "[I", true)
  | 16 => ("StrataBaseModel", "clauses", "[I", true)
  | 17 => ("StrataBaseModel", "litCount", "[I", true)
  | 18 => ("StrataBaseModel", "litKind", "[I", true)
  | 19 => ("StrataBaseModel", "litPred", "[I", true)
  | 20 => ("StrataBaseModel", "litTerms", "[I", true)
  | 21 => ("StrataBaseModel", "varCount", "[I", true)
  | 22 => ("StrataBaseModel", "litPlace", "[I", true)
  | 23 => ("StrataBaseModel", "notPlace", "[I", true)
  | 24 => ("StrataBaseModel", "termPlace", "[I", true)
  | 25 => ("StrataBaseModel", "litArity", "[I", true)
  | 26 => ("StrataBaseModel", "varFrom", "[I", true)
  | 27 => ("StrataBaseModel", "varLength", "[I", true)
  | 28 => ("StrataBaseModel", "base", "I", false)
  | 29 => ("StrataBaseModel", "stop", "I", false)
  | 30 => ("StrataBaseModel", "token", "I", false)
  | 31 => ("StrataBaseModel", "from", "I", false)
  | 32 => ("StrataBaseModel", "to", "I", false)
  | 33 => ("StrataBaseModel", "amount", "J", false)
  | 34 => ("StrataBaseModel", "clause", "I", false)
  | 35 => ("StrataBaseModel", "asks", "Z", false)
  | 36 => ("StrataBaseModel", "conAll", "I", false)
  | 37 => ("StrataBaseModel", "vars", "I", false)
  | 38 => ("StrataBaseModel", "wrongCode", "I", false)
  | 39 => ("StrataBaseModel", "wrongPlace", "I", false)
  | 40 => ("StrataBaseModel", "depends", "[Z", true)
  | 41 => ("StrataBaseModel", "strata", "[I", true)
  | 42 => ("StrataBaseModel", "highest", "I", false)
  | 43 => ("StrataBaseModel", "ran", "Z", false)
  | 44 => ("StrataBaseModel", "factPred", "[I", true)
  | 45 => ("StrataBaseModel", "factTerms", "[I", true)
  | 46 => ("StrataBaseModel", "factStage", "[I", true)
  | 47 => ("StrataBaseModel", "facts", "I", false)
  | 48 => ("StrataBaseModel", "lastStage", "I", false)
  | 49 => ("StrataBaseModel", "table", "[I", true)
  | 50 => ("StrataBaseModel", "sought", "[I", true)
  | 51 => ("StrataBaseModel", "place", "I", false)
  | 52 => ("StrataBaseModel", "values", "[I", true)
  | 53 => ("StrataBaseModel", "boundBy", "[I", true)
  | 54 => ("StrataBaseModel", "atoms", "[I", true)
  | 55 => ("StrataBaseModel", "at", "[I", true)
  | 56 => ("StrataBaseModel", "atomCount", "I", false)
  | 57 => ("StrataBaseModel", "rowCells", "[I", true)
  | 58 => ("StrataBaseModel", "rows", "I", false)
  | 59 => ("StrataBaseModel", "width", "I", false)
  | 60 => ("StrataBaseModel", "newCells", "[I", true)
  | 61 => ("StrataBaseModel", "newRows", "I", false)
  | 62 => ("StrataBaseModel", "newWidth", "I", false)
  | _ => ("StrataBaseModel", "newColumns", "[I", true)
def ty_Mo : Nat → FieldType := fun k => match k with
  | 0 => .int
  | 1 => .array .byte
  | 2 => .int
  | 3 => .int
  | 4 => .int
  | 5 => .array .byte
  | 6 => .int
  | 7 => .int
  | 8 => .array .int
  | 9 => .array .int
  | 10 => .array .int
  | 11 => .array .int
  | 12 => .array .boolean
  | 13 => .array .int
  | 14 => .array .int
  | 15 => .array .int
  | 16 => .array .int
  | 17 => .array .int
  | 18 => .array .int
  | 19 => .array .int
  | 20 => .array .int
  | 21 => .array .int
  | 22 => .array .int
  | 23 => .array .int
  | 24 => .array .int
  | 25 => .array .int
  | 26 => .array .int
  | 27 => .array .int
  | 28 => .int
  | 29 => .int
  | 30 => .int
  | 31 => .int
  | 32 => .int
  | 33 => .long
  | 34 => .int
  | 35 => .boolean
  | 36 => .int
  | 37 => .int
  | 38 => .int
  | 39 => .int
  | 40 => .array .boolean
  | 41 => .array .int
  | 42 => .int
  | 43 => .boolean
  | 44 => .array .int
  | 45 => .array .int
  | 46 => .array .int
  | 47 => .int
  | 48 => .int
  | 49 => .array .int
  | 50 => .array .int
  | 51 => .int
  | 52 => .array .int
  | 53 => .array .int
  | 54 => .array .int
  | 55 => .array .int
  | 56 => .int
  | 57 => .array .int
  | 58 => .int
  | 59 => .int
  | 60 => .array .int
  | 61 => .int
  | 62 => .int
  | _ => .array .int
set_option maxRecDepth 20000 in
theorem nm_Mo : ∀ a, a < 64 → ∀ b, b < 64 → a ≠ b → (tb_Mo a).2.1 ≠ (tb_Mo b).2.1 := by decide +kernel
set_option maxRecDepth 20000 in
theorem tk_Mo : ∀ k, k < 64 → parseFieldDescriptor (tb_Mo k).2.2.1 = some (ty_Mo k) := by decide +kernel
abbrev vwCl : List vw_C := [("StrataBase", tb_SB, 13), ("StrataBase$Clauses", tb_Cl, 9), ("StrataBase$Constants", tb_Co, 4), ("StrataBase$Facts", tb_Fa, 14), ("StrataBase$Indexes", tb_Ix, 9), ("StrataBase$Join", tb_Jo, 11), ("StrataBase$Names", tb_Na, 5), ("StrataBase$Program", tb_Pr, 7), ("StrataBase$Reader", tb_Re, 19), ("StrataBase$Rows", tb_Ro, 6), ("StrataBase$Step", tb_St, 17), ("StrataBase$Tokens", tb_To, 6), ("StrataBaseModel", tb_Mo, 64)]
abbrev cd_SB_init : ByteArray := prog_1_method_1_code
abbrev my_SB_init : MethodName := ⟨"StrataBase", "<init>", "()V"⟩
abbrev cd_Ob_init : ByteArray := object_method_1_code
abbrev my_Ob_init : MethodName := ⟨"java/lang/Object", "<init>", "()V"⟩
abbrev cd_Pr_init : ByteArray := prog_8_method_1_code
abbrev my_Pr_init : MethodName := ⟨"StrataBase$Program", "<init>", "()V"⟩
abbrev cd_Cl_init : ByteArray := prog_2_method_1_code
abbrev my_Cl_init : MethodName := ⟨"StrataBase$Clauses", "<init>", "(I)V"⟩
abbrev cd_Na_init : ByteArray := prog_7_method_1_code
abbrev my_Na_init : MethodName := ⟨"StrataBase$Names", "<init>", "(I)V"⟩
abbrev cd_Co_init : ByteArray := prog_3_method_1_code
abbrev my_Co_init : MethodName := ⟨"StrataBase$Constants", "<init>", "(I)V"⟩
abbrev cd_Re_init : ByteArray := prog_9_method_1_code
abbrev my_Re_init : MethodName := ⟨"StrataBase$Reader", "<init>", "()V"⟩
abbrev cd_To_init : ByteArray := prog_12_method_1_code
abbrev my_To_init : MethodName := ⟨"StrataBase$Tokens", "<init>", "()V"⟩
abbrev cd_Fa_init : ByteArray := prog_4_method_1_code
abbrev my_Fa_init : MethodName := ⟨"StrataBase$Facts", "<init>", "()V"⟩
abbrev cd_Jo_init : ByteArray := prog_6_method_1_code
abbrev my_Jo_init : MethodName := ⟨"StrataBase$Join", "<init>", "(LStrataBase$Facts;)V"⟩
abbrev cd_Ix_init : ByteArray := prog_5_method_1_code
abbrev my_Ix_init : MethodName := ⟨"StrataBase$Indexes", "<init>", "()V"⟩
abbrev cd_St_init : ByteArray := prog_11_method_1_code
abbrev my_St_init : MethodName := ⟨"StrataBase$Step", "<init>", "()V"⟩
abbrev cd_Ro_init : ByteArray := prog_10_method_1_code
abbrev my_Ro_init : MethodName := ⟨"StrataBase$Rows", "<init>", "()V"⟩
abbrev cd_SB_load : ByteArray := prog_1_method_4_code
abbrev my_SB_load : MethodName := ⟨"StrataBase", "load", "()I"⟩
abbrev cd_Re_read : ByteArray := prog_9_method_2_code
abbrev my_Re_read : MethodName := ⟨"StrataBase$Reader", "read", "(I[BILStrataBase$Program;LStrataBase$Clauses;)V"⟩
abbrev cd_To_open : ByteArray := prog_12_method_2_code
abbrev my_To_open : MethodName := ⟨"StrataBase$Tokens", "open", "([BI)V"⟩
abbrev cd_Re_begin : ByteArray := prog_9_method_3_code
abbrev my_Re_begin : MethodName := ⟨"StrataBase$Reader", "begin", "()V"⟩
abbrev cd_Cl_clear : ByteArray := prog_2_method_2_code
abbrev my_Cl_clear : MethodName := ⟨"StrataBase$Clauses", "clear", "()V"⟩
abbrev cd_Na_clear : ByteArray := prog_7_method_2_code
abbrev my_Na_clear : MethodName := ⟨"StrataBase$Names", "clear", "()V"⟩
abbrev cd_Re_beginBody : ByteArray := prog_9_method_9_code
abbrev my_Re_beginBody : MethodName := ⟨"StrataBase$Reader", "beginBody", "()V"⟩
abbrev cd_Pr_clear : ByteArray := prog_8_method_2_code
abbrev my_Pr_clear : MethodName := ⟨"StrataBase$Program", "clear", "()V"⟩
abbrev cd_Co_clear : ByteArray := prog_3_method_2_code
abbrev my_Co_clear : MethodName := ⟨"StrataBase$Constants", "clear", "()V"⟩
abbrev cd_Ar_fill : ByteArray := prog_26_method_103_code
abbrev my_Ar_fill : MethodName := ⟨"java/util/Arrays", "fill", "([II)V"⟩
abbrev cd_Cl_open : ByteArray := prog_2_method_4_code
abbrev my_Cl_open : MethodName := ⟨"StrataBase$Clauses", "open", "(II)V"⟩
abbrev cd_To_next : ByteArray := prog_12_method_3_code
abbrev my_To_next : MethodName := ⟨"StrataBase$Tokens", "next", "()V"⟩
abbrev cd_To_skipBlanks : ByteArray := prog_12_method_7_code
abbrev my_To_skipBlanks : MethodName := ⟨"StrataBase$Tokens", "skipBlanks", "()V"⟩
abbrev cd_To_isBlank : ByteArray := prog_12_method_13_code
abbrev my_To_isBlank : MethodName := ⟨"StrataBase$Tokens", "isBlank", "(I)Z"⟩
abbrev cd_To_isWordByte : ByteArray := prog_12_method_16_code
abbrev my_To_isWordByte : MethodName := ⟨"StrataBase$Tokens", "isWordByte", "(I)Z"⟩
abbrev cd_To_isSmall : ByteArray := prog_12_method_15_code
abbrev my_To_isSmall : MethodName := ⟨"StrataBase$Tokens", "isSmall", "(I)Z"⟩
abbrev cd_To_isDigit : ByteArray := prog_12_method_14_code
abbrev my_To_isDigit : MethodName := ⟨"StrataBase$Tokens", "isDigit", "(I)Z"⟩
abbrev cd_To_readWord : ByteArray := prog_12_method_8_code
abbrev my_To_readWord : MethodName := ⟨"StrataBase$Tokens", "readWord", "()V"⟩
abbrev cd_To_isNot : ByteArray := prog_12_method_9_code
abbrev my_To_isNot : MethodName := ⟨"StrataBase$Tokens", "isNot", "()Z"⟩
abbrev cd_To_readNumber : ByteArray := prog_12_method_10_code
abbrev my_To_readNumber : MethodName := ⟨"StrataBase$Tokens", "readNumber", "()V"⟩
abbrev cd_Ma_min : ByteArray := prog_21_method_70_code
abbrev my_Ma_min : MethodName := ⟨"java/lang/Math", "min", "(JJ)J"⟩
abbrev cd_To_readSign : ByteArray := prog_12_method_11_code
abbrev my_To_readSign : MethodName := ⟨"StrataBase$Tokens", "readSign", "()V"⟩
abbrev cd_To_takes : ByteArray := prog_12_method_12_code
abbrev my_To_takes : MethodName := ⟨"StrataBase$Tokens", "takes", "(I)Z"⟩
abbrev cd_Re_settleBefore : ByteArray := prog_9_method_4_code
abbrev my_Re_settleBefore : MethodName := ⟨"StrataBase$Reader", "settleBefore", "()V"⟩
abbrev cd_Re_decideName : ByteArray := prog_9_method_18_code
abbrev my_Re_decideName : MethodName := ⟨"StrataBase$Reader", "decideName", "()V"⟩
abbrev cd_To_isComparison : ByteArray := prog_12_method_4_code
abbrev my_To_isComparison : MethodName := ⟨"StrataBase$Tokens", "isComparison", "()Z"⟩
abbrev cd_Re_openComparison : ByteArray := prog_9_method_19_code
abbrev my_Re_openComparison : MethodName := ⟨"StrataBase$Reader", "openComparison", "(I)V"⟩
abbrev cd_Re_addSideConstant : ByteArray := prog_9_method_28_code
abbrev my_Re_addSideConstant : MethodName := ⟨"StrataBase$Reader", "addSideConstant", "(IIII)V"⟩
abbrev cd_Co_intern : ByteArray := prog_3_method_5_code
abbrev my_Co_intern : MethodName := ⟨"StrataBase$Constants", "intern", "([BIII)I"⟩
abbrev cd_Co_search : ByteArray := prog_3_method_4_code
abbrev my_Co_search : MethodName := ⟨"StrataBase$Constants", "search", "([BIII)I"⟩
abbrev cd_Na_compare : ByteArray := prog_7_method_7_code
abbrev my_Na_compare : MethodName := ⟨"StrataBase$Names", "compare", "(I[BII)I"⟩
abbrev cd_In_compare : ByteArray := prog_20_method_40_code
abbrev my_In_compare : MethodName := ⟨"java/lang/Integer", "compare", "(II)I"⟩
abbrev cd_Na_add : ByteArray := prog_7_method_4_code
abbrev my_Na_add : MethodName := ⟨"StrataBase$Names", "add", "([BII)I"⟩
abbrev cd_Ma_max : ByteArray := prog_21_method_65_code
abbrev my_Ma_max : MethodName := ⟨"java/lang/Math", "max", "(II)I"⟩
abbrev cd_Ar_copyOf : ByteArray := prog_26_method_121_code
abbrev my_Ar_copyOf : MethodName := ⟨"java/util/Arrays", "copyOf", "([BI)[B"⟩
abbrev cd_Ma_min2 : ByteArray := prog_21_method_69_code
abbrev my_Ma_min2 : MethodName := ⟨"java/lang/Math", "min", "(II)I"⟩
abbrev cd_Cl_codeOfRank : ByteArray := prog_2_method_12_code
abbrev my_Cl_codeOfRank : MethodName := ⟨"StrataBase$Clauses", "codeOfRank", "(I)I"⟩
abbrev cd_Re_addConstant : ByteArray := prog_9_method_29_code
abbrev my_Re_addConstant : MethodName := ⟨"StrataBase$Reader", "addConstant", "(III)V"⟩
abbrev cd_Re_stop : ByteArray := prog_9_method_6_code
abbrev my_Re_stop : MethodName := ⟨"StrataBase$Reader", "stop", "(II)V"⟩
abbrev cd_Cl_add : ByteArray := prog_2_method_6_code
abbrev my_Cl_add : MethodName := ⟨"StrataBase$Clauses", "add", "(I)V"⟩
abbrev cd_Cl_setTerm : ByteArray := prog_2_method_8_code
abbrev my_Cl_setTerm : MethodName := ⟨"StrataBase$Clauses", "setTerm", "(III)V"⟩
abbrev cd_Re_namePredicate : ByteArray := prog_9_method_13_code
abbrev my_Re_namePredicate : MethodName := ⟨"StrataBase$Reader", "namePredicate", "()V"⟩
abbrev cd_Na_find : ByteArray := prog_7_method_3_code
abbrev my_Na_find : MethodName := ⟨"StrataBase$Names", "find", "([BII)I"⟩
abbrev cd_Cl_newest : ByteArray := prog_2_method_5_code
abbrev my_Cl_newest : MethodName := ⟨"StrataBase$Clauses", "newest", "()I"⟩
abbrev cd_Re_closeAtom : ByteArray := prog_9_method_30_code
abbrev my_Re_closeAtom : MethodName := ⟨"StrataBase$Reader", "closeAtom", "()V"⟩
abbrev cd_Re_checkSize : ByteArray := prog_9_method_31_code
abbrev my_Re_checkSize : MethodName := ⟨"StrataBase$Reader", "checkSize", "(I)V"⟩
abbrev cd_Re_checkOwnSize : ByteArray := prog_9_method_32_code
abbrev my_Re_checkOwnSize : MethodName := ⟨"StrataBase$Reader", "checkOwnSize", "(I)V"⟩
abbrev cd_Re_note : ByteArray := prog_9_method_8_code
abbrev my_Re_note : MethodName := ⟨"StrataBase$Reader", "note", "(II)V"⟩
abbrev cd_Re_beginClause : ByteArray := prog_9_method_10_code
abbrev my_Re_beginClause : MethodName := ⟨"StrataBase$Reader", "beginClause", "()V"⟩
abbrev cd_Re_refuse : ByteArray := prog_9_method_7_code
abbrev my_Re_refuse : MethodName := ⟨"StrataBase$Reader", "refuse", "()V"⟩
abbrev cd_Re_readPredicate : ByteArray := prog_9_method_11_code
abbrev my_Re_readPredicate : MethodName := ⟨"StrataBase$Reader", "readPredicate", "()V"⟩
abbrev cd_Re_markName : ByteArray := prog_9_method_12_code
abbrev my_Re_markName : MethodName := ⟨"StrataBase$Reader", "markName", "()V"⟩
abbrev cd_Re_readTerm : ByteArray := prog_9_method_14_code
abbrev my_Re_readTerm : MethodName := ⟨"StrataBase$Reader", "readTerm", "()V"⟩
abbrev cd_To_isConstant : ByteArray := prog_12_method_5_code
abbrev my_To_isConstant : MethodName := ⟨"StrataBase$Tokens", "isConstant", "()Z"⟩
abbrev cd_Re_addVariable : ByteArray := prog_9_method_26_code
abbrev my_Re_addVariable : MethodName := ⟨"StrataBase$Reader", "addVariable", "(I)V"⟩
abbrev cd_Re_addAtomConstant : ByteArray := prog_9_method_27_code
abbrev my_Re_addAtomConstant : MethodName := ⟨"StrataBase$Reader", "addAtomConstant", "()V"⟩
abbrev cd_To_nameLength : ByteArray := prog_12_method_6_code
abbrev my_To_nameLength : MethodName := ⟨"StrataBase$Tokens", "nameLength", "()I"⟩
abbrev cd_Re_readTermEnd : ByteArray := prog_9_method_15_code
abbrev my_Re_readTermEnd : MethodName := ⟨"StrataBase$Reader", "readTermEnd", "()V"⟩
abbrev cd_Re_readHeadEnd : ByteArray := prog_9_method_16_code
abbrev my_Re_readHeadEnd : MethodName := ⟨"StrataBase$Reader", "readHeadEnd", "()V"⟩
abbrev cd_Re_closeClause : ByteArray := prog_9_method_33_code
abbrev my_Re_closeClause : MethodName := ⟨"StrataBase$Reader", "closeClause", "()V"⟩
abbrev cd_Cl_close : ByteArray := prog_2_method_3_code
abbrev my_Cl_close : MethodName := ⟨"StrataBase$Clauses", "close", "()V"⟩
abbrev cd_Re_beginLiteral : ByteArray := prog_9_method_17_code
abbrev my_Re_beginLiteral : MethodName := ⟨"StrataBase$Reader", "beginLiteral", "()V"⟩
abbrev cd_Re_addSide : ByteArray := prog_9_method_25_code
abbrev my_Re_addSide : MethodName := ⟨"StrataBase$Reader", "addSide", "(I)V"⟩
abbrev cd_Re_readComparison : ByteArray := prog_9_method_20_code
abbrev my_Re_readComparison : MethodName := ⟨"StrataBase$Reader", "readComparison", "()V"⟩
abbrev cd_Re_readRightSide : ByteArray := prog_9_method_21_code
abbrev my_Re_readRightSide : MethodName := ⟨"StrataBase$Reader", "readRightSide", "()V"⟩
abbrev cd_Re_compareSides : ByteArray := prog_9_method_22_code
abbrev my_Re_compareSides : MethodName := ⟨"StrataBase$Reader", "compareSides", "()V"⟩
abbrev cd_Co_setRanks : ByteArray := prog_3_method_6_code
abbrev my_Co_setRanks : MethodName := ⟨"StrataBase$Constants", "setRanks", "()V"⟩
abbrev cd_Co_rankOf : ByteArray := prog_3_method_7_code
abbrev my_Co_rankOf : MethodName := ⟨"StrataBase$Constants", "rankOf", "(I)I"⟩
abbrev cd_Co_size : ByteArray := prog_3_method_3_code
abbrev my_Co_size : MethodName := ⟨"StrataBase$Constants", "size", "()I"⟩
abbrev cd_Re_readLiteralEnd : ByteArray := prog_9_method_23_code
abbrev my_Re_readLiteralEnd : MethodName := ⟨"StrataBase$Reader", "readLiteralEnd", "()V"⟩
abbrev cd_Re_expectEnd : ByteArray := prog_9_method_24_code
abbrev my_Re_expectEnd : MethodName := ⟨"StrataBase$Reader", "expectEnd", "()V"⟩
abbrev cd_Re_checkCycle : ByteArray := prog_9_method_5_code
abbrev my_Re_checkCycle : MethodName := ⟨"StrataBase$Reader", "checkCycle", "()V"⟩
abbrev cd_Pr_placeOfCycle : ByteArray := prog_8_method_4_code
abbrev my_Pr_placeOfCycle : MethodName := ⟨"StrataBase$Program", "placeOfCycle", "()I"⟩
abbrev cd_Pr_findReached : ByteArray := prog_8_method_6_code
abbrev my_Pr_findReached : MethodName := ⟨"StrataBase$Program", "findReached", "()V"⟩
abbrev cd_Pr_headOf : ByteArray := prog_8_method_3_code
abbrev my_Pr_headOf : MethodName := ⟨"StrataBase$Program", "headOf", "(I)I"⟩
abbrev cd_SB_forgetTape : ByteArray := prog_1_method_16_code
abbrev my_SB_forgetTape : MethodName := ⟨"StrataBase", "forgetTape", "()V"⟩
abbrev cd_Pr_settle : ByteArray := prog_8_method_5_code
abbrev my_Pr_settle : MethodName := ⟨"StrataBase$Program", "settle", "()V"⟩
abbrev cd_Pr_settleTerms : ByteArray := prog_8_method_7_code
abbrev my_Pr_settleTerms : MethodName := ⟨"StrataBase$Program", "settleTerms", "(I)V"⟩
abbrev cd_Cl_term : ByteArray := prog_2_method_7_code
abbrev my_Cl_term : MethodName := ⟨"StrataBase$Clauses", "term", "(II)I"⟩
abbrev cd_Pr_raiseStrata : ByteArray := prog_8_method_8_code
abbrev my_Pr_raiseStrata : MethodName := ⟨"StrataBase$Program", "raiseStrata", "()Z"⟩
abbrev cd_Ro_open : ByteArray := prog_10_method_2_code
abbrev my_Ro_open : MethodName := ⟨"StrataBase$Rows", "open", "(II)V"⟩
abbrev cd_SB_fault : ByteArray := prog_1_method_5_code
abbrev my_SB_fault : MethodName := ⟨"StrataBase", "fault", "()I"⟩
abbrev cd_SB_columns : ByteArray := prog_1_method_8_code
abbrev my_SB_columns : MethodName := ⟨"StrataBase", "columns", "()I"⟩
abbrev cd_SB_stratum : ByteArray := prog_1_method_13_code
abbrev my_SB_stratum : MethodName := ⟨"StrataBase", "stratum", "()I"⟩
abbrev cd_Lw_feed : ByteArray := method_3_code
abbrev my_Lw_feed : MethodName := ⟨"StrataBaseLaw", "feed", "(LStrataBase;IIIII[J)I"⟩
abbrev cd_SB_feed : ByteArray := prog_1_method_2_code
abbrev my_SB_feed : MethodName := ⟨"StrataBase", "feed", "(IIIII)I"⟩
abbrev cd_Th_init : ByteArray := prog_24_method_1_code
abbrev my_Th_init : MethodName := ⟨"java/lang/Throwable", "<init>", "()V"⟩
abbrev cd_Th_fillInStackTrace : ByteArray := prog_24_method_18_code
abbrev my_Th_fillInStackTrace : MethodName := ⟨"java/lang/Throwable", "fillInStackTrace", "()Ljava/lang/Throwable;"⟩
abbrev cd_SB_putBytes : ByteArray := prog_1_method_15_code
abbrev my_SB_putBytes : MethodName := ⟨"StrataBase", "putBytes", "(I)V"⟩
abbrev cd_Lw_end : ByteArray := method_4_code
abbrev my_Lw_end : MethodName := ⟨"StrataBaseLaw", "end", "(LStrataBase;I)I"⟩
abbrev cd_SB_end : ByteArray := prog_1_method_3_code
abbrev my_SB_end : MethodName := ⟨"StrataBase", "end", "(I)V"⟩
abbrev cd_Lw_run : ByteArray := method_5_code
abbrev my_Lw_run : MethodName := ⟨"StrataBaseLaw", "run", "(LStrataBase;[J)I"⟩
abbrev cd_SB_run : ByteArray := prog_1_method_6_code
abbrev my_SB_run : MethodName := ⟨"StrataBase", "run", "()I"⟩
abbrev cd_Fa_clear : ByteArray := prog_4_method_4_code
abbrev my_Fa_clear : MethodName := ⟨"StrataBase$Facts", "clear", "()V"⟩
abbrev cd_Jo_forgetIndexes : ByteArray := prog_6_method_2_code
abbrev my_Jo_forgetIndexes : MethodName := ⟨"StrataBase$Join", "forgetIndexes", "()V"⟩
abbrev cd_Ix_clear : ByteArray := prog_5_method_2_code
abbrev my_Ix_clear : MethodName := ⟨"StrataBase$Indexes", "clear", "()V"⟩
abbrev cd_Jo_closeStratum : ByteArray := prog_6_method_4_code
abbrev my_Jo_closeStratum : MethodName := ⟨"StrataBase$Join", "closeStratum", "(LStrataBase$Program;I)V"⟩
abbrev cd_Jo_addPlainFacts : ByteArray := prog_6_method_5_code
abbrev my_Jo_addPlainFacts : MethodName := ⟨"StrataBase$Join", "addPlainFacts", "(LStrataBase$Program;I)V"⟩
abbrev cd_Cl_hasBody : ByteArray := prog_2_method_9_code
abbrev my_Cl_hasBody : MethodName := ⟨"StrataBase$Clauses", "hasBody", "(I)Z"⟩
abbrev cd_Cl_keyOf : ByteArray := prog_2_method_10_code
abbrev my_Cl_keyOf : MethodName := ⟨"StrataBase$Clauses", "keyOf", "(I[I)J"⟩
abbrev cd_Fa_shiftOf : ByteArray := prog_4_method_2_code
abbrev my_Fa_shiftOf : MethodName := ⟨"StrataBase$Facts", "shiftOf", "(I)I"⟩
abbrev cd_Fa_add : ByteArray := prog_4_method_7_code
abbrev my_Fa_add : MethodName := ⟨"StrataBase$Facts", "add", "(IJI)V"⟩
abbrev cd_Fa_slotOf : ByteArray := prog_4_method_14_code
abbrev my_Fa_slotOf : MethodName := ⟨"StrataBase$Facts", "slotOf", "(IJ)I"⟩
abbrev cd_Fa_mark : ByteArray := prog_4_method_8_code
abbrev my_Fa_mark : MethodName := ⟨"StrataBase$Facts", "mark", "()V"⟩
abbrev cd_Jo_startsWork : ByteArray := prog_6_method_6_code
abbrev my_Jo_startsWork : MethodName := ⟨"StrataBase$Join", "startsWork", "(LStrataBase$Program;II)Z"⟩
abbrev cd_Fa_hasFresh : ByteArray := prog_4_method_9_code
abbrev my_Fa_hasFresh : MethodName := ⟨"StrataBase$Facts", "hasFresh", "(I)Z"⟩
abbrev cd_Jo_work : ByteArray := prog_6_method_7_code
abbrev my_Jo_work : MethodName := ⟨"StrataBase$Join", "work", "(III)V"⟩
abbrev cd_Jo_lacksFacts : ByteArray := prog_6_method_8_code
abbrev my_Jo_lacksFacts : MethodName := ⟨"StrataBase$Join", "lacksFacts", "(II)Z"⟩
abbrev cd_Fa_isEmpty : ByteArray := prog_4_method_10_code
abbrev my_Fa_isEmpty : MethodName := ⟨"StrataBase$Facts", "isEmpty", "(I)Z"⟩
abbrev cd_Jo_arrange : ByteArray := prog_6_method_9_code
abbrev my_Jo_arrange : MethodName := ⟨"StrataBase$Join", "arrange", "(III)V"⟩
abbrev cd_Jo_nextLiteral : ByteArray := prog_6_method_10_code
abbrev my_Jo_nextLiteral : MethodName := ⟨"StrataBase$Join", "nextLiteral", "(III)I"⟩
abbrev cd_Jo_costOf : ByteArray := prog_6_method_11_code
abbrev my_Jo_costOf : MethodName := ⟨"StrataBase$Join", "costOf", "(II)I"⟩
abbrev cd_Jo_prepare : ByteArray := prog_6_method_12_code
abbrev my_Jo_prepare : MethodName := ⟨"StrataBase$Join", "prepare", "()V"⟩
abbrev cd_St_setShape : ByteArray := prog_11_method_2_code
abbrev my_St_setShape : MethodName := ⟨"StrataBase$Step", "setShape", "(LStrataBase$Clauses;)V"⟩
abbrev cd_St_givePositions : ByteArray := prog_11_method_7_code
abbrev my_St_givePositions : MethodName := ⟨"StrataBase$Step", "givePositions", "(LStrataBase$Clauses;II)V"⟩
abbrev cd_St_firstColumnOf : ByteArray := prog_11_method_9_code
abbrev my_St_firstColumnOf : MethodName := ⟨"StrataBase$Step", "firstColumnOf", "(LStrataBase$Clauses;I)I"⟩
abbrev cd_St_setOtherRole : ByteArray := prog_11_method_8_code
abbrev my_St_setOtherRole : MethodName := ⟨"StrataBase$Step", "setOtherRole", "(LStrataBase$Clauses;I)V"⟩
abbrev cd_St_setIndex : ByteArray := prog_11_method_3_code
abbrev my_St_setIndex : MethodName := ⟨"StrataBase$Step", "setIndex", "(I)V"⟩
abbrev cd_Ix_makeRoom : ByteArray := prog_5_method_3_code
abbrev my_Ix_makeRoom : MethodName := ⟨"StrataBase$Indexes", "makeRoom", "(I)V"⟩
abbrev cd_Ix_provide : ByteArray := prog_5_method_4_code
abbrev my_Ix_provide : MethodName := ⟨"StrataBase$Indexes", "provide", "(LStrataBase$Step;LStrataBase$Facts;)V"⟩
abbrev cd_Fa_firstOf : ByteArray := prog_4_method_11_code
abbrev my_Fa_firstOf : MethodName := ⟨"StrataBase$Facts", "firstOf", "(IZ)I"⟩
abbrev cd_Fa_lastOf : ByteArray := prog_4_method_12_code
abbrev my_Fa_lastOf : MethodName := ⟨"StrataBase$Facts", "lastOf", "(I)I"⟩
abbrev cd_Ix_collect : ByteArray := prog_5_method_7_code
abbrev my_Ix_collect : MethodName := ⟨"StrataBase$Indexes", "collect", "(LStrataBase$Step;LStrataBase$Facts;II)V"⟩
abbrev cd_St_project : ByteArray := prog_11_method_6_code
abbrev my_St_project : MethodName := ⟨"StrataBase$Step", "project", "(J)J"⟩
abbrev cd_Fa_rankIn : ByteArray := prog_4_method_3_code
abbrev my_Fa_rankIn : MethodName := ⟨"StrataBase$Facts", "rankIn", "(JI)I"⟩
abbrev cd_Fa_after : ByteArray := prog_4_method_13_code
abbrev my_Fa_after : MethodName := ⟨"StrataBase$Facts", "after", "(I)I"⟩
abbrev cd_Ix_sort : ByteArray := prog_5_method_8_code
abbrev my_Ix_sort : MethodName := ⟨"StrataBase$Indexes", "sort", "(I)V"⟩
abbrev cd_Ix_dropEquals : ByteArray := prog_5_method_9_code
abbrev my_Ix_dropEquals : MethodName := ⟨"StrataBase$Indexes", "dropEquals", "(I)V"⟩
abbrev cd_Jo_solve : ByteArray := prog_6_method_13_code
abbrev my_Jo_solve : MethodName := ⟨"StrataBase$Join", "solve", "(I)I"⟩
abbrev cd_Jo_holds : ByteArray := prog_6_method_15_code
abbrev my_Jo_holds : MethodName := ⟨"StrataBase$Join", "holds", "(I)Z"⟩
abbrev cd_Cl_compares : ByteArray := prog_2_method_13_code
abbrev my_Cl_compares : MethodName := ⟨"StrataBase$Clauses", "compares", "(I[I)Z"⟩
abbrev cd_Cl_orderCode : ByteArray := prog_2_method_11_code
abbrev my_Cl_orderCode : MethodName := ⟨"StrataBase$Clauses", "orderCode", "(II[I)I"⟩
abbrev cd_Fa_isVisible : ByteArray := prog_4_method_6_code
abbrev my_Fa_isVisible : MethodName := ⟨"StrataBase$Facts", "isVisible", "(IJ)Z"⟩
abbrev cd_Jo_scan : ByteArray := prog_6_method_14_code
abbrev my_Jo_scan : MethodName := ⟨"StrataBase$Join", "scan", "(I)I"⟩
abbrev cd_St_soughtKey : ByteArray := prog_11_method_4_code
abbrev my_St_soughtKey : MethodName := ⟨"StrataBase$Step", "soughtKey", "([I)J"⟩
abbrev cd_Ix_seek : ByteArray := prog_5_method_6_code
abbrev my_Ix_seek : MethodName := ⟨"StrataBase$Indexes", "seek", "(IIJ)I"⟩
abbrev cd_Ix_at : ByteArray := prog_5_method_5_code
abbrev my_Ix_at : MethodName := ⟨"StrataBase$Indexes", "at", "(I)J"⟩
abbrev cd_St_give : ByteArray := prog_11_method_5_code
abbrev my_St_give : MethodName := ⟨"StrataBase$Step", "give", "(J[I)V"⟩
abbrev cd_Jo_emit : ByteArray := prog_6_method_16_code
abbrev my_Jo_emit : MethodName := ⟨"StrataBase$Join", "emit", "()V"⟩
abbrev cd_Ro_add : ByteArray := prog_10_method_6_code
abbrev my_Ro_add : MethodName := ⟨"StrataBase$Rows", "add", "([I)V"⟩
abbrev cd_Ro_keyOf : ByteArray := prog_10_method_10_code
abbrev my_Ro_keyOf : MethodName := ⟨"StrataBase$Rows", "keyOf", "([II)J"⟩
abbrev cd_Lw_ask : ByteArray := method_6_code
abbrev my_Lw_ask : MethodName := ⟨"StrataBaseLaw", "ask", "(LStrataBase;[J)I"⟩
abbrev cd_SB_ask : ByteArray := prog_1_method_7_code
abbrev my_SB_ask : MethodName := ⟨"StrataBase", "ask", "()I"⟩
abbrev cd_Jo_answer : ByteArray := prog_6_method_3_code
abbrev my_Jo_answer : MethodName := ⟨"StrataBase$Join", "answer", "(LStrataBase$Clauses;LStrataBase$Rows;)V"⟩
abbrev cd_Ro_usedVariables : ByteArray := prog_10_method_5_code
abbrev my_Ro_usedVariables : MethodName := ⟨"StrataBase$Rows", "usedVariables", "()I"⟩
abbrev cd_Ro_sort : ByteArray := prog_10_method_7_code
abbrev my_Ro_sort : MethodName := ⟨"StrataBase$Rows", "sort", "()V"⟩
abbrev cd_Ro_sink : ByteArray := prog_10_method_8_code
abbrev my_Ro_sink : MethodName := ⟨"StrataBase$Rows", "sink", "(II)V"⟩
abbrev cd_Ro_isAbove : ByteArray := prog_10_method_9_code
abbrev my_Ro_isAbove : MethodName := ⟨"StrataBase$Rows", "isAbove", "(IJJ)Z"⟩
abbrev cd_Lw_isNumber : ByteArray := method_7_code
abbrev my_Lw_isNumber : MethodName := ⟨"StrataBaseLaw", "isNumber", "(LStrataBase;II[J)I"⟩
abbrev cd_SB_isNumber : ByteArray := prog_1_method_9_code
abbrev my_SB_isNumber : MethodName := ⟨"StrataBase", "isNumber", "(II)Z"⟩
abbrev cd_Ro_has : ByteArray := prog_10_method_3_code
abbrev my_Ro_has : MethodName := ⟨"StrataBase$Rows", "has", "(II)Z"⟩
abbrev cd_Ro_rankAt : ByteArray := prog_10_method_4_code
abbrev my_Ro_rankAt : MethodName := ⟨"StrataBase$Rows", "rankAt", "(II)I"⟩
abbrev cd_Co_lengthAt : ByteArray := prog_3_method_8_code
abbrev my_Co_lengthAt : MethodName := ⟨"StrataBase$Constants", "lengthAt", "(I)I"⟩
abbrev cd_Na_lengthOf : ByteArray := prog_7_method_5_code
abbrev my_Na_lengthOf : MethodName := ⟨"StrataBase$Names", "lengthOf", "(I)I"⟩
abbrev cd_Lw_number : ByteArray := method_8_code
abbrev my_Lw_number : MethodName := ⟨"StrataBaseLaw", "number", "(LStrataBase;II[J)I"⟩
abbrev cd_SB_number : ByteArray := prog_1_method_10_code
abbrev my_SB_number : MethodName := ⟨"StrataBase", "number", "(II)I"⟩
abbrev cd_Co_valueAt : ByteArray := prog_3_method_9_code
abbrev my_Co_valueAt : MethodName := ⟨"StrataBase$Constants", "valueAt", "(I)I"⟩
abbrev cd_Lw_letter : ByteArray := method_9_code
abbrev my_Lw_letter : MethodName := ⟨"StrataBaseLaw", "letter", "(LStrataBase;III[J)I"⟩
abbrev cd_SB_letter : ByteArray := prog_1_method_11_code
abbrev my_SB_letter : MethodName := ⟨"StrataBase", "letter", "(III)I"⟩
abbrev cd_Co_byteAt : ByteArray := prog_3_method_10_code
abbrev my_Co_byteAt : MethodName := ⟨"StrataBase$Constants", "byteAt", "(II)I"⟩
abbrev cd_Na_byteOf : ByteArray := prog_7_method_6_code
abbrev my_Na_byteOf : MethodName := ⟨"StrataBase$Names", "byteOf", "(II)I"⟩
abbrev cd_Lw_stage : ByteArray := method_10_code
abbrev my_Lw_stage : MethodName := ⟨"StrataBaseLaw", "stage", "(LStrataBase;[J)I"⟩
abbrev cd_SB_stage : ByteArray := prog_1_method_12_code
abbrev my_SB_stage : MethodName := ⟨"StrataBase", "stage", "()I"⟩
abbrev cd_Fa_find : ByteArray := prog_4_method_5_code
abbrev my_Fa_find : MethodName := ⟨"StrataBase$Facts", "find", "(IJ)I"⟩
abbrev cd_Lw_count : ByteArray := method_11_code
abbrev my_Lw_count : MethodName := ⟨"StrataBaseLaw", "count", "(LStrataBase;I[J)I"⟩
abbrev cd_SB_count : ByteArray := prog_1_method_14_code
abbrev my_SB_count : MethodName := ⟨"StrataBase", "count", "(I)I"⟩
abbrev cd_Mo_init : ByteArray := prog_14_method_1_code
abbrev my_Mo_init : MethodName := ⟨"StrataBaseModel", "<init>", "()V"⟩
abbrev cd_Mo_thrown : ByteArray := prog_14_method_2_code
abbrev my_Mo_thrown : MethodName := ⟨"StrataBaseModel", "thrown", "()I"⟩
abbrev cd_Mo_feed : ByteArray := prog_14_method_3_code
abbrev my_Mo_feed : MethodName := ⟨"StrataBaseModel", "feed", "(IIIII)I"⟩
abbrev cd_Mo_end : ByteArray := prog_14_method_4_code
abbrev my_Mo_end : MethodName := ⟨"StrataBaseModel", "end", "(I)V"⟩
abbrev cd_Mo_fault : ByteArray := prog_14_method_5_code
abbrev my_Mo_fault : MethodName := ⟨"StrataBaseModel", "fault", "()I"⟩
abbrev cd_Mo_load : ByteArray := prog_14_method_36_code
abbrev my_Mo_load : MethodName := ⟨"StrataBaseModel", "load", "()I"⟩
abbrev cd_Mo_starts : ByteArray := prog_14_method_12_code
abbrev my_Mo_starts : MethodName := ⟨"StrataBaseModel", "starts", "(I)Z"⟩
abbrev cd_Mo_next : ByteArray := prog_14_method_13_code
abbrev my_Mo_next : MethodName := ⟨"StrataBaseModel", "next", "()Z"⟩
abbrev cd_Mo_at : ByteArray := prog_14_method_7_code
abbrev my_Mo_at : MethodName := ⟨"StrataBaseModel", "at", "(I)I"⟩
abbrev cd_Mo_isBlank : ByteArray := prog_14_method_11_code
abbrev my_Mo_isBlank : MethodName := ⟨"StrataBaseModel", "isBlank", "(I)Z"⟩
abbrev cd_Mo_isWord : ByteArray := prog_14_method_10_code
abbrev my_Mo_isWord : MethodName := ⟨"StrataBaseModel", "isWord", "(I)Z"⟩
abbrev cd_Mo_isDigit : ByteArray := prog_14_method_8_code
abbrev my_Mo_isDigit : MethodName := ⟨"StrataBaseModel", "isDigit", "(I)Z"⟩
abbrev cd_Mo_isSmall : ByteArray := prog_14_method_9_code
abbrev my_Mo_isSmall : MethodName := ⟨"StrataBaseModel", "isSmall", "(I)Z"⟩
abbrev cd_Mo_figure : ByteArray := prog_14_method_14_code
abbrev my_Mo_figure : MethodName := ⟨"StrataBaseModel", "figure", "(Z)Z"⟩
abbrev cd_Mo_flaw : ByteArray := prog_14_method_6_code
abbrev my_Mo_flaw : MethodName := ⟨"StrataBaseModel", "flaw", "(II)Z"⟩
abbrev cd_Mo_readClauses : ByteArray := prog_14_method_28_code
abbrev my_Mo_readClauses : MethodName := ⟨"StrataBaseModel", "readClauses", "()Z"⟩
abbrev cd_Mo_cannot : ByteArray := prog_14_method_21_code
abbrev my_Mo_cannot : MethodName := ⟨"StrataBaseModel", "cannot", "()Z"⟩
abbrev cd_Mo_atom : ByteArray := prog_14_method_24_code
abbrev my_Mo_atom : MethodName := ⟨"StrataBaseModel", "atom", "(II)Z"⟩
abbrev cd_Mo_name : ByteArray := prog_14_method_23_code
abbrev my_Mo_name : MethodName := ⟨"StrataBaseModel", "name", "(II)Z"⟩
abbrev cd_Mo_predicate : ByteArray := prog_14_method_16_code
abbrev my_Mo_predicate : MethodName := ⟨"StrataBaseModel", "predicate", "()I"⟩
abbrev cd_Mo_isSame : ByteArray := prog_14_method_15_code
abbrev my_Mo_isSame : MethodName := ⟨"StrataBaseModel", "isSame", "(III)Z"⟩
abbrev cd_Mo_literal : ByteArray := prog_14_method_18_code
abbrev my_Mo_literal : MethodName := ⟨"StrataBaseModel", "literal", "(I)I"⟩
abbrev cd_Mo_terms : ByteArray := prog_14_method_22_code
abbrev my_Mo_terms : MethodName := ⟨"StrataBaseModel", "terms", "(I)Z"⟩
abbrev cd_Mo_isTerm : ByteArray := prog_14_method_20_code
abbrev my_Mo_isTerm : MethodName := ⟨"StrataBaseModel", "isTerm", "()Z"⟩
abbrev cd_Mo_term : ByteArray := prog_14_method_19_code
abbrev my_Mo_term : MethodName := ⟨"StrataBaseModel", "term", "(II)Z"⟩
abbrev cd_Mo_constant : ByteArray := prog_14_method_17_code
abbrev my_Mo_constant : MethodName := ⟨"StrataBaseModel", "constant", "(I)I"⟩
abbrev cd_Mo_body : ByteArray := prog_14_method_27_code
abbrev my_Mo_body : MethodName := ⟨"StrataBaseModel", "body", "()Z"⟩
abbrev cd_Mo_bodyLiteral : ByteArray := prog_14_method_26_code
abbrev my_Mo_bodyLiteral : MethodName := ⟨"StrataBaseModel", "bodyLiteral", "(I)Z"⟩
abbrev cd_Mo_isSign : ByteArray := prog_14_method_25_code
abbrev my_Mo_isSign : MethodName := ⟨"StrataBaseModel", "isSign", "()Z"⟩
abbrev cd_Mo_arities : ByteArray := prog_14_method_32_code
abbrev my_Mo_arities : MethodName := ⟨"StrataBaseModel", "arities", "()V"⟩
abbrev cd_Mo_wrong : ByteArray := prog_14_method_29_code
abbrev my_Mo_wrong : MethodName := ⟨"StrataBaseModel", "wrong", "(II)V"⟩
abbrev cd_Mo_look : ByteArray := prog_14_method_31_code
abbrev my_Mo_look : MethodName := ⟨"StrataBaseModel", "look", "(I)V"⟩
abbrev cd_Mo_isBound : ByteArray := prog_14_method_30_code
abbrev my_Mo_isBound : MethodName := ⟨"StrataBaseModel", "isBound", "(I)Z"⟩
abbrev cd_Mo_isStrata : ByteArray := prog_14_method_34_code
abbrev my_Mo_isStrata : MethodName := ⟨"StrataBaseModel", "isStrata", "()Z"⟩
abbrev cd_Mo_dependencies : ByteArray := prog_14_method_33_code
abbrev my_Mo_dependencies : MethodName := ⟨"StrataBaseModel", "dependencies", "()V"⟩
abbrev cd_Mo_layStrata : ByteArray := prog_14_method_35_code
abbrev my_Mo_layStrata : MethodName := ⟨"StrataBaseModel", "layStrata", "()V"⟩
abbrev cd_Mo_run : ByteArray := prog_14_method_47_code
abbrev my_Mo_run : MethodName := ⟨"StrataBaseModel", "run", "()I"⟩
abbrev cd_Mo_follow : ByteArray := prog_14_method_46_code
abbrev my_Mo_follow : MethodName := ⟨"StrataBaseModel", "follow", "(I)Z"⟩
abbrev cd_Mo_join : ByteArray := prog_14_method_44_code
abbrev my_Mo_join : MethodName := ⟨"StrataBaseModel", "join", "(IIZ)Z"⟩
abbrev cd_Mo_free : ByteArray := prog_14_method_40_code
abbrev my_Mo_free : MethodName := ⟨"StrataBaseModel", "free", "(I)V"⟩
abbrev cd_Mo_holds : ByteArray := prog_14_method_43_code
abbrev my_Mo_holds : MethodName := ⟨"StrataBaseModel", "holds", "()Z"⟩
abbrev cd_Mo_value : ByteArray := prog_14_method_39_code
abbrev my_Mo_value : MethodName := ⟨"StrataBaseModel", "value", "(I)I"⟩
abbrev cd_Mo_order : ByteArray := prog_14_method_42_code
abbrev my_Mo_order : MethodName := ⟨"StrataBaseModel", "order", "(II)I"⟩
abbrev cd_Mo_arity : ByteArray := prog_14_method_38_code
abbrev my_Mo_arity : MethodName := ⟨"StrataBaseModel", "arity", "(I)I"⟩
abbrev cd_Mo_find : ByteArray := prog_14_method_37_code
abbrev my_Mo_find : MethodName := ⟨"StrataBaseModel", "find", "(II)I"⟩
abbrev cd_Mo_row : ByteArray := prog_14_method_48_code
abbrev my_Mo_row : MethodName := ⟨"StrataBaseModel", "row", "()Z"⟩
abbrev cd_Mo_fact : ByteArray := prog_14_method_45_code
abbrev my_Mo_fact : MethodName := ⟨"StrataBaseModel", "fact", "(I)Z"⟩
abbrev cd_Mo_isFact : ByteArray := prog_14_method_41_code
abbrev my_Mo_isFact : MethodName := ⟨"StrataBaseModel", "isFact", "(III)Z"⟩
abbrev cd_Mo_ask : ByteArray := prog_14_method_53_code
abbrev my_Mo_ask : MethodName := ⟨"StrataBaseModel", "ask", "()I"⟩
abbrev cd_Mo_beginQuestion : ByteArray := prog_14_method_52_code
abbrev my_Mo_beginQuestion : MethodName := ⟨"StrataBaseModel", "beginQuestion", "()V"⟩
abbrev cd_Mo_readQuestion : ByteArray := prog_14_method_51_code
abbrev my_Mo_readQuestion : MethodName := ⟨"StrataBaseModel", "readQuestion", "()Z"⟩
abbrev cd_Mo_ownArities : ByteArray := prog_14_method_49_code
abbrev my_Mo_ownArities : MethodName := ⟨"StrataBaseModel", "ownArities", "()V"⟩
abbrev cd_Mo_isName : ByteArray := prog_14_method_50_code
abbrev my_Mo_isName : MethodName := ⟨"StrataBaseModel", "isName", "(II)Z"⟩
abbrev cd_Mo_sort : ByteArray := prog_14_method_54_code
abbrev my_Mo_sort : MethodName := ⟨"StrataBaseModel", "sort", "()V"⟩
abbrev cd_Mo_isBehind : ByteArray := prog_14_method_55_code
abbrev my_Mo_isBehind : MethodName := ⟨"StrataBaseModel", "isBehind", "(II)Z"⟩
abbrev cd_Mo_columns : ByteArray := prog_14_method_56_code
abbrev my_Mo_columns : MethodName := ⟨"StrataBaseModel", "columns", "()I"⟩
abbrev cd_Mo_isNumber : ByteArray := prog_14_method_58_code
abbrev my_Mo_isNumber : MethodName := ⟨"StrataBaseModel", "isNumber", "(II)Z"⟩
abbrev cd_Mo_cell : ByteArray := prog_14_method_57_code
abbrev my_Mo_cell : MethodName := ⟨"StrataBaseModel", "cell", "(II)I"⟩
abbrev cd_Mo_number : ByteArray := prog_14_method_59_code
abbrev my_Mo_number : MethodName := ⟨"StrataBaseModel", "number", "(II)I"⟩
abbrev cd_Mo_letter : ByteArray := prog_14_method_60_code
abbrev my_Mo_letter : MethodName := ⟨"StrataBaseModel", "letter", "(III)I"⟩
abbrev cd_Mo_stage : ByteArray := prog_14_method_61_code
abbrev my_Mo_stage : MethodName := ⟨"StrataBaseModel", "stage", "()I"⟩
abbrev cd_Mo_ground : ByteArray := prog_14_method_62_code
abbrev my_Mo_ground : MethodName := ⟨"StrataBaseModel", "ground", "()Z"⟩
abbrev cd_Mo_stratum : ByteArray := prog_14_method_63_code
abbrev my_Mo_stratum : MethodName := ⟨"StrataBaseModel", "stratum", "()I"⟩
abbrev cd_Mo_count : ByteArray := prog_14_method_64_code
abbrev my_Mo_count : MethodName := ⟨"StrataBaseModel", "count", "(I)I"⟩
theorem wd_0 : (Jvm.Cond.initialized "StrataBaseLaw") ∈ tblG := rn_1 (List.mem_of_getElem? (i := 0) (by decide +kernel)) (by decide +kernel)
theorem wd_1 : (Jvm.Cond.initialized "StrataBase") ∈ tblG := rn_1 (List.mem_of_getElem? (i := 1) (by decide +kernel)) (by decide +kernel)
theorem wd_2 : (Jvm.Cond.initialized "StrataBase$Program") ∈ tblG := rn_1 (List.mem_of_getElem? (i := 2) (by decide +kernel)) (by decide +kernel)
theorem wd_3 : (Jvm.Cond.initialized "StrataBase$Clauses") ∈ tblG := rn_1 (List.mem_of_getElem? (i := 3) (by decide +kernel)) (by decide +kernel)
theorem wd_4 : (Jvm.Cond.initialized "StrataBase$Names") ∈ tblG := rn_1 (List.mem_of_getElem? (i := 4) (by decide +kernel)) (by decide +kernel)
theorem wd_5 : (Jvm.Cond.initialized "StrataBase$Constants") ∈ tblG := rn_1 (List.mem_of_getElem? (i := 5) (by decide +kernel)) (by decide +kernel)
theorem wd_6 : (Jvm.Cond.initialized "StrataBase$Reader") ∈ tblG := rn_1 (List.mem_of_getElem? (i := 6) (by decide +kernel)) (by decide +kernel)
theorem wd_7 : (Jvm.Cond.initialized "StrataBase$Tokens") ∈ tblG := rn_1 (List.mem_of_getElem? (i := 7) (by decide +kernel)) (by decide +kernel)
theorem wd_8 : (Jvm.Cond.initialized "StrataBase$Facts") ∈ tblG := rn_1 (List.mem_of_getElem? (i := 8) (by decide +kernel)) (by decide +kernel)
theorem wd_9 : (Jvm.Cond.initialized "StrataBase$Join") ∈ tblG := rn_1 (List.mem_of_getElem? (i := 9) (by decide +kernel)) (by decide +kernel)
theorem wd_10 : (Jvm.Cond.initialized "StrataBase$Indexes") ∈ tblG := rn_1 (List.mem_of_getElem? (i := 10) (by decide +kernel)) (by decide +kernel)
theorem wd_11 : (Jvm.Cond.initialized "StrataBase$Step") ∈ tblG := rn_1 (List.mem_of_getElem? (i := 11) (by decide +kernel)) (by decide +kernel)
theorem wd_12 : (Jvm.Cond.initialized "StrataBase$Rows") ∈ tblG := rn_1 (List.mem_of_getElem? (i := 12) (by decide +kernel)) (by decide +kernel)
theorem wd_13 : (Jvm.Cond.initialized "StrataBaseModel") ∈ tblG := rn_1 (List.mem_of_getElem? (i := 13) (by decide +kernel)) (by decide +kernel)
theorem wd_14 : (Jvm.Cond.initialized "java/lang/Throwable") ∈ tblG := rn_1 (List.mem_of_getElem? (i := 14) (by decide +kernel)) (by decide +kernel)
theorem wd_15 : (Jvm.Cond.initialized "java/lang/Exception") ∈ tblG := rn_1 (List.mem_of_getElem? (i := 15) (by decide +kernel)) (by decide +kernel)
theorem wd_16 : (Jvm.Cond.initialized "java/lang/RuntimeException") ∈ tblG := rn_1 (List.mem_of_getElem? (i := 16) (by decide +kernel)) (by decide +kernel)
theorem wd_17 : (Jvm.Cond.initialized "java/lang/UnsupportedOperationException") ∈ tblG := rn_1 (List.mem_of_getElem? (i := 17) (by decide +kernel)) (by decide +kernel)
theorem wd_18 : (Jvm.Cond.initialized "java/lang/IllegalArgumentException") ∈ tblG := rn_1 (List.mem_of_getElem? (i := 18) (by decide +kernel)) (by decide +kernel)
theorem wd_19 : (Jvm.Cond.initialized "java/util/Arrays") ∈ tblG := rn_1 (List.mem_of_getElem? (i := 19) (by decide +kernel)) (by decide +kernel)
theorem wd_20 : (Jvm.Cond.initialized "java/lang/Math") ∈ tblG := rn_1 (List.mem_of_getElem? (i := 20) (by decide +kernel)) (by decide +kernel)
theorem wd_21 : (Jvm.Cond.initialized "java/lang/Integer") ∈ tblG := rn_1 (List.mem_of_getElem? (i := 21) (by decide +kernel)) (by decide +kernel)
theorem wd_22 : (Jvm.Cond.initialized "java/lang/System") ∈ tblG := rn_1 (List.mem_of_getElem? (i := 22) (by decide +kernel)) (by decide +kernel)
theorem wd_23 : (Jvm.Cond.initialized "java/lang/IllegalStateException") ∈ tblG := rn_1 (List.mem_of_getElem? (i := 23) (by decide +kernel)) (by decide +kernel)
theorem wd_24 : (Jvm.Cond.initialized "java/lang/IndexOutOfBoundsException") ∈ tblG := rn_1 (List.mem_of_getElem? (i := 24) (by decide +kernel)) (by decide +kernel)
theorem wd_25 : (Jvm.Cond.classLink "StrataBaseLaw" (8 : Nat) "StrataBase") ∈ tblG := rn_1 (List.mem_of_getElem? (i := 25) (by decide +kernel)) (by decide +kernel)
theorem wd_26 : (Jvm.Cond.instantiable "StrataBase" (13 : Nat)) ∈ tblG := rn_1 (List.mem_of_getElem? (i := 26) (by decide +kernel)) (by decide +kernel)
theorem wd_27 : (Jvm.Cond.methodLink "StrataBaseLaw" (51 : Nat) ({ cls := "StrataBase", name := "<init>", desc := "()V" } : Jvm.MethodName)) ∈ tblG := rn_1 (List.mem_of_getElem? (i := 27) (by decide +kernel)) (by decide +kernel)
theorem wd_28 : (Jvm.Cond.instanceMethod ({ cls := "StrataBase", name := "<init>", desc := "()V" } : Jvm.MethodName)) ∈ tblG := rn_1 (List.mem_of_getElem? (i := 28) (by decide +kernel)) (by decide +kernel)
theorem wd_29 : (Jvm.Cond.code ({ cls := "StrataBase", name := "<init>", desc := "()V" } : Jvm.MethodName) prog_1_method_1_code (1 : Nat) (Option.none : Option Jvm.ClassFile.FieldType)) ∈ tblG := rn_1 (List.mem_of_getElem? (i := 29) (by decide +kernel)) (by decide +kernel)
theorem wd_30 : (Jvm.Cond.methodLink "StrataBase" (1 : Nat) ({ cls := "java/lang/Object", name := "<init>", desc := "()V" } : Jvm.MethodName)) ∈ tblG := rn_1 (List.mem_of_getElem? (i := 30) (by decide +kernel)) (by decide +kernel)
theorem wd_31 : (Jvm.Cond.instanceMethod ({ cls := "java/lang/Object", name := "<init>", desc := "()V" } : Jvm.MethodName)) ∈ tblG := rn_1 (List.mem_of_getElem? (i := 31) (by decide +kernel)) (by decide +kernel)
theorem wd_32 : (Jvm.Cond.code ({ cls := "java/lang/Object", name := "<init>", desc := "()V" } : Jvm.MethodName) object_method_1_code (1 : Nat) (Option.none : Option Jvm.ClassFile.FieldType)) ∈ tblG := rn_1 (List.mem_of_getElem? (i := 32) (by decide +kernel)) (by decide +kernel)
theorem wd_33 : (Jvm.Cond.constant "StrataBase" (9 : Nat) (65536 : Int32)) ∈ tblG := rn_1 (List.mem_of_getElem? (i := 33) (by decide +kernel)) (by decide +kernel)
theorem wd_34 : (Jvm.Cond.classLink "StrataBase" (14 : Nat) "StrataBase$Program") ∈ tblG := rn_1 (List.mem_of_getElem? (i := 34) (by decide +kernel)) (by decide +kernel)
theorem wd_35 : (Jvm.Cond.instantiable "StrataBase$Program" (7 : Nat)) ∈ tblG := rn_1 (List.mem_of_getElem? (i := 35) (by decide +kernel)) (by decide +kernel)
theorem wd_36 : (Jvm.Cond.methodLink "StrataBase" (16 : Nat) ({ cls := "StrataBase$Program", name := "<init>", desc := "()V" } : Jvm.MethodName)) ∈ tblG := rn_1 (List.mem_of_getElem? (i := 36) (by decide +kernel)) (by decide +kernel)
theorem wd_37 : (Jvm.Cond.instanceMethod ({ cls := "StrataBase$Program", name := "<init>", desc := "()V" } : Jvm.MethodName)) ∈ tblG := rn_1 (List.mem_of_getElem? (i := 37) (by decide +kernel)) (by decide +kernel)
theorem wd_38 : (Jvm.Cond.code ({ cls := "StrataBase$Program", name := "<init>", desc := "()V" } : Jvm.MethodName) prog_8_method_1_code (1 : Nat) (Option.none : Option Jvm.ClassFile.FieldType)) ∈ tblG := rn_1 (List.mem_of_getElem? (i := 38) (by decide +kernel)) (by decide +kernel)
theorem wd_39 : (Jvm.Cond.methodLink "StrataBase$Program" (3 : Nat) ({ cls := "java/lang/Object", name := "<init>", desc := "()V" } : Jvm.MethodName)) ∈ tblG := rn_1 (List.mem_of_getElem? (i := 39) (by decide +kernel)) (by decide +kernel)
theorem wd_40 : (Jvm.Cond.classLink "StrataBase$Program" (9 : Nat) "StrataBase$Clauses") ∈ tblG := rn_1 (List.mem_of_getElem? (i := 40) (by decide +kernel)) (by decide +kernel)
theorem wd_41 : (Jvm.Cond.instantiable "StrataBase$Clauses" (9 : Nat)) ∈ tblG := rn_1 (List.mem_of_getElem? (i := 41) (by decide +kernel)) (by decide +kernel)
theorem wd_42 : (Jvm.Cond.methodLink "StrataBase$Program" (13 : Nat) ({ cls := "StrataBase$Clauses", name := "<init>", desc := "(I)V" } : Jvm.MethodName)) ∈ tblG := rn_1 (List.mem_of_getElem? (i := 42) (by decide +kernel)) (by decide +kernel)
theorem wd_43 : (Jvm.Cond.instanceMethod ({ cls := "StrataBase$Clauses", name := "<init>", desc := "(I)V" } : Jvm.MethodName)) ∈ tblG := rn_1 (List.mem_of_getElem? (i := 43) (by decide +kernel)) (by decide +kernel)
theorem wd_44 : (Jvm.Cond.code ({ cls := "StrataBase$Clauses", name := "<init>", desc := "(I)V" } : Jvm.MethodName) prog_2_method_1_code (3 : Nat) (Option.none : Option Jvm.ClassFile.FieldType)) ∈ tblG := rn_1 (List.mem_of_getElem? (i := 44) (by decide +kernel)) (by decide +kernel)
theorem wd_45 : (Jvm.Cond.methodLink "StrataBase$Clauses" (3 : Nat) ({ cls := "java/lang/Object", name := "<init>", desc := "()V" } : Jvm.MethodName)) ∈ tblG := rn_1 (List.mem_of_getElem? (i := 45) (by decide +kernel)) (by decide +kernel)
theorem wd_46 : (Jvm.Cond.fieldLink "StrataBase$Clauses" (33 : Nat) "StrataBase$Clauses" "size" "I") ∈ tblG := rn_1 (List.mem_of_getElem? (i := 46) (by decide +kernel)) (by decide +kernel)
theorem wd_47 : (Jvm.Cond.fieldLink "StrataBase$Program" (64 : Nat) "StrataBase$Clauses" "size" "I") ∈ tblG := rn_1 (List.mem_of_getElem? (i := 47) (by decide +kernel)) (by decide +kernel)
theorem wd_48 : (Jvm.Cond.fieldLink "StrataBase$Join" (84 : Nat) "StrataBase$Clauses" "size" "I") ∈ tblG := rn_1 (List.mem_of_getElem? (i := 48) (by decide +kernel)) (by decide +kernel)
theorem wd_49 : (Jvm.Cond.fieldLink "StrataBase$Reader" (158 : Nat) "StrataBase$Clauses" "size" "I") ∈ tblG := rn_1 (List.mem_of_getElem? (i := 49) (by decide +kernel)) (by decide +kernel)
theorem wd_50 : (Jvm.Cond.fieldLink "StrataBase" (207 : Nat) "StrataBase$Clauses" "size" "I") ∈ tblG := rn_1 (List.mem_of_getElem? (i := 50) (by decide +kernel)) (by decide +kernel)
theorem wd_51 : (Jvm.Cond.fieldLink "StrataBase$Clauses" (11 : Nat) "StrataBase$Clauses" "first" "[I") ∈ tblG := rn_1 (List.mem_of_getElem? (i := 51) (by decide +kernel)) (by decide +kernel)
theorem wd_52 : (Jvm.Cond.fieldLink "StrataBase$Program" (58 : Nat) "StrataBase$Clauses" "first" "[I") ∈ tblG := rn_1 (List.mem_of_getElem? (i := 52) (by decide +kernel)) (by decide +kernel)
theorem wd_53 : (Jvm.Cond.fieldLink "StrataBase$Join" (59 : Nat) "StrataBase$Clauses" "first" "[I") ∈ tblG := rn_1 (List.mem_of_getElem? (i := 53) (by decide +kernel)) (by decide +kernel)
theorem wd_54 : (Jvm.Cond.fieldLink "StrataBase$Clauses" (15 : Nat) "StrataBase$Clauses" "kinds" "[I") ∈ tblG := rn_1 (List.mem_of_getElem? (i := 54) (by decide +kernel)) (by decide +kernel)
theorem wd_55 : (Jvm.Cond.fieldLink "StrataBase$Program" (72 : Nat) "StrataBase$Clauses" "kinds" "[I") ∈ tblG := rn_1 (List.mem_of_getElem? (i := 55) (by decide +kernel)) (by decide +kernel)
theorem wd_56 : (Jvm.Cond.fieldLink "StrataBase$Join" (114 : Nat) "StrataBase$Clauses" "kinds" "[I") ∈ tblG := rn_1 (List.mem_of_getElem? (i := 56) (by decide +kernel)) (by decide +kernel)
theorem wd_57 : (Jvm.Cond.fieldLink "StrataBase$Reader" (227 : Nat) "StrataBase$Clauses" "kinds" "[I") ∈ tblG := rn_1 (List.mem_of_getElem? (i := 57) (by decide +kernel)) (by decide +kernel)
theorem wd_58 : (Jvm.Cond.fieldLink "StrataBase$Clauses" (18 : Nat) "StrataBase$Clauses" "predicates" "[I") ∈ tblG := rn_1 (List.mem_of_getElem? (i := 58) (by decide +kernel)) (by decide +kernel)
theorem wd_59 : (Jvm.Cond.fieldLink "StrataBase$Step" (27 : Nat) "StrataBase$Clauses" "predicates" "[I") ∈ tblG := rn_1 (List.mem_of_getElem? (i := 59) (by decide +kernel)) (by decide +kernel)
theorem wd_60 : (Jvm.Cond.fieldLink "StrataBase$Program" (56 : Nat) "StrataBase$Clauses" "predicates" "[I") ∈ tblG := rn_1 (List.mem_of_getElem? (i := 60) (by decide +kernel)) (by decide +kernel)
theorem wd_61 : (Jvm.Cond.fieldLink "StrataBase$Join" (111 : Nat) "StrataBase$Clauses" "predicates" "[I") ∈ tblG := rn_1 (List.mem_of_getElem? (i := 61) (by decide +kernel)) (by decide +kernel)
theorem wd_62 : (Jvm.Cond.fieldLink "StrataBase" (186 : Nat) "StrataBase$Clauses" "predicates" "[I") ∈ tblG := rn_1 (List.mem_of_getElem? (i := 62) (by decide +kernel)) (by decide +kernel)
theorem wd_63 : (Jvm.Cond.fieldLink "StrataBase$Reader" (189 : Nat) "StrataBase$Clauses" "predicates" "[I") ∈ tblG := rn_1 (List.mem_of_getElem? (i := 63) (by decide +kernel)) (by decide +kernel)
theorem wd_64 : (Jvm.Cond.fieldLink "StrataBase$Clauses" (21 : Nat) "StrataBase$Clauses" "places" "[I") ∈ tblG := rn_1 (List.mem_of_getElem? (i := 64) (by decide +kernel)) (by decide +kernel)
theorem wd_65 : (Jvm.Cond.fieldLink "StrataBase$Program" (75 : Nat) "StrataBase$Clauses" "places" "[I") ∈ tblG := rn_1 (List.mem_of_getElem? (i := 65) (by decide +kernel)) (by decide +kernel)
theorem wd_66 : (Jvm.Cond.fieldLink "StrataBase$Clauses" (24 : Nat) "StrataBase$Clauses" "sizes" "[I") ∈ tblG := rn_1 (List.mem_of_getElem? (i := 66) (by decide +kernel)) (by decide +kernel)
theorem wd_67 : (Jvm.Cond.fieldLink "StrataBase$Step" (20 : Nat) "StrataBase$Clauses" "sizes" "[I") ∈ tblG := rn_1 (List.mem_of_getElem? (i := 67) (by decide +kernel)) (by decide +kernel)
theorem wd_68 : (Jvm.Cond.fieldLink "StrataBase$Program" (102 : Nat) "StrataBase$Clauses" "sizes" "[I") ∈ tblG := rn_1 (List.mem_of_getElem? (i := 68) (by decide +kernel)) (by decide +kernel)
theorem wd_69 : (Jvm.Cond.fieldLink "StrataBase$Join" (167 : Nat) "StrataBase$Clauses" "sizes" "[I") ∈ tblG := rn_1 (List.mem_of_getElem? (i := 69) (by decide +kernel)) (by decide +kernel)
theorem wd_70 : (Jvm.Cond.fieldLink "StrataBase$Reader" (201 : Nat) "StrataBase$Clauses" "sizes" "[I") ∈ tblG := rn_1 (List.mem_of_getElem? (i := 70) (by decide +kernel)) (by decide +kernel)
theorem wd_71 : (Jvm.Cond.fieldLink "StrataBase$Clauses" (27 : Nat) "StrataBase$Clauses" "masks" "[I") ∈ tblG := rn_1 (List.mem_of_getElem? (i := 71) (by decide +kernel)) (by decide +kernel)
theorem wd_72 : (Jvm.Cond.fieldLink "StrataBase$Step" (56 : Nat) "StrataBase$Clauses" "masks" "[I") ∈ tblG := rn_1 (List.mem_of_getElem? (i := 72) (by decide +kernel)) (by decide +kernel)
theorem wd_73 : (Jvm.Cond.fieldLink "StrataBase$Join" (85 : Nat) "StrataBase$Clauses" "masks" "[I") ∈ tblG := rn_1 (List.mem_of_getElem? (i := 73) (by decide +kernel)) (by decide +kernel)
theorem wd_74 : (Jvm.Cond.fieldLink "StrataBase$Reader" (230 : Nat) "StrataBase$Clauses" "masks" "[I") ∈ tblG := rn_1 (List.mem_of_getElem? (i := 74) (by decide +kernel)) (by decide +kernel)
theorem wd_75 : (Jvm.Cond.fieldLink "StrataBase$Clauses" (30 : Nat) "StrataBase$Clauses" "terms" "[I") ∈ tblG := rn_1 (List.mem_of_getElem? (i := 75) (by decide +kernel)) (by decide +kernel)
theorem wd_76 : (Jvm.Cond.fieldLink "StrataBase$Clauses" (37 : Nat) "StrataBase$Clauses" "literals" "I") ∈ tblG := rn_1 (List.mem_of_getElem? (i := 76) (by decide +kernel)) (by decide +kernel)
theorem wd_77 : (Jvm.Cond.lays "StrataBase$Clauses" "StrataBase$Clauses" "size" "I") ∈ tblG := rn_1 (List.mem_of_getElem? (i := 77) (by decide +kernel)) (by decide +kernel)
theorem wd_79 : (Jvm.Cond.laysFinal "StrataBase$Clauses" "StrataBase$Clauses" "first" "[I") ∈ tblG := rn_1 (List.mem_of_getElem? (i := 79) (by decide +kernel)) (by decide +kernel)
theorem wd_81 : (Jvm.Cond.laysFinal "StrataBase$Clauses" "StrataBase$Clauses" "kinds" "[I") ∈ tblG := rn_1 (List.mem_of_getElem? (i := 81) (by decide +kernel)) (by decide +kernel)
theorem wd_83 : (Jvm.Cond.laysFinal "StrataBase$Clauses" "StrataBase$Clauses" "predicates" "[I") ∈ tblG := rn_1 (List.mem_of_getElem? (i := 83) (by decide +kernel)) (by decide +kernel)
theorem wd_85 : (Jvm.Cond.laysFinal "StrataBase$Clauses" "StrataBase$Clauses" "places" "[I") ∈ tblG := rn_1 (List.mem_of_getElem? (i := 85) (by decide +kernel)) (by decide +kernel)
theorem wd_87 : (Jvm.Cond.laysFinal "StrataBase$Clauses" "StrataBase$Clauses" "sizes" "[I") ∈ tblG := rn_1 (List.mem_of_getElem? (i := 87) (by decide +kernel)) (by decide +kernel)
theorem wd_89 : (Jvm.Cond.laysFinal "StrataBase$Clauses" "StrataBase$Clauses" "masks" "[I") ∈ tblG := rn_1 (List.mem_of_getElem? (i := 89) (by decide +kernel)) (by decide +kernel)
theorem wd_91 : (Jvm.Cond.laysFinal "StrataBase$Clauses" "StrataBase$Clauses" "terms" "[I") ∈ tblG := rn_1 (List.mem_of_getElem? (i := 91) (by decide +kernel)) (by decide +kernel)
theorem wd_93 : (Jvm.Cond.lays "StrataBase$Clauses" "StrataBase$Clauses" "literals" "I") ∈ tblG := rn_1 (List.mem_of_getElem? (i := 93) (by decide +kernel)) (by decide +kernel)
theorem wd_96 : (Jvm.Cond.arrayClass Jvm.ClassFile.FieldType.byte) ∈ tblG := rn_1 (List.mem_of_getElem? (i := 96) (by decide +kernel)) (by decide +kernel)
theorem wd_97 : (Jvm.Cond.arrayClass Jvm.ClassFile.FieldType.int) ∈ tblG := rn_1 (List.mem_of_getElem? (i := 97) (by decide +kernel)) (by decide +kernel)
theorem wd_98 : (Jvm.Cond.classLink "StrataBase$Program" (20 : Nat) "StrataBase$Names") ∈ tblG := rn_1 (List.mem_of_getElem? (i := 98) (by decide +kernel)) (by decide +kernel)
theorem wd_99 : (Jvm.Cond.instantiable "StrataBase$Names" (5 : Nat)) ∈ tblG := rn_1 (List.mem_of_getElem? (i := 99) (by decide +kernel)) (by decide +kernel)
theorem wd_100 : (Jvm.Cond.methodLink "StrataBase$Program" (22 : Nat) ({ cls := "StrataBase$Names", name := "<init>", desc := "(I)V" } : Jvm.MethodName)) ∈ tblG := rn_1 (List.mem_of_getElem? (i := 100) (by decide +kernel)) (by decide +kernel)
theorem wd_101 : (Jvm.Cond.instanceMethod ({ cls := "StrataBase$Names", name := "<init>", desc := "(I)V" } : Jvm.MethodName)) ∈ tblG := rn_1 (List.mem_of_getElem? (i := 101) (by decide +kernel)) (by decide +kernel)
theorem wd_102 : (Jvm.Cond.code ({ cls := "StrataBase$Names", name := "<init>", desc := "(I)V" } : Jvm.MethodName) prog_7_method_1_code (2 : Nat) (Option.none : Option Jvm.ClassFile.FieldType)) ∈ tblG := rn_1 (List.mem_of_getElem? (i := 102) (by decide +kernel)) (by decide +kernel)
theorem wd_103 : (Jvm.Cond.methodLink "StrataBase$Names" (3 : Nat) ({ cls := "java/lang/Object", name := "<init>", desc := "()V" } : Jvm.MethodName)) ∈ tblG := rn_1 (List.mem_of_getElem? (i := 103) (by decide +kernel)) (by decide +kernel)
theorem wd_104 : (Jvm.Cond.fieldLink "StrataBase$Names" (22 : Nat) "StrataBase$Names" "size" "I") ∈ tblG := rn_1 (List.mem_of_getElem? (i := 104) (by decide +kernel)) (by decide +kernel)
theorem wd_105 : (Jvm.Cond.fieldLink "StrataBase$Constants" (33 : Nat) "StrataBase$Names" "size" "I") ∈ tblG := rn_1 (List.mem_of_getElem? (i := 105) (by decide +kernel)) (by decide +kernel)
theorem wd_106 : (Jvm.Cond.fieldLink "StrataBase$Program" (95 : Nat) "StrataBase$Names" "size" "I") ∈ tblG := rn_1 (List.mem_of_getElem? (i := 106) (by decide +kernel)) (by decide +kernel)
theorem wd_107 : (Jvm.Cond.fieldLink "StrataBase" (141 : Nat) "StrataBase$Names" "size" "I") ∈ tblG := rn_1 (List.mem_of_getElem? (i := 107) (by decide +kernel)) (by decide +kernel)
theorem wd_108 : (Jvm.Cond.fieldLink "StrataBase$Reader" (289 : Nat) "StrataBase$Names" "size" "I") ∈ tblG := rn_1 (List.mem_of_getElem? (i := 108) (by decide +kernel)) (by decide +kernel)
theorem wd_109 : (Jvm.Cond.fieldLink "StrataBase$Names" (9 : Nat) "StrataBase$Names" "starts" "[I") ∈ tblG := rn_1 (List.mem_of_getElem? (i := 109) (by decide +kernel)) (by decide +kernel)
theorem wd_110 : (Jvm.Cond.fieldLink "StrataBase$Names" (15 : Nat) "StrataBase$Names" "lengths" "[I") ∈ tblG := rn_1 (List.mem_of_getElem? (i := 110) (by decide +kernel)) (by decide +kernel)
theorem wd_111 : (Jvm.Cond.fieldLink "StrataBase$Names" (18 : Nat) "StrataBase$Names" "text" "[B") ∈ tblG := rn_1 (List.mem_of_getElem? (i := 111) (by decide +kernel)) (by decide +kernel)
theorem wd_112 : (Jvm.Cond.fieldLink "StrataBase$Names" (26 : Nat) "StrataBase$Names" "used" "I") ∈ tblG := rn_1 (List.mem_of_getElem? (i := 112) (by decide +kernel)) (by decide +kernel)
theorem wd_113 : (Jvm.Cond.lays "StrataBase$Names" "StrataBase$Names" "size" "I") ∈ tblG := rn_1 (List.mem_of_getElem? (i := 113) (by decide +kernel)) (by decide +kernel)
theorem wd_115 : (Jvm.Cond.laysFinal "StrataBase$Names" "StrataBase$Names" "starts" "[I") ∈ tblG := rn_1 (List.mem_of_getElem? (i := 115) (by decide +kernel)) (by decide +kernel)
theorem wd_117 : (Jvm.Cond.laysFinal "StrataBase$Names" "StrataBase$Names" "lengths" "[I") ∈ tblG := rn_1 (List.mem_of_getElem? (i := 117) (by decide +kernel)) (by decide +kernel)
theorem wd_119 : (Jvm.Cond.lays "StrataBase$Names" "StrataBase$Names" "text" "[B") ∈ tblG := rn_1 (List.mem_of_getElem? (i := 119) (by decide +kernel)) (by decide +kernel)
theorem wd_121 : (Jvm.Cond.lays "StrataBase$Names" "StrataBase$Names" "used" "I") ∈ tblG := rn_1 (List.mem_of_getElem? (i := 121) (by decide +kernel)) (by decide +kernel)
theorem wd_124 : (Jvm.Cond.classLink "StrataBase$Program" (34 : Nat) "StrataBase$Constants") ∈ tblG := rn_1 (List.mem_of_getElem? (i := 124) (by decide +kernel)) (by decide +kernel)
theorem wd_125 : (Jvm.Cond.instantiable "StrataBase$Constants" (4 : Nat)) ∈ tblG := rn_1 (List.mem_of_getElem? (i := 125) (by decide +kernel)) (by decide +kernel)
theorem wd_126 : (Jvm.Cond.methodLink "StrataBase$Program" (36 : Nat) ({ cls := "StrataBase$Constants", name := "<init>", desc := "(I)V" } : Jvm.MethodName)) ∈ tblG := rn_1 (List.mem_of_getElem? (i := 126) (by decide +kernel)) (by decide +kernel)
theorem wd_127 : (Jvm.Cond.instanceMethod ({ cls := "StrataBase$Constants", name := "<init>", desc := "(I)V" } : Jvm.MethodName)) ∈ tblG := rn_1 (List.mem_of_getElem? (i := 127) (by decide +kernel)) (by decide +kernel)
theorem wd_128 : (Jvm.Cond.code ({ cls := "StrataBase$Constants", name := "<init>", desc := "(I)V" } : Jvm.MethodName) prog_3_method_1_code (2 : Nat) (Option.none : Option Jvm.ClassFile.FieldType)) ∈ tblG := rn_1 (List.mem_of_getElem? (i := 128) (by decide +kernel)) (by decide +kernel)
theorem wd_129 : (Jvm.Cond.methodLink "StrataBase$Constants" (3 : Nat) ({ cls := "java/lang/Object", name := "<init>", desc := "()V" } : Jvm.MethodName)) ∈ tblG := rn_1 (List.mem_of_getElem? (i := 129) (by decide +kernel)) (by decide +kernel)
theorem wd_130 : (Jvm.Cond.classLink "StrataBase$Constants" (9 : Nat) "StrataBase$Names") ∈ tblG := rn_1 (List.mem_of_getElem? (i := 130) (by decide +kernel)) (by decide +kernel)
theorem wd_131 : (Jvm.Cond.methodLink "StrataBase$Constants" (11 : Nat) ({ cls := "StrataBase$Names", name := "<init>", desc := "(I)V" } : Jvm.MethodName)) ∈ tblG := rn_1 (List.mem_of_getElem? (i := 131) (by decide +kernel)) (by decide +kernel)
theorem wd_132 : (Jvm.Cond.fieldLink "StrataBase$Constants" (14 : Nat) "StrataBase$Constants" "names" "LStrataBase$Names;") ∈ tblG := rn_1 (List.mem_of_getElem? (i := 132) (by decide +kernel)) (by decide +kernel)
theorem wd_133 : (Jvm.Cond.fieldLink "StrataBase$Constants" (20 : Nat) "StrataBase$Constants" "values" "[I") ∈ tblG := rn_1 (List.mem_of_getElem? (i := 133) (by decide +kernel)) (by decide +kernel)
theorem wd_134 : (Jvm.Cond.fieldLink "StrataBase$Constants" (24 : Nat) "StrataBase$Constants" "byRank" "[I") ∈ tblG := rn_1 (List.mem_of_getElem? (i := 134) (by decide +kernel)) (by decide +kernel)
theorem wd_135 : (Jvm.Cond.fieldLink "StrataBase$Constants" (27 : Nat) "StrataBase$Constants" "ranks" "[I") ∈ tblG := rn_1 (List.mem_of_getElem? (i := 135) (by decide +kernel)) (by decide +kernel)
theorem wd_136 : (Jvm.Cond.laysFinal "StrataBase$Constants" "StrataBase$Constants" "names" "LStrataBase$Names;") ∈ tblG := rn_1 (List.mem_of_getElem? (i := 136) (by decide +kernel)) (by decide +kernel)
theorem wd_138 : (Jvm.Cond.laysFinal "StrataBase$Constants" "StrataBase$Constants" "values" "[I") ∈ tblG := rn_1 (List.mem_of_getElem? (i := 138) (by decide +kernel)) (by decide +kernel)
theorem wd_140 : (Jvm.Cond.laysFinal "StrataBase$Constants" "StrataBase$Constants" "byRank" "[I") ∈ tblG := rn_1 (List.mem_of_getElem? (i := 140) (by decide +kernel)) (by decide +kernel)
theorem wd_142 : (Jvm.Cond.laysFinal "StrataBase$Constants" "StrataBase$Constants" "ranks" "[I") ∈ tblG := rn_1 (List.mem_of_getElem? (i := 142) (by decide +kernel)) (by decide +kernel)
theorem wd_145 : (Jvm.Cond.fieldLink "StrataBase$Program" (16 : Nat) "StrataBase$Program" "clauses" "LStrataBase$Clauses;") ∈ tblG := rn_1 (List.mem_of_getElem? (i := 145) (by decide +kernel)) (by decide +kernel)
theorem wd_146 : (Jvm.Cond.fieldLink "StrataBase$Join" (66 : Nat) "StrataBase$Program" "clauses" "LStrataBase$Clauses;") ∈ tblG := rn_1 (List.mem_of_getElem? (i := 146) (by decide +kernel)) (by decide +kernel)
theorem wd_147 : (Jvm.Cond.fieldLink "StrataBase" (79 : Nat) "StrataBase$Program" "clauses" "LStrataBase$Clauses;") ∈ tblG := rn_1 (List.mem_of_getElem? (i := 147) (by decide +kernel)) (by decide +kernel)
theorem wd_148 : (Jvm.Cond.fieldLink "StrataBase$Program" (23 : Nat) "StrataBase$Program" "predicates" "LStrataBase$Names;") ∈ tblG := rn_1 (List.mem_of_getElem? (i := 148) (by decide +kernel)) (by decide +kernel)
theorem wd_149 : (Jvm.Cond.fieldLink "StrataBase$Reader" (175 : Nat) "StrataBase$Program" "predicates" "LStrataBase$Names;") ∈ tblG := rn_1 (List.mem_of_getElem? (i := 149) (by decide +kernel)) (by decide +kernel)
theorem wd_150 : (Jvm.Cond.fieldLink "StrataBase" (208 : Nat) "StrataBase$Program" "predicates" "LStrataBase$Names;") ∈ tblG := rn_1 (List.mem_of_getElem? (i := 150) (by decide +kernel)) (by decide +kernel)
theorem wd_151 : (Jvm.Cond.fieldLink "StrataBase$Program" (27 : Nat) "StrataBase$Program" "sizes" "[I") ∈ tblG := rn_1 (List.mem_of_getElem? (i := 151) (by decide +kernel)) (by decide +kernel)
theorem wd_152 : (Jvm.Cond.fieldLink "StrataBase$Reader" (285 : Nat) "StrataBase$Program" "sizes" "[I") ∈ tblG := rn_1 (List.mem_of_getElem? (i := 152) (by decide +kernel)) (by decide +kernel)
theorem wd_153 : (Jvm.Cond.fieldLink "StrataBase$Program" (31 : Nat) "StrataBase$Program" "strata" "[I") ∈ tblG := rn_1 (List.mem_of_getElem? (i := 153) (by decide +kernel)) (by decide +kernel)
theorem wd_154 : (Jvm.Cond.fieldLink "StrataBase$Join" (100 : Nat) "StrataBase$Program" "strata" "[I") ∈ tblG := rn_1 (List.mem_of_getElem? (i := 154) (by decide +kernel)) (by decide +kernel)
theorem wd_155 : (Jvm.Cond.fieldLink "StrataBase" (204 : Nat) "StrataBase$Program" "strata" "[I") ∈ tblG := rn_1 (List.mem_of_getElem? (i := 155) (by decide +kernel)) (by decide +kernel)
theorem wd_156 : (Jvm.Cond.fieldLink "StrataBase$Program" (37 : Nat) "StrataBase$Program" "constants" "LStrataBase$Constants;") ∈ tblG := rn_1 (List.mem_of_getElem? (i := 156) (by decide +kernel)) (by decide +kernel)
theorem wd_157 : (Jvm.Cond.fieldLink "StrataBase" (166 : Nat) "StrataBase$Program" "constants" "LStrataBase$Constants;") ∈ tblG := rn_1 (List.mem_of_getElem? (i := 157) (by decide +kernel)) (by decide +kernel)
theorem wd_158 : (Jvm.Cond.fieldLink "StrataBase$Reader" (260 : Nat) "StrataBase$Program" "constants" "LStrataBase$Constants;") ∈ tblG := rn_1 (List.mem_of_getElem? (i := 158) (by decide +kernel)) (by decide +kernel)
theorem wd_159 : (Jvm.Cond.fieldLink "StrataBase$Program" (92 : Nat) "StrataBase$Program" "strataCount" "I") ∈ tblG := rn_1 (List.mem_of_getElem? (i := 159) (by decide +kernel)) (by decide +kernel)
theorem wd_160 : (Jvm.Cond.fieldLink "StrataBase" (118 : Nat) "StrataBase$Program" "strataCount" "I") ∈ tblG := rn_1 (List.mem_of_getElem? (i := 160) (by decide +kernel)) (by decide +kernel)
theorem wd_161 : (Jvm.Cond.fieldLink "StrataBase$Program" (41 : Nat) "StrataBase$Program" "reached" "[J") ∈ tblG := rn_1 (List.mem_of_getElem? (i := 161) (by decide +kernel)) (by decide +kernel)
theorem wd_162 : (Jvm.Cond.laysFinal "StrataBase$Program" "StrataBase$Program" "clauses" "LStrataBase$Clauses;") ∈ tblG := rn_1 (List.mem_of_getElem? (i := 162) (by decide +kernel)) (by decide +kernel)
theorem wd_164 : (Jvm.Cond.laysFinal "StrataBase$Program" "StrataBase$Program" "predicates" "LStrataBase$Names;") ∈ tblG := rn_1 (List.mem_of_getElem? (i := 164) (by decide +kernel)) (by decide +kernel)
theorem wd_166 : (Jvm.Cond.laysFinal "StrataBase$Program" "StrataBase$Program" "sizes" "[I") ∈ tblG := rn_1 (List.mem_of_getElem? (i := 166) (by decide +kernel)) (by decide +kernel)
theorem wd_168 : (Jvm.Cond.laysFinal "StrataBase$Program" "StrataBase$Program" "strata" "[I") ∈ tblG := rn_1 (List.mem_of_getElem? (i := 168) (by decide +kernel)) (by decide +kernel)
theorem wd_170 : (Jvm.Cond.laysFinal "StrataBase$Program" "StrataBase$Program" "constants" "LStrataBase$Constants;") ∈ tblG := rn_1 (List.mem_of_getElem? (i := 170) (by decide +kernel)) (by decide +kernel)
theorem wd_172 : (Jvm.Cond.lays "StrataBase$Program" "StrataBase$Program" "strataCount" "I") ∈ tblG := rn_1 (List.mem_of_getElem? (i := 172) (by decide +kernel)) (by decide +kernel)
theorem wd_174 : (Jvm.Cond.laysFinal "StrataBase$Program" "StrataBase$Program" "reached" "[J") ∈ tblG := rn_1 (List.mem_of_getElem? (i := 174) (by decide +kernel)) (by decide +kernel)
theorem wd_177 : (Jvm.Cond.arrayClass Jvm.ClassFile.FieldType.long) ∈ tblG := rn_1 (List.mem_of_getElem? (i := 177) (by decide +kernel)) (by decide +kernel)
theorem wd_178 : (Jvm.Cond.classLink "StrataBase" (24 : Nat) "StrataBase$Clauses") ∈ tblG := rn_1 (List.mem_of_getElem? (i := 178) (by decide +kernel)) (by decide +kernel)
theorem wd_179 : (Jvm.Cond.methodLink "StrataBase" (26 : Nat) ({ cls := "StrataBase$Clauses", name := "<init>", desc := "(I)V" } : Jvm.MethodName)) ∈ tblG := rn_1 (List.mem_of_getElem? (i := 179) (by decide +kernel)) (by decide +kernel)
theorem wd_180 : (Jvm.Cond.classLink "StrataBase" (33 : Nat) "StrataBase$Reader") ∈ tblG := rn_1 (List.mem_of_getElem? (i := 180) (by decide +kernel)) (by decide +kernel)
theorem wd_181 : (Jvm.Cond.instantiable "StrataBase$Reader" (19 : Nat)) ∈ tblG := rn_1 (List.mem_of_getElem? (i := 181) (by decide +kernel)) (by decide +kernel)
theorem wd_182 : (Jvm.Cond.methodLink "StrataBase" (35 : Nat) ({ cls := "StrataBase$Reader", name := "<init>", desc := "()V" } : Jvm.MethodName)) ∈ tblG := rn_1 (List.mem_of_getElem? (i := 182) (by decide +kernel)) (by decide +kernel)
theorem wd_183 : (Jvm.Cond.instanceMethod ({ cls := "StrataBase$Reader", name := "<init>", desc := "()V" } : Jvm.MethodName)) ∈ tblG := rn_1 (List.mem_of_getElem? (i := 183) (by decide +kernel)) (by decide +kernel)
theorem wd_184 : (Jvm.Cond.code ({ cls := "StrataBase$Reader", name := "<init>", desc := "()V" } : Jvm.MethodName) prog_9_method_1_code (1 : Nat) (Option.none : Option Jvm.ClassFile.FieldType)) ∈ tblG := rn_1 (List.mem_of_getElem? (i := 184) (by decide +kernel)) (by decide +kernel)
theorem wd_185 : (Jvm.Cond.methodLink "StrataBase$Reader" (3 : Nat) ({ cls := "java/lang/Object", name := "<init>", desc := "()V" } : Jvm.MethodName)) ∈ tblG := rn_1 (List.mem_of_getElem? (i := 185) (by decide +kernel)) (by decide +kernel)
theorem wd_186 : (Jvm.Cond.classLink "StrataBase$Reader" (9 : Nat) "StrataBase$Names") ∈ tblG := rn_1 (List.mem_of_getElem? (i := 186) (by decide +kernel)) (by decide +kernel)
theorem wd_187 : (Jvm.Cond.methodLink "StrataBase$Reader" (13 : Nat) ({ cls := "StrataBase$Names", name := "<init>", desc := "(I)V" } : Jvm.MethodName)) ∈ tblG := rn_1 (List.mem_of_getElem? (i := 187) (by decide +kernel)) (by decide +kernel)
theorem wd_188 : (Jvm.Cond.classLink "StrataBase$Reader" (22 : Nat) "StrataBase$Tokens") ∈ tblG := rn_1 (List.mem_of_getElem? (i := 188) (by decide +kernel)) (by decide +kernel)
theorem wd_189 : (Jvm.Cond.instantiable "StrataBase$Tokens" (6 : Nat)) ∈ tblG := rn_1 (List.mem_of_getElem? (i := 189) (by decide +kernel)) (by decide +kernel)
theorem wd_191 : (Jvm.Cond.instanceMethod ({ cls := "StrataBase$Tokens", name := "<init>", desc := "()V" } : Jvm.MethodName)) ∈ tblG := rn_1 (List.mem_of_getElem? (i := 191) (by decide +kernel)) (by decide +kernel)
theorem wd_192 : (Jvm.Cond.code ({ cls := "StrataBase$Tokens", name := "<init>", desc := "()V" } : Jvm.MethodName) prog_12_method_1_code (1 : Nat) (Option.none : Option Jvm.ClassFile.FieldType)) ∈ tblG := rn_1 (List.mem_of_getElem? (i := 192) (by decide +kernel)) (by decide +kernel)
theorem wd_193 : (Jvm.Cond.methodLink "StrataBase$Tokens" (1 : Nat) ({ cls := "java/lang/Object", name := "<init>", desc := "()V" } : Jvm.MethodName)) ∈ tblG := rn_1 (List.mem_of_getElem? (i := 193) (by decide +kernel)) (by decide +kernel)
theorem wd_194 : (Jvm.Cond.fieldLink "StrataBase$Tokens" (7 : Nat) "StrataBase$Tokens" "text" "[B") ∈ tblG := rn_1 (List.mem_of_getElem? (i := 194) (by decide +kernel)) (by decide +kernel)
theorem wd_195 : (Jvm.Cond.fieldLink "StrataBase$Reader" (178 : Nat) "StrataBase$Tokens" "text" "[B") ∈ tblG := rn_1 (List.mem_of_getElem? (i := 195) (by decide +kernel)) (by decide +kernel)
theorem wd_196 : (Jvm.Cond.fieldLink "StrataBase$Tokens" (29 : Nat) "StrataBase$Tokens" "kind" "I") ∈ tblG := rn_1 (List.mem_of_getElem? (i := 196) (by decide +kernel)) (by decide +kernel)
theorem wd_197 : (Jvm.Cond.fieldLink "StrataBase$Reader" (123 : Nat) "StrataBase$Tokens" "kind" "I") ∈ tblG := rn_1 (List.mem_of_getElem? (i := 197) (by decide +kernel)) (by decide +kernel)
theorem wd_198 : (Jvm.Cond.fieldLink "StrataBase$Tokens" (23 : Nat) "StrataBase$Tokens" "start" "I") ∈ tblG := rn_1 (List.mem_of_getElem? (i := 198) (by decide +kernel)) (by decide +kernel)
theorem wd_199 : (Jvm.Cond.fieldLink "StrataBase$Reader" (129 : Nat) "StrataBase$Tokens" "start" "I") ∈ tblG := rn_1 (List.mem_of_getElem? (i := 199) (by decide +kernel)) (by decide +kernel)
theorem wd_200 : (Jvm.Cond.fieldLink "StrataBase$Tokens" (17 : Nat) "StrataBase$Tokens" "stop" "I") ∈ tblG := rn_1 (List.mem_of_getElem? (i := 200) (by decide +kernel)) (by decide +kernel)
theorem wd_201 : (Jvm.Cond.fieldLink "StrataBase$Reader" (170 : Nat) "StrataBase$Tokens" "stop" "I") ∈ tblG := rn_1 (List.mem_of_getElem? (i := 201) (by decide +kernel)) (by decide +kernel)
theorem wd_202 : (Jvm.Cond.fieldLink "StrataBase$Tokens" (26 : Nat) "StrataBase$Tokens" "value" "I") ∈ tblG := rn_1 (List.mem_of_getElem? (i := 202) (by decide +kernel)) (by decide +kernel)
theorem wd_203 : (Jvm.Cond.fieldLink "StrataBase$Reader" (255 : Nat) "StrataBase$Tokens" "value" "I") ∈ tblG := rn_1 (List.mem_of_getElem? (i := 203) (by decide +kernel)) (by decide +kernel)
theorem wd_204 : (Jvm.Cond.fieldLink "StrataBase$Tokens" (13 : Nat) "StrataBase$Tokens" "length" "I") ∈ tblG := rn_1 (List.mem_of_getElem? (i := 204) (by decide +kernel)) (by decide +kernel)
theorem wd_205 : (Jvm.Cond.lays "StrataBase$Tokens" "StrataBase$Tokens" "text" "[B") ∈ tblG := rn_1 (List.mem_of_getElem? (i := 205) (by decide +kernel)) (by decide +kernel)
theorem wd_207 : (Jvm.Cond.lays "StrataBase$Tokens" "StrataBase$Tokens" "kind" "I") ∈ tblG := rn_1 (List.mem_of_getElem? (i := 207) (by decide +kernel)) (by decide +kernel)
theorem wd_209 : (Jvm.Cond.lays "StrataBase$Tokens" "StrataBase$Tokens" "start" "I") ∈ tblG := rn_1 (List.mem_of_getElem? (i := 209) (by decide +kernel)) (by decide +kernel)
theorem wd_211 : (Jvm.Cond.lays "StrataBase$Tokens" "StrataBase$Tokens" "stop" "I") ∈ tblG := rn_1 (List.mem_of_getElem? (i := 211) (by decide +kernel)) (by decide +kernel)
theorem wd_213 : (Jvm.Cond.lays "StrataBase$Tokens" "StrataBase$Tokens" "value" "I") ∈ tblG := rn_1 (List.mem_of_getElem? (i := 213) (by decide +kernel)) (by decide +kernel)
theorem wd_215 : (Jvm.Cond.lays "StrataBase$Tokens" "StrataBase$Tokens" "length" "I") ∈ tblG := rn_1 (List.mem_of_getElem? (i := 215) (by decide +kernel)) (by decide +kernel)
theorem wd_218 : (Jvm.Cond.classLink "StrataBase$Reader" (39 : Nat) "StrataBase$Constants") ∈ tblG := rn_1 (List.mem_of_getElem? (i := 218) (by decide +kernel)) (by decide +kernel)
theorem wd_219 : (Jvm.Cond.methodLink "StrataBase$Reader" (41 : Nat) ({ cls := "StrataBase$Constants", name := "<init>", desc := "(I)V" } : Jvm.MethodName)) ∈ tblG := rn_1 (List.mem_of_getElem? (i := 219) (by decide +kernel)) (by decide +kernel)
theorem wd_220 : (Jvm.Cond.fieldLink "StrataBase$Reader" (104 : Nat) "StrataBase$Reader" "code" "I") ∈ tblG := rn_1 (List.mem_of_getElem? (i := 220) (by decide +kernel)) (by decide +kernel)
theorem wd_221 : (Jvm.Cond.fieldLink "StrataBase" (134 : Nat) "StrataBase$Reader" "code" "I") ∈ tblG := rn_1 (List.mem_of_getElem? (i := 221) (by decide +kernel)) (by decide +kernel)
theorem wd_222 : (Jvm.Cond.fieldLink "StrataBase" (95 : Nat) "StrataBase$Reader" "place" "I") ∈ tblG := rn_1 (List.mem_of_getElem? (i := 222) (by decide +kernel)) (by decide +kernel)
theorem wd_223 : (Jvm.Cond.fieldLink "StrataBase$Reader" (139 : Nat) "StrataBase$Reader" "place" "I") ∈ tblG := rn_1 (List.mem_of_getElem? (i := 223) (by decide +kernel)) (by decide +kernel)
theorem wd_224 : (Jvm.Cond.fieldLink "StrataBase$Reader" (16 : Nat) "StrataBase$Reader" "variables" "LStrataBase$Names;") ∈ tblG := rn_1 (List.mem_of_getElem? (i := 224) (by decide +kernel)) (by decide +kernel)
theorem wd_225 : (Jvm.Cond.fieldLink "StrataBase" (137 : Nat) "StrataBase$Reader" "variables" "LStrataBase$Names;") ∈ tblG := rn_1 (List.mem_of_getElem? (i := 225) (by decide +kernel)) (by decide +kernel)
theorem wd_226 : (Jvm.Cond.fieldLink "StrataBase" (144 : Nat) "StrataBase$Reader" "anonymous" "I") ∈ tblG := rn_1 (List.mem_of_getElem? (i := 226) (by decide +kernel)) (by decide +kernel)
theorem wd_227 : (Jvm.Cond.fieldLink "StrataBase$Reader" (142 : Nat) "StrataBase$Reader" "anonymous" "I") ∈ tblG := rn_1 (List.mem_of_getElem? (i := 227) (by decide +kernel)) (by decide +kernel)
theorem wd_228 : (Jvm.Cond.fieldLink "StrataBase$Reader" (25 : Nat) "StrataBase$Reader" "tokens" "LStrataBase$Tokens;") ∈ tblG := rn_1 (List.mem_of_getElem? (i := 228) (by decide +kernel)) (by decide +kernel)
theorem wd_229 : (Jvm.Cond.fieldLink "StrataBase$Reader" (46 : Nat) "StrataBase$Reader" "mode" "I") ∈ tblG := rn_1 (List.mem_of_getElem? (i := 229) (by decide +kernel)) (by decide +kernel)
theorem wd_230 : (Jvm.Cond.fieldLink "StrataBase$Reader" (65 : Nat) "StrataBase$Reader" "state" "I") ∈ tblG := rn_1 (List.mem_of_getElem? (i := 230) (by decide +kernel)) (by decide +kernel)
theorem wd_231 : (Jvm.Cond.fieldLink "StrataBase$Reader" (50 : Nat) "StrataBase$Reader" "program" "LStrataBase$Program;") ∈ tblG := rn_1 (List.mem_of_getElem? (i := 231) (by decide +kernel)) (by decide +kernel)
theorem wd_232 : (Jvm.Cond.fieldLink "StrataBase$Reader" (54 : Nat) "StrataBase$Reader" "target" "LStrataBase$Clauses;") ∈ tblG := rn_1 (List.mem_of_getElem? (i := 232) (by decide +kernel)) (by decide +kernel)
theorem wd_233 : (Jvm.Cond.fieldLink "StrataBase$Reader" (148 : Nat) "StrataBase$Reader" "bodySize" "I") ∈ tblG := rn_1 (List.mem_of_getElem? (i := 233) (by decide +kernel)) (by decide +kernel)
theorem wd_234 : (Jvm.Cond.fieldLink "StrataBase$Reader" (151 : Nat) "StrataBase$Reader" "inHead" "Z") ∈ tblG := rn_1 (List.mem_of_getElem? (i := 234) (by decide +kernel)) (by decide +kernel)
theorem wd_235 : (Jvm.Cond.fieldLink "StrataBase$Reader" (194 : Nat) "StrataBase$Reader" "foreign" "Z") ∈ tblG := rn_1 (List.mem_of_getElem? (i := 235) (by decide +kernel)) (by decide +kernel)
theorem wd_236 : (Jvm.Cond.fieldLink "StrataBase$Reader" (167 : Nat) "StrataBase$Reader" "nameStart" "I") ∈ tblG := rn_1 (List.mem_of_getElem? (i := 236) (by decide +kernel)) (by decide +kernel)
theorem wd_237 : (Jvm.Cond.fieldLink "StrataBase$Reader" (172 : Nat) "StrataBase$Reader" "nameStop" "I") ∈ tblG := rn_1 (List.mem_of_getElem? (i := 237) (by decide +kernel)) (by decide +kernel)
theorem wd_238 : (Jvm.Cond.fieldLink "StrataBase$Reader" (145 : Nat) "StrataBase$Reader" "positive" "I") ∈ tblG := rn_1 (List.mem_of_getElem? (i := 238) (by decide +kernel)) (by decide +kernel)
theorem wd_239 : (Jvm.Cond.fieldLink "StrataBase$Reader" (29 : Nat) "StrataBase$Reader" "needed" "[I") ∈ tblG := rn_1 (List.mem_of_getElem? (i := 239) (by decide +kernel)) (by decide +kernel)
theorem wd_240 : (Jvm.Cond.fieldLink "StrataBase$Reader" (33 : Nat) "StrataBase$Reader" "ownPredicates" "LStrataBase$Names;") ∈ tblG := rn_2 (List.mem_of_getElem? (i := 0) (by decide +kernel)) (by decide +kernel)
theorem wd_241 : (Jvm.Cond.fieldLink "StrataBase$Reader" (36 : Nat) "StrataBase$Reader" "ownSizes" "[I") ∈ tblG := rn_2 (List.mem_of_getElem? (i := 1) (by decide +kernel)) (by decide +kernel)
theorem wd_242 : (Jvm.Cond.fieldLink "StrataBase$Reader" (42 : Nat) "StrataBase$Reader" "sides" "LStrataBase$Constants;") ∈ tblG := rn_2 (List.mem_of_getElem? (i := 2) (by decide +kernel)) (by decide +kernel)
theorem wd_243 : (Jvm.Cond.lays "StrataBase$Reader" "StrataBase$Reader" "code" "I") ∈ tblG := rn_2 (List.mem_of_getElem? (i := 3) (by decide +kernel)) (by decide +kernel)
theorem wd_245 : (Jvm.Cond.lays "StrataBase$Reader" "StrataBase$Reader" "place" "I") ∈ tblG := rn_2 (List.mem_of_getElem? (i := 5) (by decide +kernel)) (by decide +kernel)
theorem wd_247 : (Jvm.Cond.laysFinal "StrataBase$Reader" "StrataBase$Reader" "variables" "LStrataBase$Names;") ∈ tblG := rn_2 (List.mem_of_getElem? (i := 7) (by decide +kernel)) (by decide +kernel)
theorem wd_249 : (Jvm.Cond.lays "StrataBase$Reader" "StrataBase$Reader" "anonymous" "I") ∈ tblG := rn_2 (List.mem_of_getElem? (i := 9) (by decide +kernel)) (by decide +kernel)
theorem wd_251 : (Jvm.Cond.laysFinal "StrataBase$Reader" "StrataBase$Reader" "tokens" "LStrataBase$Tokens;") ∈ tblG := rn_2 (List.mem_of_getElem? (i := 11) (by decide +kernel)) (by decide +kernel)
theorem wd_253 : (Jvm.Cond.lays "StrataBase$Reader" "StrataBase$Reader" "mode" "I") ∈ tblG := rn_2 (List.mem_of_getElem? (i := 13) (by decide +kernel)) (by decide +kernel)
theorem wd_255 : (Jvm.Cond.lays "StrataBase$Reader" "StrataBase$Reader" "state" "I") ∈ tblG := rn_2 (List.mem_of_getElem? (i := 15) (by decide +kernel)) (by decide +kernel)
theorem wd_257 : (Jvm.Cond.lays "StrataBase$Reader" "StrataBase$Reader" "program" "LStrataBase$Program;") ∈ tblG := rn_2 (List.mem_of_getElem? (i := 17) (by decide +kernel)) (by decide +kernel)
theorem wd_259 : (Jvm.Cond.lays "StrataBase$Reader" "StrataBase$Reader" "target" "LStrataBase$Clauses;") ∈ tblG := rn_2 (List.mem_of_getElem? (i := 19) (by decide +kernel)) (by decide +kernel)
theorem wd_261 : (Jvm.Cond.lays "StrataBase$Reader" "StrataBase$Reader" "bodySize" "I") ∈ tblG := rn_2 (List.mem_of_getElem? (i := 21) (by decide +kernel)) (by decide +kernel)
theorem wd_263 : (Jvm.Cond.lays "StrataBase$Reader" "StrataBase$Reader" "inHead" "Z") ∈ tblG := rn_2 (List.mem_of_getElem? (i := 23) (by decide +kernel)) (by decide +kernel)
theorem wd_265 : (Jvm.Cond.lays "StrataBase$Reader" "StrataBase$Reader" "foreign" "Z") ∈ tblG := rn_2 (List.mem_of_getElem? (i := 25) (by decide +kernel)) (by decide +kernel)
theorem wd_267 : (Jvm.Cond.lays "StrataBase$Reader" "StrataBase$Reader" "nameStart" "I") ∈ tblG := rn_2 (List.mem_of_getElem? (i := 27) (by decide +kernel)) (by decide +kernel)
theorem wd_269 : (Jvm.Cond.lays "StrataBase$Reader" "StrataBase$Reader" "nameStop" "I") ∈ tblG := rn_2 (List.mem_of_getElem? (i := 29) (by decide +kernel)) (by decide +kernel)
theorem wd_271 : (Jvm.Cond.lays "StrataBase$Reader" "StrataBase$Reader" "positive" "I") ∈ tblG := rn_2 (List.mem_of_getElem? (i := 31) (by decide +kernel)) (by decide +kernel)
theorem wd_273 : (Jvm.Cond.laysFinal "StrataBase$Reader" "StrataBase$Reader" "needed" "[I") ∈ tblG := rn_2 (List.mem_of_getElem? (i := 33) (by decide +kernel)) (by decide +kernel)
theorem wd_275 : (Jvm.Cond.laysFinal "StrataBase$Reader" "StrataBase$Reader" "ownPredicates" "LStrataBase$Names;") ∈ tblG := rn_2 (List.mem_of_getElem? (i := 35) (by decide +kernel)) (by decide +kernel)
theorem wd_277 : (Jvm.Cond.laysFinal "StrataBase$Reader" "StrataBase$Reader" "ownSizes" "[I") ∈ tblG := rn_2 (List.mem_of_getElem? (i := 37) (by decide +kernel)) (by decide +kernel)
theorem wd_279 : (Jvm.Cond.laysFinal "StrataBase$Reader" "StrataBase$Reader" "sides" "LStrataBase$Constants;") ∈ tblG := rn_2 (List.mem_of_getElem? (i := 39) (by decide +kernel)) (by decide +kernel)
theorem wd_282 : (Jvm.Cond.classLink "StrataBase" (40 : Nat) "StrataBase$Facts") ∈ tblG := rn_2 (List.mem_of_getElem? (i := 42) (by decide +kernel)) (by decide +kernel)
theorem wd_283 : (Jvm.Cond.instantiable "StrataBase$Facts" (14 : Nat)) ∈ tblG := rn_2 (List.mem_of_getElem? (i := 43) (by decide +kernel)) (by decide +kernel)
theorem wd_284 : (Jvm.Cond.methodLink "StrataBase" (42 : Nat) ({ cls := "StrataBase$Facts", name := "<init>", desc := "()V" } : Jvm.MethodName)) ∈ tblG := rn_2 (List.mem_of_getElem? (i := 44) (by decide +kernel)) (by decide +kernel)
theorem wd_285 : (Jvm.Cond.instanceMethod ({ cls := "StrataBase$Facts", name := "<init>", desc := "()V" } : Jvm.MethodName)) ∈ tblG := rn_2 (List.mem_of_getElem? (i := 45) (by decide +kernel)) (by decide +kernel)
theorem wd_286 : (Jvm.Cond.code ({ cls := "StrataBase$Facts", name := "<init>", desc := "()V" } : Jvm.MethodName) prog_4_method_1_code (1 : Nat) (Option.none : Option Jvm.ClassFile.FieldType)) ∈ tblG := rn_2 (List.mem_of_getElem? (i := 46) (by decide +kernel)) (by decide +kernel)
theorem wd_287 : (Jvm.Cond.methodLink "StrataBase$Facts" (5 : Nat) ({ cls := "java/lang/Object", name := "<init>", desc := "()V" } : Jvm.MethodName)) ∈ tblG := rn_2 (List.mem_of_getElem? (i := 47) (by decide +kernel)) (by decide +kernel)
theorem wd_288 : (Jvm.Cond.constant "StrataBase$Facts" (30 : Nat) (32768 : Int32)) ∈ tblG := rn_2 (List.mem_of_getElem? (i := 48) (by decide +kernel)) (by decide +kernel)
theorem wd_289 : (Jvm.Cond.fieldLink "StrataBase$Facts" (46 : Nat) "StrataBase$Facts" "size" "I") ∈ tblG := rn_2 (List.mem_of_getElem? (i := 49) (by decide +kernel)) (by decide +kernel)
theorem wd_290 : (Jvm.Cond.fieldLink "StrataBase$Join" (78 : Nat) "StrataBase$Facts" "size" "I") ∈ tblG := rn_2 (List.mem_of_getElem? (i := 50) (by decide +kernel)) (by decide +kernel)
theorem wd_291 : (Jvm.Cond.fieldLink "StrataBase" (128 : Nat) "StrataBase$Facts" "size" "I") ∈ tblG := rn_2 (List.mem_of_getElem? (i := 51) (by decide +kernel)) (by decide +kernel)
theorem wd_292 : (Jvm.Cond.fieldLink "StrataBase$Facts" (50 : Nat) "StrataBase$Facts" "highest" "I") ∈ tblG := rn_2 (List.mem_of_getElem? (i := 52) (by decide +kernel)) (by decide +kernel)
theorem wd_293 : (Jvm.Cond.fieldLink "StrataBase" (213 : Nat) "StrataBase$Facts" "highest" "I") ∈ tblG := rn_2 (List.mem_of_getElem? (i := 53) (by decide +kernel)) (by decide +kernel)
theorem wd_294 : (Jvm.Cond.fieldLink "StrataBase$Facts" (53 : Nat) "StrataBase$Facts" "full" "Z") ∈ tblG := rn_2 (List.mem_of_getElem? (i := 54) (by decide +kernel)) (by decide +kernel)
theorem wd_295 : (Jvm.Cond.fieldLink "StrataBase" (121 : Nat) "StrataBase$Facts" "full" "Z") ∈ tblG := rn_2 (List.mem_of_getElem? (i := 55) (by decide +kernel)) (by decide +kernel)
theorem wd_296 : (Jvm.Cond.fieldLink "StrataBase$Join" (120 : Nat) "StrataBase$Facts" "full" "Z") ∈ tblG := rn_2 (List.mem_of_getElem? (i := 56) (by decide +kernel)) (by decide +kernel)
theorem wd_297 : (Jvm.Cond.fieldLink "StrataBase$Facts" (11 : Nat) "StrataBase$Facts" "keys" "[J") ∈ tblG := rn_2 (List.mem_of_getElem? (i := 57) (by decide +kernel)) (by decide +kernel)
theorem wd_298 : (Jvm.Cond.fieldLink "StrataBase$Indexes" (87 : Nat) "StrataBase$Facts" "keys" "[J") ∈ tblG := rn_2 (List.mem_of_getElem? (i := 58) (by decide +kernel)) (by decide +kernel)
theorem wd_299 : (Jvm.Cond.fieldLink "StrataBase$Facts" (15 : Nat) "StrataBase$Facts" "stages" "[I") ∈ tblG := rn_2 (List.mem_of_getElem? (i := 59) (by decide +kernel)) (by decide +kernel)
theorem wd_300 : (Jvm.Cond.fieldLink "StrataBase" (201 : Nat) "StrataBase$Facts" "stages" "[I") ∈ tblG := rn_2 (List.mem_of_getElem? (i := 60) (by decide +kernel)) (by decide +kernel)
theorem wd_301 : (Jvm.Cond.fieldLink "StrataBase$Facts" (21 : Nat) "StrataBase$Facts" "amounts" "[I") ∈ tblG := rn_2 (List.mem_of_getElem? (i := 61) (by decide +kernel)) (by decide +kernel)
theorem wd_302 : (Jvm.Cond.fieldLink "StrataBase$Join" (173 : Nat) "StrataBase$Facts" "amounts" "[I") ∈ tblG := rn_2 (List.mem_of_getElem? (i := 62) (by decide +kernel)) (by decide +kernel)
theorem wd_303 : (Jvm.Cond.fieldLink "StrataBase$Facts" (24 : Nat) "StrataBase$Facts" "predicates" "[I") ∈ tblG := rn_2 (List.mem_of_getElem? (i := 63) (by decide +kernel)) (by decide +kernel)
theorem wd_304 : (Jvm.Cond.fieldLink "StrataBase$Facts" (27 : Nat) "StrataBase$Facts" "next" "[I") ∈ tblG := rn_2 (List.mem_of_getElem? (i := 64) (by decide +kernel)) (by decide +kernel)
theorem wd_305 : (Jvm.Cond.fieldLink "StrataBase$Facts" (31 : Nat) "StrataBase$Facts" "slots" "[I") ∈ tblG := rn_2 (List.mem_of_getElem? (i := 65) (by decide +kernel)) (by decide +kernel)
theorem wd_306 : (Jvm.Cond.fieldLink "StrataBase$Facts" (34 : Nat) "StrataBase$Facts" "oldest" "[I") ∈ tblG := rn_2 (List.mem_of_getElem? (i := 66) (by decide +kernel)) (by decide +kernel)
theorem wd_307 : (Jvm.Cond.fieldLink "StrataBase$Facts" (37 : Nat) "StrataBase$Facts" "newest" "[I") ∈ tblG := rn_2 (List.mem_of_getElem? (i := 67) (by decide +kernel)) (by decide +kernel)
theorem wd_308 : (Jvm.Cond.fieldLink "StrataBase$Facts" (40 : Nat) "StrataBase$Facts" "known" "[I") ∈ tblG := rn_2 (List.mem_of_getElem? (i := 68) (by decide +kernel)) (by decide +kernel)
theorem wd_309 : (Jvm.Cond.fieldLink "StrataBase$Facts" (43 : Nat) "StrataBase$Facts" "knownBefore" "[I") ∈ tblG := rn_2 (List.mem_of_getElem? (i := 69) (by decide +kernel)) (by decide +kernel)
theorem wd_310 : (Jvm.Cond.fieldLink "StrataBase$Facts" (57 : Nat) "StrataBase$Facts" "visible" "I") ∈ tblG := rn_2 (List.mem_of_getElem? (i := 70) (by decide +kernel)) (by decide +kernel)
theorem wd_311 : (Jvm.Cond.lays "StrataBase$Facts" "StrataBase$Facts" "size" "I") ∈ tblG := rn_2 (List.mem_of_getElem? (i := 71) (by decide +kernel)) (by decide +kernel)
theorem wd_313 : (Jvm.Cond.lays "StrataBase$Facts" "StrataBase$Facts" "highest" "I") ∈ tblG := rn_2 (List.mem_of_getElem? (i := 73) (by decide +kernel)) (by decide +kernel)
theorem wd_315 : (Jvm.Cond.lays "StrataBase$Facts" "StrataBase$Facts" "full" "Z") ∈ tblG := rn_2 (List.mem_of_getElem? (i := 75) (by decide +kernel)) (by decide +kernel)
theorem wd_317 : (Jvm.Cond.laysFinal "StrataBase$Facts" "StrataBase$Facts" "keys" "[J") ∈ tblG := rn_2 (List.mem_of_getElem? (i := 77) (by decide +kernel)) (by decide +kernel)
theorem wd_319 : (Jvm.Cond.laysFinal "StrataBase$Facts" "StrataBase$Facts" "stages" "[I") ∈ tblG := rn_2 (List.mem_of_getElem? (i := 79) (by decide +kernel)) (by decide +kernel)
theorem wd_321 : (Jvm.Cond.laysFinal "StrataBase$Facts" "StrataBase$Facts" "amounts" "[I") ∈ tblG := rn_2 (List.mem_of_getElem? (i := 81) (by decide +kernel)) (by decide +kernel)
theorem wd_323 : (Jvm.Cond.laysFinal "StrataBase$Facts" "StrataBase$Facts" "predicates" "[I") ∈ tblG := rn_2 (List.mem_of_getElem? (i := 83) (by decide +kernel)) (by decide +kernel)
theorem wd_325 : (Jvm.Cond.laysFinal "StrataBase$Facts" "StrataBase$Facts" "next" "[I") ∈ tblG := rn_2 (List.mem_of_getElem? (i := 85) (by decide +kernel)) (by decide +kernel)
theorem wd_327 : (Jvm.Cond.laysFinal "StrataBase$Facts" "StrataBase$Facts" "slots" "[I") ∈ tblG := rn_2 (List.mem_of_getElem? (i := 87) (by decide +kernel)) (by decide +kernel)
theorem wd_329 : (Jvm.Cond.laysFinal "StrataBase$Facts" "StrataBase$Facts" "oldest" "[I") ∈ tblG := rn_2 (List.mem_of_getElem? (i := 89) (by decide +kernel)) (by decide +kernel)
theorem wd_331 : (Jvm.Cond.laysFinal "StrataBase$Facts" "StrataBase$Facts" "newest" "[I") ∈ tblG := rn_2 (List.mem_of_getElem? (i := 91) (by decide +kernel)) (by decide +kernel)
theorem wd_333 : (Jvm.Cond.laysFinal "StrataBase$Facts" "StrataBase$Facts" "known" "[I") ∈ tblG := rn_2 (List.mem_of_getElem? (i := 93) (by decide +kernel)) (by decide +kernel)
theorem wd_335 : (Jvm.Cond.laysFinal "StrataBase$Facts" "StrataBase$Facts" "knownBefore" "[I") ∈ tblG := rn_2 (List.mem_of_getElem? (i := 95) (by decide +kernel)) (by decide +kernel)
theorem wd_337 : (Jvm.Cond.lays "StrataBase$Facts" "StrataBase$Facts" "visible" "I") ∈ tblG := rn_2 (List.mem_of_getElem? (i := 97) (by decide +kernel)) (by decide +kernel)
theorem wd_340 : (Jvm.Cond.classLink "StrataBase" (47 : Nat) "StrataBase$Join") ∈ tblG := rn_2 (List.mem_of_getElem? (i := 100) (by decide +kernel)) (by decide +kernel)
theorem wd_341 : (Jvm.Cond.instantiable "StrataBase$Join" (11 : Nat)) ∈ tblG := rn_2 (List.mem_of_getElem? (i := 101) (by decide +kernel)) (by decide +kernel)
theorem wd_342 : (Jvm.Cond.methodLink "StrataBase" (49 : Nat) ({ cls := "StrataBase$Join", name := "<init>", desc := "(LStrataBase$Facts;)V" } : Jvm.MethodName)) ∈ tblG := rn_2 (List.mem_of_getElem? (i := 102) (by decide +kernel)) (by decide +kernel)
theorem wd_343 : (Jvm.Cond.instanceMethod ({ cls := "StrataBase$Join", name := "<init>", desc := "(LStrataBase$Facts;)V" } : Jvm.MethodName)) ∈ tblG := rn_2 (List.mem_of_getElem? (i := 103) (by decide +kernel)) (by decide +kernel)
theorem wd_344 : (Jvm.Cond.code ({ cls := "StrataBase$Join", name := "<init>", desc := "(LStrataBase$Facts;)V" } : Jvm.MethodName) prog_6_method_1_code (3 : Nat) (Option.none : Option Jvm.ClassFile.FieldType)) ∈ tblG := rn_2 (List.mem_of_getElem? (i := 104) (by decide +kernel)) (by decide +kernel)
theorem wd_345 : (Jvm.Cond.methodLink "StrataBase$Join" (3 : Nat) ({ cls := "java/lang/Object", name := "<init>", desc := "()V" } : Jvm.MethodName)) ∈ tblG := rn_2 (List.mem_of_getElem? (i := 105) (by decide +kernel)) (by decide +kernel)
theorem wd_346 : (Jvm.Cond.classLink "StrataBase$Join" (21 : Nat) "StrataBase$Indexes") ∈ tblG := rn_2 (List.mem_of_getElem? (i := 106) (by decide +kernel)) (by decide +kernel)
theorem wd_347 : (Jvm.Cond.instantiable "StrataBase$Indexes" (9 : Nat)) ∈ tblG := rn_2 (List.mem_of_getElem? (i := 107) (by decide +kernel)) (by decide +kernel)
theorem wd_348 : (Jvm.Cond.methodLink "StrataBase$Join" (23 : Nat) ({ cls := "StrataBase$Indexes", name := "<init>", desc := "()V" } : Jvm.MethodName)) ∈ tblG := rn_2 (List.mem_of_getElem? (i := 108) (by decide +kernel)) (by decide +kernel)
theorem wd_349 : (Jvm.Cond.instanceMethod ({ cls := "StrataBase$Indexes", name := "<init>", desc := "()V" } : Jvm.MethodName)) ∈ tblG := rn_2 (List.mem_of_getElem? (i := 109) (by decide +kernel)) (by decide +kernel)
theorem wd_350 : (Jvm.Cond.code ({ cls := "StrataBase$Indexes", name := "<init>", desc := "()V" } : Jvm.MethodName) prog_5_method_1_code (1 : Nat) (Option.none : Option Jvm.ClassFile.FieldType)) ∈ tblG := rn_2 (List.mem_of_getElem? (i := 110) (by decide +kernel)) (by decide +kernel)
theorem wd_351 : (Jvm.Cond.methodLink "StrataBase$Indexes" (3 : Nat) ({ cls := "java/lang/Object", name := "<init>", desc := "()V" } : Jvm.MethodName)) ∈ tblG := rn_2 (List.mem_of_getElem? (i := 111) (by decide +kernel)) (by decide +kernel)
theorem wd_352 : (Jvm.Cond.fieldLink "StrataBase$Indexes" (34 : Nat) "StrataBase$Indexes" "size" "I") ∈ tblG := rn_2 (List.mem_of_getElem? (i := 112) (by decide +kernel)) (by decide +kernel)
theorem wd_353 : (Jvm.Cond.fieldLink "StrataBase$Indexes" (11 : Nat) "StrataBase$Indexes" "shapes" "[I") ∈ tblG := rn_2 (List.mem_of_getElem? (i := 113) (by decide +kernel)) (by decide +kernel)
theorem wd_354 : (Jvm.Cond.fieldLink "StrataBase$Indexes" (15 : Nat) "StrataBase$Indexes" "fixed" "[J") ∈ tblG := rn_2 (List.mem_of_getElem? (i := 114) (by decide +kernel)) (by decide +kernel)
theorem wd_355 : (Jvm.Cond.fieldLink "StrataBase$Indexes" (19 : Nat) "StrataBase$Indexes" "firsts" "[I") ∈ tblG := rn_2 (List.mem_of_getElem? (i := 115) (by decide +kernel)) (by decide +kernel)
theorem wd_356 : (Jvm.Cond.fieldLink "StrataBase$Indexes" (22 : Nat) "StrataBase$Indexes" "lasts" "[I") ∈ tblG := rn_2 (List.mem_of_getElem? (i := 116) (by decide +kernel)) (by decide +kernel)
theorem wd_357 : (Jvm.Cond.fieldLink "StrataBase$Indexes" (25 : Nat) "StrataBase$Indexes" "froms" "[I") ∈ tblG := rn_2 (List.mem_of_getElem? (i := 117) (by decide +kernel)) (by decide +kernel)
theorem wd_358 : (Jvm.Cond.fieldLink "StrataBase$Indexes" (28 : Nat) "StrataBase$Indexes" "tos" "[I") ∈ tblG := rn_2 (List.mem_of_getElem? (i := 118) (by decide +kernel)) (by decide +kernel)
theorem wd_359 : (Jvm.Cond.fieldLink "StrataBase$Indexes" (31 : Nat) "StrataBase$Indexes" "pool" "[J") ∈ tblG := rn_2 (List.mem_of_getElem? (i := 119) (by decide +kernel)) (by decide +kernel)
theorem wd_360 : (Jvm.Cond.fieldLink "StrataBase$Indexes" (38 : Nat) "StrataBase$Indexes" "used" "I") ∈ tblG := rn_2 (List.mem_of_getElem? (i := 120) (by decide +kernel)) (by decide +kernel)
theorem wd_361 : (Jvm.Cond.lays "StrataBase$Indexes" "StrataBase$Indexes" "size" "I") ∈ tblG := rn_2 (List.mem_of_getElem? (i := 121) (by decide +kernel)) (by decide +kernel)
theorem wd_363 : (Jvm.Cond.laysFinal "StrataBase$Indexes" "StrataBase$Indexes" "shapes" "[I") ∈ tblG := rn_2 (List.mem_of_getElem? (i := 123) (by decide +kernel)) (by decide +kernel)
theorem wd_365 : (Jvm.Cond.laysFinal "StrataBase$Indexes" "StrataBase$Indexes" "fixed" "[J") ∈ tblG := rn_2 (List.mem_of_getElem? (i := 125) (by decide +kernel)) (by decide +kernel)
theorem wd_367 : (Jvm.Cond.laysFinal "StrataBase$Indexes" "StrataBase$Indexes" "firsts" "[I") ∈ tblG := rn_2 (List.mem_of_getElem? (i := 127) (by decide +kernel)) (by decide +kernel)
theorem wd_369 : (Jvm.Cond.laysFinal "StrataBase$Indexes" "StrataBase$Indexes" "lasts" "[I") ∈ tblG := rn_2 (List.mem_of_getElem? (i := 129) (by decide +kernel)) (by decide +kernel)
theorem wd_371 : (Jvm.Cond.laysFinal "StrataBase$Indexes" "StrataBase$Indexes" "froms" "[I") ∈ tblG := rn_2 (List.mem_of_getElem? (i := 131) (by decide +kernel)) (by decide +kernel)
theorem wd_373 : (Jvm.Cond.laysFinal "StrataBase$Indexes" "StrataBase$Indexes" "tos" "[I") ∈ tblG := rn_2 (List.mem_of_getElem? (i := 133) (by decide +kernel)) (by decide +kernel)
theorem wd_375 : (Jvm.Cond.lays "StrataBase$Indexes" "StrataBase$Indexes" "pool" "[J") ∈ tblG := rn_2 (List.mem_of_getElem? (i := 135) (by decide +kernel)) (by decide +kernel)
theorem wd_377 : (Jvm.Cond.lays "StrataBase$Indexes" "StrataBase$Indexes" "used" "I") ∈ tblG := rn_2 (List.mem_of_getElem? (i := 137) (by decide +kernel)) (by decide +kernel)
theorem wd_380 : (Jvm.Cond.classLink "StrataBase$Join" (28 : Nat) "StrataBase$Step") ∈ tblG := rn_2 (List.mem_of_getElem? (i := 140) (by decide +kernel)) (by decide +kernel)
theorem wd_382 : (Jvm.Cond.instantiable "StrataBase$Step" (17 : Nat)) ∈ tblG := rn_2 (List.mem_of_getElem? (i := 142) (by decide +kernel)) (by decide +kernel)
theorem wd_383 : (Jvm.Cond.methodLink "StrataBase$Join" (34 : Nat) ({ cls := "StrataBase$Step", name := "<init>", desc := "()V" } : Jvm.MethodName)) ∈ tblG := rn_2 (List.mem_of_getElem? (i := 143) (by decide +kernel)) (by decide +kernel)
theorem wd_384 : (Jvm.Cond.instanceMethod ({ cls := "StrataBase$Step", name := "<init>", desc := "()V" } : Jvm.MethodName)) ∈ tblG := rn_2 (List.mem_of_getElem? (i := 144) (by decide +kernel)) (by decide +kernel)
theorem wd_385 : (Jvm.Cond.code ({ cls := "StrataBase$Step", name := "<init>", desc := "()V" } : Jvm.MethodName) prog_11_method_1_code (1 : Nat) (Option.none : Option Jvm.ClassFile.FieldType)) ∈ tblG := rn_2 (List.mem_of_getElem? (i := 145) (by decide +kernel)) (by decide +kernel)
theorem wd_386 : (Jvm.Cond.methodLink "StrataBase$Step" (3 : Nat) ({ cls := "java/lang/Object", name := "<init>", desc := "()V" } : Jvm.MethodName)) ∈ tblG := rn_2 (List.mem_of_getElem? (i := 146) (by decide +kernel)) (by decide +kernel)
theorem wd_387 : (Jvm.Cond.fieldLink "StrataBase$Step" (23 : Nat) "StrataBase$Step" "literal" "I") ∈ tblG := rn_2 (List.mem_of_getElem? (i := 147) (by decide +kernel)) (by decide +kernel)
theorem wd_388 : (Jvm.Cond.fieldLink "StrataBase$Join" (150 : Nat) "StrataBase$Step" "literal" "I") ∈ tblG := rn_2 (List.mem_of_getElem? (i := 148) (by decide +kernel)) (by decide +kernel)
theorem wd_389 : (Jvm.Cond.fieldLink "StrataBase$Join" (159 : Nat) "StrataBase$Step" "scans" "Z") ∈ tblG := rn_2 (List.mem_of_getElem? (i := 149) (by decide +kernel)) (by decide +kernel)
theorem wd_390 : (Jvm.Cond.fieldLink "StrataBase$Indexes" (57 : Nat) "StrataBase$Step" "freshOnly" "Z") ∈ tblG := rn_2 (List.mem_of_getElem? (i := 150) (by decide +kernel)) (by decide +kernel)
theorem wd_391 : (Jvm.Cond.fieldLink "StrataBase$Join" (153 : Nat) "StrataBase$Step" "freshOnly" "Z") ∈ tblG := rn_2 (List.mem_of_getElem? (i := 151) (by decide +kernel)) (by decide +kernel)
theorem wd_392 : (Jvm.Cond.fieldLink "StrataBase$Step" (46 : Nat) "StrataBase$Step" "bound" "I") ∈ tblG := rn_2 (List.mem_of_getElem? (i := 152) (by decide +kernel)) (by decide +kernel)
theorem wd_393 : (Jvm.Cond.fieldLink "StrataBase$Join" (156 : Nat) "StrataBase$Step" "bound" "I") ∈ tblG := rn_2 (List.mem_of_getElem? (i := 153) (by decide +kernel)) (by decide +kernel)
theorem wd_394 : (Jvm.Cond.fieldLink "StrataBase$Step" (62 : Nat) "StrataBase$Step" "live" "I") ∈ tblG := rn_2 (List.mem_of_getElem? (i := 154) (by decide +kernel)) (by decide +kernel)
theorem wd_395 : (Jvm.Cond.fieldLink "StrataBase$Join" (177 : Nat) "StrataBase$Step" "live" "I") ∈ tblG := rn_2 (List.mem_of_getElem? (i := 155) (by decide +kernel)) (by decide +kernel)
theorem wd_396 : (Jvm.Cond.fieldLink "StrataBase$Step" (59 : Nat) "StrataBase$Step" "soughtMask" "I") ∈ tblG := rn_2 (List.mem_of_getElem? (i := 156) (by decide +kernel)) (by decide +kernel)
theorem wd_397 : (Jvm.Cond.fieldLink "StrataBase$Join" (211 : Nat) "StrataBase$Step" "soughtMask" "I") ∈ tblG := rn_2 (List.mem_of_getElem? (i := 157) (by decide +kernel)) (by decide +kernel)
theorem wd_398 : (Jvm.Cond.fieldLink "StrataBase$Step" (65 : Nat) "StrataBase$Step" "givenMask" "I") ∈ tblG := rn_2 (List.mem_of_getElem? (i := 158) (by decide +kernel)) (by decide +kernel)
theorem wd_399 : (Jvm.Cond.fieldLink "StrataBase$Join" (232 : Nat) "StrataBase$Step" "givenMask" "I") ∈ tblG := rn_2 (List.mem_of_getElem? (i := 159) (by decide +kernel)) (by decide +kernel)
theorem wd_400 : (Jvm.Cond.fieldLink "StrataBase$Step" (53 : Nat) "StrataBase$Step" "sought" "I") ∈ tblG := rn_2 (List.mem_of_getElem? (i := 160) (by decide +kernel)) (by decide +kernel)
theorem wd_401 : (Jvm.Cond.fieldLink "StrataBase$Join" (208 : Nat) "StrataBase$Step" "sought" "I") ∈ tblG := rn_2 (List.mem_of_getElem? (i := 161) (by decide +kernel)) (by decide +kernel)
theorem wd_402 : (Jvm.Cond.fieldLink "StrataBase$Step" (39 : Nat) "StrataBase$Step" "width" "I") ∈ tblG := rn_2 (List.mem_of_getElem? (i := 162) (by decide +kernel)) (by decide +kernel)
theorem wd_403 : (Jvm.Cond.fieldLink "StrataBase$Step" (30 : Nat) "StrataBase$Step" "predicate" "I") ∈ tblG := rn_2 (List.mem_of_getElem? (i := 163) (by decide +kernel)) (by decide +kernel)
theorem wd_404 : (Jvm.Cond.fieldLink "StrataBase$Indexes" (52 : Nat) "StrataBase$Step" "predicate" "I") ∈ tblG := rn_2 (List.mem_of_getElem? (i := 164) (by decide +kernel)) (by decide +kernel)
theorem wd_405 : (Jvm.Cond.fieldLink "StrataBase$Join" (184 : Nat) "StrataBase$Step" "predicate" "I") ∈ tblG := rn_2 (List.mem_of_getElem? (i := 165) (by decide +kernel)) (by decide +kernel)
theorem wd_406 : (Jvm.Cond.fieldLink "StrataBase$Step" (76 : Nat) "StrataBase$Step" "ordered" "Z") ∈ tblG := rn_2 (List.mem_of_getElem? (i := 166) (by decide +kernel)) (by decide +kernel)
theorem wd_407 : (Jvm.Cond.fieldLink "StrataBase$Indexes" (99 : Nat) "StrataBase$Step" "ordered" "Z") ∈ tblG := rn_2 (List.mem_of_getElem? (i := 167) (by decide +kernel)) (by decide +kernel)
theorem wd_408 : (Jvm.Cond.fieldLink "StrataBase$Step" (80 : Nat) "StrataBase$Step" "shape" "I") ∈ tblG := rn_2 (List.mem_of_getElem? (i := 168) (by decide +kernel)) (by decide +kernel)
theorem wd_409 : (Jvm.Cond.fieldLink "StrataBase$Indexes" (71 : Nat) "StrataBase$Step" "shape" "I") ∈ tblG := rn_2 (List.mem_of_getElem? (i := 169) (by decide +kernel)) (by decide +kernel)
theorem wd_410 : (Jvm.Cond.fieldLink "StrataBase$Step" (42 : Nat) "StrataBase$Step" "fixed" "J") ∈ tblG := rn_2 (List.mem_of_getElem? (i := 170) (by decide +kernel)) (by decide +kernel)
theorem wd_411 : (Jvm.Cond.fieldLink "StrataBase$Indexes" (74 : Nat) "StrataBase$Step" "fixed" "J") ∈ tblG := rn_2 (List.mem_of_getElem? (i := 171) (by decide +kernel)) (by decide +kernel)
theorem wd_412 : (Jvm.Cond.fieldLink "StrataBase$Indexes" (81 : Nat) "StrataBase$Step" "from" "I") ∈ tblG := rn_2 (List.mem_of_getElem? (i := 172) (by decide +kernel)) (by decide +kernel)
theorem wd_413 : (Jvm.Cond.fieldLink "StrataBase$Join" (214 : Nat) "StrataBase$Step" "from" "I") ∈ tblG := rn_2 (List.mem_of_getElem? (i := 173) (by decide +kernel)) (by decide +kernel)
theorem wd_414 : (Jvm.Cond.fieldLink "StrataBase$Indexes" (84 : Nat) "StrataBase$Step" "to" "I") ∈ tblG := rn_2 (List.mem_of_getElem? (i := 174) (by decide +kernel)) (by decide +kernel)
theorem wd_415 : (Jvm.Cond.fieldLink "StrataBase$Join" (217 : Nat) "StrataBase$Step" "to" "I") ∈ tblG := rn_2 (List.mem_of_getElem? (i := 175) (by decide +kernel)) (by decide +kernel)
theorem wd_416 : (Jvm.Cond.fieldLink "StrataBase$Step" (11 : Nat) "StrataBase$Step" "roles" "[I") ∈ tblG := rn_2 (List.mem_of_getElem? (i := 176) (by decide +kernel)) (by decide +kernel)
theorem wd_417 : (Jvm.Cond.fieldLink "StrataBase$Step" (17 : Nat) "StrataBase$Step" "variables" "[I") ∈ tblG := rn_2 (List.mem_of_getElem? (i := 177) (by decide +kernel)) (by decide +kernel)
theorem wd_418 : (Jvm.Cond.lays "StrataBase$Step" "StrataBase$Step" "literal" "I") ∈ tblG := rn_2 (List.mem_of_getElem? (i := 178) (by decide +kernel)) (by decide +kernel)
theorem wd_420 : (Jvm.Cond.lays "StrataBase$Step" "StrataBase$Step" "scans" "Z") ∈ tblG := rn_2 (List.mem_of_getElem? (i := 180) (by decide +kernel)) (by decide +kernel)
theorem wd_422 : (Jvm.Cond.lays "StrataBase$Step" "StrataBase$Step" "freshOnly" "Z") ∈ tblG := rn_2 (List.mem_of_getElem? (i := 182) (by decide +kernel)) (by decide +kernel)
theorem wd_424 : (Jvm.Cond.lays "StrataBase$Step" "StrataBase$Step" "bound" "I") ∈ tblG := rn_2 (List.mem_of_getElem? (i := 184) (by decide +kernel)) (by decide +kernel)
theorem wd_426 : (Jvm.Cond.lays "StrataBase$Step" "StrataBase$Step" "live" "I") ∈ tblG := rn_2 (List.mem_of_getElem? (i := 186) (by decide +kernel)) (by decide +kernel)
theorem wd_428 : (Jvm.Cond.lays "StrataBase$Step" "StrataBase$Step" "soughtMask" "I") ∈ tblG := rn_2 (List.mem_of_getElem? (i := 188) (by decide +kernel)) (by decide +kernel)
theorem wd_430 : (Jvm.Cond.lays "StrataBase$Step" "StrataBase$Step" "givenMask" "I") ∈ tblG := rn_2 (List.mem_of_getElem? (i := 190) (by decide +kernel)) (by decide +kernel)
theorem wd_432 : (Jvm.Cond.lays "StrataBase$Step" "StrataBase$Step" "sought" "I") ∈ tblG := rn_2 (List.mem_of_getElem? (i := 192) (by decide +kernel)) (by decide +kernel)
theorem wd_434 : (Jvm.Cond.lays "StrataBase$Step" "StrataBase$Step" "width" "I") ∈ tblG := rn_2 (List.mem_of_getElem? (i := 194) (by decide +kernel)) (by decide +kernel)
theorem wd_436 : (Jvm.Cond.lays "StrataBase$Step" "StrataBase$Step" "predicate" "I") ∈ tblG := rn_2 (List.mem_of_getElem? (i := 196) (by decide +kernel)) (by decide +kernel)
theorem wd_438 : (Jvm.Cond.lays "StrataBase$Step" "StrataBase$Step" "ordered" "Z") ∈ tblG := rn_2 (List.mem_of_getElem? (i := 198) (by decide +kernel)) (by decide +kernel)
theorem wd_440 : (Jvm.Cond.lays "StrataBase$Step" "StrataBase$Step" "shape" "I") ∈ tblG := rn_2 (List.mem_of_getElem? (i := 200) (by decide +kernel)) (by decide +kernel)
theorem wd_442 : (Jvm.Cond.lays "StrataBase$Step" "StrataBase$Step" "fixed" "J") ∈ tblG := rn_2 (List.mem_of_getElem? (i := 202) (by decide +kernel)) (by decide +kernel)
theorem wd_444 : (Jvm.Cond.lays "StrataBase$Step" "StrataBase$Step" "from" "I") ∈ tblG := rn_2 (List.mem_of_getElem? (i := 204) (by decide +kernel)) (by decide +kernel)
theorem wd_446 : (Jvm.Cond.lays "StrataBase$Step" "StrataBase$Step" "to" "I") ∈ tblG := rn_2 (List.mem_of_getElem? (i := 206) (by decide +kernel)) (by decide +kernel)
theorem wd_448 : (Jvm.Cond.laysFinal "StrataBase$Step" "StrataBase$Step" "roles" "[I") ∈ tblG := rn_2 (List.mem_of_getElem? (i := 208) (by decide +kernel)) (by decide +kernel)
theorem wd_450 : (Jvm.Cond.laysFinal "StrataBase$Step" "StrataBase$Step" "variables" "[I") ∈ tblG := rn_2 (List.mem_of_getElem? (i := 210) (by decide +kernel)) (by decide +kernel)
theorem wd_453 : (Jvm.Cond.fieldLink "StrataBase$Join" (17 : Nat) "StrataBase$Join" "values" "[I") ∈ tblG := rn_2 (List.mem_of_getElem? (i := 213) (by decide +kernel)) (by decide +kernel)
theorem wd_454 : (Jvm.Cond.fieldLink "StrataBase" (190 : Nat) "StrataBase$Join" "values" "[I") ∈ tblG := rn_2 (List.mem_of_getElem? (i := 214) (by decide +kernel)) (by decide +kernel)
theorem wd_455 : (Jvm.Cond.fieldLink "StrataBase$Join" (9 : Nat) "StrataBase$Join" "facts" "LStrataBase$Facts;") ∈ tblG := rn_2 (List.mem_of_getElem? (i := 215) (by decide +kernel)) (by decide +kernel)
theorem wd_456 : (Jvm.Cond.fieldLink "StrataBase$Join" (24 : Nat) "StrataBase$Join" "indexes" "LStrataBase$Indexes;") ∈ tblG := rn_2 (List.mem_of_getElem? (i := 216) (by decide +kernel)) (by decide +kernel)
theorem wd_457 : (Jvm.Cond.fieldLink "StrataBase$Join" (30 : Nat) "StrataBase$Join" "steps" "[LStrataBase$Step;") ∈ tblG := rn_2 (List.mem_of_getElem? (i := 217) (by decide +kernel)) (by decide +kernel)
theorem wd_458 : (Jvm.Cond.fieldLink "StrataBase$Join" (143 : Nat) "StrataBase$Join" "stepCount" "I") ∈ tblG := rn_2 (List.mem_of_getElem? (i := 218) (by decide +kernel)) (by decide +kernel)
theorem wd_459 : (Jvm.Cond.fieldLink "StrataBase$Join" (38 : Nat) "StrataBase$Join" "clauses" "LStrataBase$Clauses;") ∈ tblG := rn_2 (List.mem_of_getElem? (i := 219) (by decide +kernel)) (by decide +kernel)
theorem wd_460 : (Jvm.Cond.fieldLink "StrataBase$Join" (46 : Nat) "StrataBase$Join" "head" "I") ∈ tblG := rn_2 (List.mem_of_getElem? (i := 220) (by decide +kernel)) (by decide +kernel)
theorem wd_461 : (Jvm.Cond.fieldLink "StrataBase$Join" (42 : Nat) "StrataBase$Join" "rows" "LStrataBase$Rows;") ∈ tblG := rn_2 (List.mem_of_getElem? (i := 221) (by decide +kernel)) (by decide +kernel)
theorem wd_462 : (Jvm.Cond.fieldLink "StrataBase$Join" (73 : Nat) "StrataBase$Join" "stage" "I") ∈ tblG := rn_2 (List.mem_of_getElem? (i := 222) (by decide +kernel)) (by decide +kernel)
theorem wd_463 : (Jvm.Cond.fieldLink "StrataBase$Join" (56 : Nat) "StrataBase$Join" "output" "I") ∈ tblG := rn_2 (List.mem_of_getElem? (i := 223) (by decide +kernel)) (by decide +kernel)
theorem wd_464 : (Jvm.Cond.fieldLink "StrataBase$Join" (124 : Nat) "StrataBase$Join" "stopped" "Z") ∈ tblG := rn_2 (List.mem_of_getElem? (i := 224) (by decide +kernel)) (by decide +kernel)
theorem wd_465 : (Jvm.Cond.laysFinal "StrataBase$Join" "StrataBase$Join" "values" "[I") ∈ tblG := rn_2 (List.mem_of_getElem? (i := 225) (by decide +kernel)) (by decide +kernel)
theorem wd_467 : (Jvm.Cond.laysFinal "StrataBase$Join" "StrataBase$Join" "facts" "LStrataBase$Facts;") ∈ tblG := rn_2 (List.mem_of_getElem? (i := 227) (by decide +kernel)) (by decide +kernel)
theorem wd_469 : (Jvm.Cond.laysFinal "StrataBase$Join" "StrataBase$Join" "indexes" "LStrataBase$Indexes;") ∈ tblG := rn_2 (List.mem_of_getElem? (i := 229) (by decide +kernel)) (by decide +kernel)
theorem wd_471 : (Jvm.Cond.laysFinal "StrataBase$Join" "StrataBase$Join" "steps" "[LStrataBase$Step;") ∈ tblG := rn_2 (List.mem_of_getElem? (i := 231) (by decide +kernel)) (by decide +kernel)
theorem wd_473 : (Jvm.Cond.lays "StrataBase$Join" "StrataBase$Join" "stepCount" "I") ∈ tblG := rn_2 (List.mem_of_getElem? (i := 233) (by decide +kernel)) (by decide +kernel)
theorem wd_475 : (Jvm.Cond.lays "StrataBase$Join" "StrataBase$Join" "clauses" "LStrataBase$Clauses;") ∈ tblG := rn_2 (List.mem_of_getElem? (i := 235) (by decide +kernel)) (by decide +kernel)
theorem wd_477 : (Jvm.Cond.lays "StrataBase$Join" "StrataBase$Join" "head" "I") ∈ tblG := rn_2 (List.mem_of_getElem? (i := 237) (by decide +kernel)) (by decide +kernel)
theorem wd_479 : (Jvm.Cond.lays "StrataBase$Join" "StrataBase$Join" "rows" "LStrataBase$Rows;") ∈ tblG := rn_2 (List.mem_of_getElem? (i := 239) (by decide +kernel)) (by decide +kernel)
theorem wd_481 : (Jvm.Cond.lays "StrataBase$Join" "StrataBase$Join" "stage" "I") ∈ tblG := rn_3 (List.mem_of_getElem? (i := 1) (by decide +kernel)) (by decide +kernel)
theorem wd_483 : (Jvm.Cond.lays "StrataBase$Join" "StrataBase$Join" "output" "I") ∈ tblG := rn_3 (List.mem_of_getElem? (i := 3) (by decide +kernel)) (by decide +kernel)
theorem wd_485 : (Jvm.Cond.lays "StrataBase$Join" "StrataBase$Join" "stopped" "Z") ∈ tblG := rn_3 (List.mem_of_getElem? (i := 5) (by decide +kernel)) (by decide +kernel)
theorem wd_488 : (Jvm.Cond.classLink "StrataBase" (56 : Nat) "StrataBase$Rows") ∈ tblG := rn_3 (List.mem_of_getElem? (i := 8) (by decide +kernel)) (by decide +kernel)
theorem wd_489 : (Jvm.Cond.instantiable "StrataBase$Rows" (6 : Nat)) ∈ tblG := rn_3 (List.mem_of_getElem? (i := 9) (by decide +kernel)) (by decide +kernel)
theorem wd_490 : (Jvm.Cond.methodLink "StrataBase" (58 : Nat) ({ cls := "StrataBase$Rows", name := "<init>", desc := "()V" } : Jvm.MethodName)) ∈ tblG := rn_3 (List.mem_of_getElem? (i := 10) (by decide +kernel)) (by decide +kernel)
theorem wd_491 : (Jvm.Cond.instanceMethod ({ cls := "StrataBase$Rows", name := "<init>", desc := "()V" } : Jvm.MethodName)) ∈ tblG := rn_3 (List.mem_of_getElem? (i := 11) (by decide +kernel)) (by decide +kernel)
theorem wd_492 : (Jvm.Cond.code ({ cls := "StrataBase$Rows", name := "<init>", desc := "()V" } : Jvm.MethodName) prog_10_method_1_code (1 : Nat) (Option.none : Option Jvm.ClassFile.FieldType)) ∈ tblG := rn_3 (List.mem_of_getElem? (i := 12) (by decide +kernel)) (by decide +kernel)
theorem wd_493 : (Jvm.Cond.methodLink "StrataBase$Rows" (1 : Nat) ({ cls := "java/lang/Object", name := "<init>", desc := "()V" } : Jvm.MethodName)) ∈ tblG := rn_3 (List.mem_of_getElem? (i := 13) (by decide +kernel)) (by decide +kernel)
theorem wd_494 : (Jvm.Cond.fieldLink "StrataBase$Rows" (22 : Nat) "StrataBase$Rows" "size" "I") ∈ tblG := rn_3 (List.mem_of_getElem? (i := 14) (by decide +kernel)) (by decide +kernel)
theorem wd_495 : (Jvm.Cond.fieldLink "StrataBase" (155 : Nat) "StrataBase$Rows" "size" "I") ∈ tblG := rn_3 (List.mem_of_getElem? (i := 15) (by decide +kernel)) (by decide +kernel)
theorem wd_496 : (Jvm.Cond.fieldLink "StrataBase$Rows" (26 : Nat) "StrataBase$Rows" "width" "I") ∈ tblG := rn_3 (List.mem_of_getElem? (i := 16) (by decide +kernel)) (by decide +kernel)
theorem wd_497 : (Jvm.Cond.fieldLink "StrataBase" (156 : Nat) "StrataBase$Rows" "width" "I") ∈ tblG := rn_3 (List.mem_of_getElem? (i := 17) (by decide +kernel)) (by decide +kernel)
theorem wd_498 : (Jvm.Cond.fieldLink "StrataBase$Rows" (29 : Nat) "StrataBase$Rows" "full" "Z") ∈ tblG := rn_3 (List.mem_of_getElem? (i := 18) (by decide +kernel)) (by decide +kernel)
theorem wd_499 : (Jvm.Cond.fieldLink "StrataBase" (151 : Nat) "StrataBase$Rows" "full" "Z") ∈ tblG := rn_3 (List.mem_of_getElem? (i := 19) (by decide +kernel)) (by decide +kernel)
theorem wd_500 : (Jvm.Cond.fieldLink "StrataBase$Join" (246 : Nat) "StrataBase$Rows" "full" "Z") ∈ tblG := rn_3 (List.mem_of_getElem? (i := 20) (by decide +kernel)) (by decide +kernel)
theorem wd_501 : (Jvm.Cond.fieldLink "StrataBase$Rows" (9 : Nat) "StrataBase$Rows" "left" "[J") ∈ tblG := rn_3 (List.mem_of_getElem? (i := 21) (by decide +kernel)) (by decide +kernel)
theorem wd_502 : (Jvm.Cond.fieldLink "StrataBase$Rows" (13 : Nat) "StrataBase$Rows" "right" "[J") ∈ tblG := rn_3 (List.mem_of_getElem? (i := 22) (by decide +kernel)) (by decide +kernel)
theorem wd_503 : (Jvm.Cond.fieldLink "StrataBase$Rows" (18 : Nat) "StrataBase$Rows" "variables" "[I") ∈ tblG := rn_3 (List.mem_of_getElem? (i := 23) (by decide +kernel)) (by decide +kernel)
theorem wd_504 : (Jvm.Cond.lays "StrataBase$Rows" "StrataBase$Rows" "size" "I") ∈ tblG := rn_3 (List.mem_of_getElem? (i := 24) (by decide +kernel)) (by decide +kernel)
theorem wd_506 : (Jvm.Cond.lays "StrataBase$Rows" "StrataBase$Rows" "width" "I") ∈ tblG := rn_3 (List.mem_of_getElem? (i := 26) (by decide +kernel)) (by decide +kernel)
theorem wd_508 : (Jvm.Cond.lays "StrataBase$Rows" "StrataBase$Rows" "full" "Z") ∈ tblG := rn_3 (List.mem_of_getElem? (i := 28) (by decide +kernel)) (by decide +kernel)
theorem wd_510 : (Jvm.Cond.laysFinal "StrataBase$Rows" "StrataBase$Rows" "left" "[J") ∈ tblG := rn_3 (List.mem_of_getElem? (i := 30) (by decide +kernel)) (by decide +kernel)
theorem wd_512 : (Jvm.Cond.laysFinal "StrataBase$Rows" "StrataBase$Rows" "right" "[J") ∈ tblG := rn_3 (List.mem_of_getElem? (i := 32) (by decide +kernel)) (by decide +kernel)
theorem wd_514 : (Jvm.Cond.laysFinal "StrataBase$Rows" "StrataBase$Rows" "variables" "[I") ∈ tblG := rn_3 (List.mem_of_getElem? (i := 34) (by decide +kernel)) (by decide +kernel)
theorem wd_517 : (Jvm.Cond.fieldLink "StrataBase" (10 : Nat) "StrataBase" "tape" "[B") ∈ tblG := rn_3 (List.mem_of_getElem? (i := 37) (by decide +kernel)) (by decide +kernel)
theorem wd_518 : (Jvm.Cond.fieldLink "StrataBase" (66 : Nat) "StrataBase" "tapeLength" "I") ∈ tblG := rn_3 (List.mem_of_getElem? (i := 38) (by decide +kernel)) (by decide +kernel)
theorem wd_519 : (Jvm.Cond.fieldLink "StrataBase" (92 : Nat) "StrataBase" "faultCode" "I") ∈ tblG := rn_3 (List.mem_of_getElem? (i := 39) (by decide +kernel)) (by decide +kernel)
theorem wd_520 : (Jvm.Cond.fieldLink "StrataBase" (17 : Nat) "StrataBase" "program" "LStrataBase$Program;") ∈ tblG := rn_3 (List.mem_of_getElem? (i := 40) (by decide +kernel)) (by decide +kernel)
theorem wd_521 : (Jvm.Cond.fieldLink "StrataBase" (21 : Nat) "StrataBase" "spare" "LStrataBase$Program;") ∈ tblG := rn_3 (List.mem_of_getElem? (i := 41) (by decide +kernel)) (by decide +kernel)
theorem wd_522 : (Jvm.Cond.fieldLink "StrataBase" (29 : Nat) "StrataBase" "question" "LStrataBase$Clauses;") ∈ tblG := rn_3 (List.mem_of_getElem? (i := 42) (by decide +kernel)) (by decide +kernel)
theorem wd_523 : (Jvm.Cond.fieldLink "StrataBase" (36 : Nat) "StrataBase" "reader" "LStrataBase$Reader;") ∈ tblG := rn_3 (List.mem_of_getElem? (i := 43) (by decide +kernel)) (by decide +kernel)
theorem wd_524 : (Jvm.Cond.fieldLink "StrataBase" (43 : Nat) "StrataBase" "facts" "LStrataBase$Facts;") ∈ tblG := rn_3 (List.mem_of_getElem? (i := 44) (by decide +kernel)) (by decide +kernel)
theorem wd_525 : (Jvm.Cond.fieldLink "StrataBase" (52 : Nat) "StrataBase" "join" "LStrataBase$Join;") ∈ tblG := rn_3 (List.mem_of_getElem? (i := 45) (by decide +kernel)) (by decide +kernel)
theorem wd_526 : (Jvm.Cond.fieldLink "StrataBase" (59 : Nat) "StrataBase" "rows" "LStrataBase$Rows;") ∈ tblG := rn_3 (List.mem_of_getElem? (i := 46) (by decide +kernel)) (by decide +kernel)
theorem wd_527 : (Jvm.Cond.fieldLink "StrataBase" (63 : Nat) "StrataBase" "spareRows" "LStrataBase$Rows;") ∈ tblG := rn_3 (List.mem_of_getElem? (i := 47) (by decide +kernel)) (by decide +kernel)
theorem wd_528 : (Jvm.Cond.fieldLink "StrataBase" (105 : Nat) "StrataBase" "ran" "Z") ∈ tblG := rn_3 (List.mem_of_getElem? (i := 48) (by decide +kernel)) (by decide +kernel)
theorem wd_529 : (Jvm.Cond.fieldLink "StrataBase" (109 : Nat) "StrataBase" "overflowed" "Z") ∈ tblG := rn_3 (List.mem_of_getElem? (i := 49) (by decide +kernel)) (by decide +kernel)
theorem wd_530 : (Jvm.Cond.laysFinal "StrataBase" "StrataBase" "tape" "[B") ∈ tblG := rn_3 (List.mem_of_getElem? (i := 50) (by decide +kernel)) (by decide +kernel)
theorem wd_532 : (Jvm.Cond.lays "StrataBase" "StrataBase" "tapeLength" "I") ∈ tblG := rn_3 (List.mem_of_getElem? (i := 52) (by decide +kernel)) (by decide +kernel)
theorem wd_534 : (Jvm.Cond.lays "StrataBase" "StrataBase" "faultCode" "I") ∈ tblG := rn_3 (List.mem_of_getElem? (i := 54) (by decide +kernel)) (by decide +kernel)
theorem wd_536 : (Jvm.Cond.lays "StrataBase" "StrataBase" "program" "LStrataBase$Program;") ∈ tblG := rn_3 (List.mem_of_getElem? (i := 56) (by decide +kernel)) (by decide +kernel)
theorem wd_538 : (Jvm.Cond.lays "StrataBase" "StrataBase" "spare" "LStrataBase$Program;") ∈ tblG := rn_3 (List.mem_of_getElem? (i := 58) (by decide +kernel)) (by decide +kernel)
theorem wd_540 : (Jvm.Cond.laysFinal "StrataBase" "StrataBase" "question" "LStrataBase$Clauses;") ∈ tblG := rn_3 (List.mem_of_getElem? (i := 60) (by decide +kernel)) (by decide +kernel)
theorem wd_542 : (Jvm.Cond.laysFinal "StrataBase" "StrataBase" "reader" "LStrataBase$Reader;") ∈ tblG := rn_3 (List.mem_of_getElem? (i := 62) (by decide +kernel)) (by decide +kernel)
theorem wd_544 : (Jvm.Cond.laysFinal "StrataBase" "StrataBase" "facts" "LStrataBase$Facts;") ∈ tblG := rn_3 (List.mem_of_getElem? (i := 64) (by decide +kernel)) (by decide +kernel)
theorem wd_546 : (Jvm.Cond.laysFinal "StrataBase" "StrataBase" "join" "LStrataBase$Join;") ∈ tblG := rn_3 (List.mem_of_getElem? (i := 66) (by decide +kernel)) (by decide +kernel)
theorem wd_548 : (Jvm.Cond.lays "StrataBase" "StrataBase" "rows" "LStrataBase$Rows;") ∈ tblG := rn_3 (List.mem_of_getElem? (i := 68) (by decide +kernel)) (by decide +kernel)
theorem wd_550 : (Jvm.Cond.lays "StrataBase" "StrataBase" "spareRows" "LStrataBase$Rows;") ∈ tblG := rn_3 (List.mem_of_getElem? (i := 70) (by decide +kernel)) (by decide +kernel)
theorem wd_552 : (Jvm.Cond.lays "StrataBase" "StrataBase" "ran" "Z") ∈ tblG := rn_3 (List.mem_of_getElem? (i := 72) (by decide +kernel)) (by decide +kernel)
theorem wd_554 : (Jvm.Cond.lays "StrataBase" "StrataBase" "overflowed" "Z") ∈ tblG := rn_3 (List.mem_of_getElem? (i := 74) (by decide +kernel)) (by decide +kernel)
theorem wd_557 : (Jvm.Cond.methodLink "StrataBaseLaw" (68 : Nat) ({ cls := "StrataBase", name := "load", desc := "()I" } : Jvm.MethodName)) ∈ tblG := rn_3 (List.mem_of_getElem? (i := 77) (by decide +kernel)) (by decide +kernel)
theorem wd_558 : (Jvm.Cond.instanceMethod ({ cls := "StrataBase", name := "load", desc := "()I" } : Jvm.MethodName)) ∈ tblG := rn_3 (List.mem_of_getElem? (i := 78) (by decide +kernel)) (by decide +kernel)
theorem wd_559 : (Jvm.Cond.selects "StrataBase" ({ cls := "StrataBase", name := "load", desc := "()I" } : Jvm.MethodName) ({ cls := "StrataBase", name := "load", desc := "()I" } : Jvm.MethodName)) ∈ tblG := rn_3 (List.mem_of_getElem? (i := 79) (by decide +kernel)) (by decide +kernel)
theorem wd_560 : (Jvm.Cond.code ({ cls := "StrataBase", name := "load", desc := "()I" } : Jvm.MethodName) prog_1_method_4_code (2 : Nat) (Option.some Jvm.ClassFile.FieldType.int)) ∈ tblG := rn_3 (List.mem_of_getElem? (i := 80) (by decide +kernel)) (by decide +kernel)
theorem wd_561 : (Jvm.Cond.methodLink "StrataBase" (82 : Nat) ({ cls := "StrataBase$Reader", name := "read", desc := "(I[BILStrataBase$Program;LStrataBase$Clauses;)V" } : Jvm.MethodName)) ∈ tblG := rn_3 (List.mem_of_getElem? (i := 81) (by decide +kernel)) (by decide +kernel)
theorem wd_562 : (Jvm.Cond.instanceMethod ({ cls := "StrataBase$Reader", name := "read", desc := "(I[BILStrataBase$Program;LStrataBase$Clauses;)V" } : Jvm.MethodName)) ∈ tblG := rn_3 (List.mem_of_getElem? (i := 82) (by decide +kernel)) (by decide +kernel)
theorem wd_563 : (Jvm.Cond.selects "StrataBase$Reader" ({ cls := "StrataBase$Reader", name := "read", desc := "(I[BILStrataBase$Program;LStrataBase$Clauses;)V" } : Jvm.MethodName) ({ cls := "StrataBase$Reader", name := "read", desc := "(I[BILStrataBase$Program;LStrataBase$Clauses;)V" } : Jvm.MethodName)) ∈ tblG := rn_3 (List.mem_of_getElem? (i := 83) (by decide +kernel)) (by decide +kernel)
theorem wd_564 : (Jvm.Cond.code ({ cls := "StrataBase$Reader", name := "read", desc := "(I[BILStrataBase$Program;LStrataBase$Clauses;)V" } : Jvm.MethodName) prog_9_method_2_code (7 : Nat) (Option.none : Option Jvm.ClassFile.FieldType)) ∈ tblG := rn_3 (List.mem_of_getElem? (i := 84) (by decide +kernel)) (by decide +kernel)
theorem wd_565 : (Jvm.Cond.methodLink "StrataBase$Reader" (58 : Nat) ({ cls := "StrataBase$Tokens", name := "open", desc := "([BI)V" } : Jvm.MethodName)) ∈ tblG := rn_3 (List.mem_of_getElem? (i := 85) (by decide +kernel)) (by decide +kernel)
theorem wd_566 : (Jvm.Cond.instanceMethod ({ cls := "StrataBase$Tokens", name := "open", desc := "([BI)V" } : Jvm.MethodName)) ∈ tblG := rn_3 (List.mem_of_getElem? (i := 86) (by decide +kernel)) (by decide +kernel)
theorem wd_567 : (Jvm.Cond.selects "StrataBase$Tokens" ({ cls := "StrataBase$Tokens", name := "open", desc := "([BI)V" } : Jvm.MethodName) ({ cls := "StrataBase$Tokens", name := "open", desc := "([BI)V" } : Jvm.MethodName)) ∈ tblG := rn_3 (List.mem_of_getElem? (i := 87) (by decide +kernel)) (by decide +kernel)
theorem wd_568 : (Jvm.Cond.code ({ cls := "StrataBase$Tokens", name := "open", desc := "([BI)V" } : Jvm.MethodName) prog_12_method_2_code (3 : Nat) (Option.none : Option Jvm.ClassFile.FieldType)) ∈ tblG := rn_3 (List.mem_of_getElem? (i := 88) (by decide +kernel)) (by decide +kernel)
theorem wd_569 : (Jvm.Cond.methodLink "StrataBase$Reader" (62 : Nat) ({ cls := "StrataBase$Reader", name := "begin", desc := "()V" } : Jvm.MethodName)) ∈ tblG := rn_3 (List.mem_of_getElem? (i := 89) (by decide +kernel)) (by decide +kernel)
theorem wd_571 : (Jvm.Cond.instanceMethod ({ cls := "StrataBase$Reader", name := "begin", desc := "()V" } : Jvm.MethodName)) ∈ tblG := rn_3 (List.mem_of_getElem? (i := 91) (by decide +kernel)) (by decide +kernel)
theorem wd_572 : (Jvm.Cond.code ({ cls := "StrataBase$Reader", name := "begin", desc := "()V" } : Jvm.MethodName) prog_9_method_3_code (1 : Nat) (Option.none : Option Jvm.ClassFile.FieldType)) ∈ tblG := rn_3 (List.mem_of_getElem? (i := 92) (by decide +kernel)) (by decide +kernel)
theorem wd_573 : (Jvm.Cond.methodLink "StrataBase$Reader" (107 : Nat) ({ cls := "StrataBase$Clauses", name := "clear", desc := "()V" } : Jvm.MethodName)) ∈ tblG := rn_3 (List.mem_of_getElem? (i := 93) (by decide +kernel)) (by decide +kernel)
theorem wd_574 : (Jvm.Cond.instanceMethod ({ cls := "StrataBase$Clauses", name := "clear", desc := "()V" } : Jvm.MethodName)) ∈ tblG := rn_3 (List.mem_of_getElem? (i := 94) (by decide +kernel)) (by decide +kernel)
theorem wd_575 : (Jvm.Cond.selects "StrataBase$Clauses" ({ cls := "StrataBase$Clauses", name := "clear", desc := "()V" } : Jvm.MethodName) ({ cls := "StrataBase$Clauses", name := "clear", desc := "()V" } : Jvm.MethodName)) ∈ tblG := rn_3 (List.mem_of_getElem? (i := 95) (by decide +kernel)) (by decide +kernel)
theorem wd_576 : (Jvm.Cond.code ({ cls := "StrataBase$Clauses", name := "clear", desc := "()V" } : Jvm.MethodName) prog_2_method_2_code (1 : Nat) (Option.none : Option Jvm.ClassFile.FieldType)) ∈ tblG := rn_3 (List.mem_of_getElem? (i := 96) (by decide +kernel)) (by decide +kernel)
theorem wd_577 : (Jvm.Cond.methodLink "StrataBase$Reader" (110 : Nat) ({ cls := "StrataBase$Names", name := "clear", desc := "()V" } : Jvm.MethodName)) ∈ tblG := rn_3 (List.mem_of_getElem? (i := 97) (by decide +kernel)) (by decide +kernel)
theorem wd_578 : (Jvm.Cond.instanceMethod ({ cls := "StrataBase$Names", name := "clear", desc := "()V" } : Jvm.MethodName)) ∈ tblG := rn_3 (List.mem_of_getElem? (i := 98) (by decide +kernel)) (by decide +kernel)
theorem wd_579 : (Jvm.Cond.selects "StrataBase$Names" ({ cls := "StrataBase$Names", name := "clear", desc := "()V" } : Jvm.MethodName) ({ cls := "StrataBase$Names", name := "clear", desc := "()V" } : Jvm.MethodName)) ∈ tblG := rn_3 (List.mem_of_getElem? (i := 99) (by decide +kernel)) (by decide +kernel)
theorem wd_580 : (Jvm.Cond.code ({ cls := "StrataBase$Names", name := "clear", desc := "()V" } : Jvm.MethodName) prog_7_method_2_code (1 : Nat) (Option.none : Option Jvm.ClassFile.FieldType)) ∈ tblG := rn_3 (List.mem_of_getElem? (i := 100) (by decide +kernel)) (by decide +kernel)
theorem wd_581 : (Jvm.Cond.methodLink "StrataBase$Reader" (111 : Nat) ({ cls := "StrataBase$Reader", name := "beginBody", desc := "()V" } : Jvm.MethodName)) ∈ tblG := rn_3 (List.mem_of_getElem? (i := 101) (by decide +kernel)) (by decide +kernel)
theorem wd_583 : (Jvm.Cond.instanceMethod ({ cls := "StrataBase$Reader", name := "beginBody", desc := "()V" } : Jvm.MethodName)) ∈ tblG := rn_3 (List.mem_of_getElem? (i := 103) (by decide +kernel)) (by decide +kernel)
theorem wd_584 : (Jvm.Cond.code ({ cls := "StrataBase$Reader", name := "beginBody", desc := "()V" } : Jvm.MethodName) prog_9_method_9_code (1 : Nat) (Option.none : Option Jvm.ClassFile.FieldType)) ∈ tblG := rn_3 (List.mem_of_getElem? (i := 104) (by decide +kernel)) (by decide +kernel)
theorem wd_585 : (Jvm.Cond.methodLink "StrataBase$Reader" (114 : Nat) ({ cls := "StrataBase$Program", name := "clear", desc := "()V" } : Jvm.MethodName)) ∈ tblG := rn_3 (List.mem_of_getElem? (i := 105) (by decide +kernel)) (by decide +kernel)
theorem wd_586 : (Jvm.Cond.instanceMethod ({ cls := "StrataBase$Program", name := "clear", desc := "()V" } : Jvm.MethodName)) ∈ tblG := rn_3 (List.mem_of_getElem? (i := 106) (by decide +kernel)) (by decide +kernel)
theorem wd_587 : (Jvm.Cond.selects "StrataBase$Program" ({ cls := "StrataBase$Program", name := "clear", desc := "()V" } : Jvm.MethodName) ({ cls := "StrataBase$Program", name := "clear", desc := "()V" } : Jvm.MethodName)) ∈ tblG := rn_3 (List.mem_of_getElem? (i := 107) (by decide +kernel)) (by decide +kernel)
theorem wd_588 : (Jvm.Cond.code ({ cls := "StrataBase$Program", name := "clear", desc := "()V" } : Jvm.MethodName) prog_8_method_2_code (1 : Nat) (Option.none : Option Jvm.ClassFile.FieldType)) ∈ tblG := rn_3 (List.mem_of_getElem? (i := 108) (by decide +kernel)) (by decide +kernel)
theorem wd_589 : (Jvm.Cond.methodLink "StrataBase$Program" (45 : Nat) ({ cls := "StrataBase$Clauses", name := "clear", desc := "()V" } : Jvm.MethodName)) ∈ tblG := rn_3 (List.mem_of_getElem? (i := 109) (by decide +kernel)) (by decide +kernel)
theorem wd_590 : (Jvm.Cond.methodLink "StrataBase$Program" (48 : Nat) ({ cls := "StrataBase$Names", name := "clear", desc := "()V" } : Jvm.MethodName)) ∈ tblG := rn_3 (List.mem_of_getElem? (i := 110) (by decide +kernel)) (by decide +kernel)
theorem wd_591 : (Jvm.Cond.methodLink "StrataBase$Program" (49 : Nat) ({ cls := "StrataBase$Constants", name := "clear", desc := "()V" } : Jvm.MethodName)) ∈ tblG := rn_3 (List.mem_of_getElem? (i := 111) (by decide +kernel)) (by decide +kernel)
theorem wd_592 : (Jvm.Cond.instanceMethod ({ cls := "StrataBase$Constants", name := "clear", desc := "()V" } : Jvm.MethodName)) ∈ tblG := rn_3 (List.mem_of_getElem? (i := 112) (by decide +kernel)) (by decide +kernel)
theorem wd_593 : (Jvm.Cond.selects "StrataBase$Constants" ({ cls := "StrataBase$Constants", name := "clear", desc := "()V" } : Jvm.MethodName) ({ cls := "StrataBase$Constants", name := "clear", desc := "()V" } : Jvm.MethodName)) ∈ tblG := rn_3 (List.mem_of_getElem? (i := 113) (by decide +kernel)) (by decide +kernel)
theorem wd_594 : (Jvm.Cond.code ({ cls := "StrataBase$Constants", name := "clear", desc := "()V" } : Jvm.MethodName) prog_3_method_2_code (1 : Nat) (Option.none : Option Jvm.ClassFile.FieldType)) ∈ tblG := rn_3 (List.mem_of_getElem? (i := 114) (by decide +kernel)) (by decide +kernel)
theorem wd_595 : (Jvm.Cond.methodLink "StrataBase$Constants" (30 : Nat) ({ cls := "StrataBase$Names", name := "clear", desc := "()V" } : Jvm.MethodName)) ∈ tblG := rn_3 (List.mem_of_getElem? (i := 115) (by decide +kernel)) (by decide +kernel)
theorem wd_596 : (Jvm.Cond.methodLink "StrataBase$Program" (50 : Nat) ({ cls := "java/util/Arrays", name := "fill", desc := "([II)V" } : Jvm.MethodName)) ∈ tblG := rn_3 (List.mem_of_getElem? (i := 116) (by decide +kernel)) (by decide +kernel)
theorem wd_597 : (Jvm.Cond.static ({ cls := "java/util/Arrays", name := "fill", desc := "([II)V" } : Jvm.MethodName)) ∈ tblG := rn_3 (List.mem_of_getElem? (i := 117) (by decide +kernel)) (by decide +kernel)
theorem wd_598 : (Jvm.Cond.code ({ cls := "java/util/Arrays", name := "fill", desc := "([II)V" } : Jvm.MethodName) prog_26_method_103_code (4 : Nat) (Option.none : Option Jvm.ClassFile.FieldType)) ∈ tblG := rn_3 (List.mem_of_getElem? (i := 118) (by decide +kernel)) (by decide +kernel)
theorem wd_599 : (Jvm.Cond.methodLink "StrataBase$Reader" (117 : Nat) ({ cls := "StrataBase$Clauses", name := "open", desc := "(II)V" } : Jvm.MethodName)) ∈ tblG := rn_3 (List.mem_of_getElem? (i := 119) (by decide +kernel)) (by decide +kernel)
theorem wd_600 : (Jvm.Cond.instanceMethod ({ cls := "StrataBase$Clauses", name := "open", desc := "(II)V" } : Jvm.MethodName)) ∈ tblG := rn_3 (List.mem_of_getElem? (i := 120) (by decide +kernel)) (by decide +kernel)
theorem wd_601 : (Jvm.Cond.selects "StrataBase$Clauses" ({ cls := "StrataBase$Clauses", name := "open", desc := "(II)V" } : Jvm.MethodName) ({ cls := "StrataBase$Clauses", name := "open", desc := "(II)V" } : Jvm.MethodName)) ∈ tblG := rn_3 (List.mem_of_getElem? (i := 121) (by decide +kernel)) (by decide +kernel)
theorem wd_602 : (Jvm.Cond.code ({ cls := "StrataBase$Clauses", name := "open", desc := "(II)V" } : Jvm.MethodName) prog_2_method_4_code (3 : Nat) (Option.none : Option Jvm.ClassFile.FieldType)) ∈ tblG := rn_3 (List.mem_of_getElem? (i := 122) (by decide +kernel)) (by decide +kernel)
theorem wd_603 : (Jvm.Cond.methodLink "StrataBase$Reader" (68 : Nat) ({ cls := "StrataBase$Tokens", name := "next", desc := "()V" } : Jvm.MethodName)) ∈ tblG := rn_3 (List.mem_of_getElem? (i := 123) (by decide +kernel)) (by decide +kernel)
theorem wd_604 : (Jvm.Cond.instanceMethod ({ cls := "StrataBase$Tokens", name := "next", desc := "()V" } : Jvm.MethodName)) ∈ tblG := rn_3 (List.mem_of_getElem? (i := 124) (by decide +kernel)) (by decide +kernel)
theorem wd_605 : (Jvm.Cond.selects "StrataBase$Tokens" ({ cls := "StrataBase$Tokens", name := "next", desc := "()V" } : Jvm.MethodName) ({ cls := "StrataBase$Tokens", name := "next", desc := "()V" } : Jvm.MethodName)) ∈ tblG := rn_3 (List.mem_of_getElem? (i := 125) (by decide +kernel)) (by decide +kernel)
theorem wd_606 : (Jvm.Cond.code ({ cls := "StrataBase$Tokens", name := "next", desc := "()V" } : Jvm.MethodName) prog_12_method_3_code (1 : Nat) (Option.none : Option Jvm.ClassFile.FieldType)) ∈ tblG := rn_3 (List.mem_of_getElem? (i := 126) (by decide +kernel)) (by decide +kernel)
theorem wd_607 : (Jvm.Cond.methodLink "StrataBase$Tokens" (20 : Nat) ({ cls := "StrataBase$Tokens", name := "skipBlanks", desc := "()V" } : Jvm.MethodName)) ∈ tblG := rn_3 (List.mem_of_getElem? (i := 127) (by decide +kernel)) (by decide +kernel)
theorem wd_609 : (Jvm.Cond.instanceMethod ({ cls := "StrataBase$Tokens", name := "skipBlanks", desc := "()V" } : Jvm.MethodName)) ∈ tblG := rn_3 (List.mem_of_getElem? (i := 129) (by decide +kernel)) (by decide +kernel)
theorem wd_610 : (Jvm.Cond.code ({ cls := "StrataBase$Tokens", name := "skipBlanks", desc := "()V" } : Jvm.MethodName) prog_12_method_7_code (2 : Nat) (Option.none : Option Jvm.ClassFile.FieldType)) ∈ tblG := rn_3 (List.mem_of_getElem? (i := 130) (by decide +kernel)) (by decide +kernel)
theorem wd_611 : (Jvm.Cond.methodLink "StrataBase$Tokens" (48 : Nat) ({ cls := "StrataBase$Tokens", name := "isBlank", desc := "(I)Z" } : Jvm.MethodName)) ∈ tblG := rn_3 (List.mem_of_getElem? (i := 131) (by decide +kernel)) (by decide +kernel)
theorem wd_612 : (Jvm.Cond.static ({ cls := "StrataBase$Tokens", name := "isBlank", desc := "(I)Z" } : Jvm.MethodName)) ∈ tblG := rn_3 (List.mem_of_getElem? (i := 132) (by decide +kernel)) (by decide +kernel)
theorem wd_613 : (Jvm.Cond.code ({ cls := "StrataBase$Tokens", name := "isBlank", desc := "(I)Z" } : Jvm.MethodName) prog_12_method_13_code (1 : Nat) (Option.some Jvm.ClassFile.FieldType.boolean)) ∈ tblG := rn_3 (List.mem_of_getElem? (i := 133) (by decide +kernel)) (by decide +kernel)
theorem wd_614 : (Jvm.Cond.methodLink "StrataBase$Tokens" (32 : Nat) ({ cls := "StrataBase$Tokens", name := "isWordByte", desc := "(I)Z" } : Jvm.MethodName)) ∈ tblG := rn_3 (List.mem_of_getElem? (i := 134) (by decide +kernel)) (by decide +kernel)
theorem wd_615 : (Jvm.Cond.static ({ cls := "StrataBase$Tokens", name := "isWordByte", desc := "(I)Z" } : Jvm.MethodName)) ∈ tblG := rn_3 (List.mem_of_getElem? (i := 135) (by decide +kernel)) (by decide +kernel)
theorem wd_616 : (Jvm.Cond.code ({ cls := "StrataBase$Tokens", name := "isWordByte", desc := "(I)Z" } : Jvm.MethodName) prog_12_method_16_code (1 : Nat) (Option.some Jvm.ClassFile.FieldType.boolean)) ∈ tblG := rn_3 (List.mem_of_getElem? (i := 136) (by decide +kernel)) (by decide +kernel)
theorem wd_617 : (Jvm.Cond.methodLink "StrataBase$Tokens" (51 : Nat) ({ cls := "StrataBase$Tokens", name := "isSmall", desc := "(I)Z" } : Jvm.MethodName)) ∈ tblG := rn_3 (List.mem_of_getElem? (i := 137) (by decide +kernel)) (by decide +kernel)
theorem wd_618 : (Jvm.Cond.static ({ cls := "StrataBase$Tokens", name := "isSmall", desc := "(I)Z" } : Jvm.MethodName)) ∈ tblG := rn_3 (List.mem_of_getElem? (i := 138) (by decide +kernel)) (by decide +kernel)
theorem wd_619 : (Jvm.Cond.code ({ cls := "StrataBase$Tokens", name := "isSmall", desc := "(I)Z" } : Jvm.MethodName) prog_12_method_15_code (1 : Nat) (Option.some Jvm.ClassFile.FieldType.boolean)) ∈ tblG := rn_3 (List.mem_of_getElem? (i := 139) (by decide +kernel)) (by decide +kernel)
theorem wd_620 : (Jvm.Cond.methodLink "StrataBase$Tokens" (36 : Nat) ({ cls := "StrataBase$Tokens", name := "isDigit", desc := "(I)Z" } : Jvm.MethodName)) ∈ tblG := rn_3 (List.mem_of_getElem? (i := 140) (by decide +kernel)) (by decide +kernel)
theorem wd_621 : (Jvm.Cond.static ({ cls := "StrataBase$Tokens", name := "isDigit", desc := "(I)Z" } : Jvm.MethodName)) ∈ tblG := rn_3 (List.mem_of_getElem? (i := 141) (by decide +kernel)) (by decide +kernel)
theorem wd_622 : (Jvm.Cond.code ({ cls := "StrataBase$Tokens", name := "isDigit", desc := "(I)Z" } : Jvm.MethodName) prog_12_method_14_code (1 : Nat) (Option.some Jvm.ClassFile.FieldType.boolean)) ∈ tblG := rn_3 (List.mem_of_getElem? (i := 142) (by decide +kernel)) (by decide +kernel)
theorem wd_623 : (Jvm.Cond.methodLink "StrataBase$Tokens" (39 : Nat) ({ cls := "StrataBase$Tokens", name := "readWord", desc := "()V" } : Jvm.MethodName)) ∈ tblG := rn_3 (List.mem_of_getElem? (i := 143) (by decide +kernel)) (by decide +kernel)
theorem wd_625 : (Jvm.Cond.instanceMethod ({ cls := "StrataBase$Tokens", name := "readWord", desc := "()V" } : Jvm.MethodName)) ∈ tblG := rn_3 (List.mem_of_getElem? (i := 145) (by decide +kernel)) (by decide +kernel)
theorem wd_626 : (Jvm.Cond.code ({ cls := "StrataBase$Tokens", name := "readWord", desc := "()V" } : Jvm.MethodName) prog_12_method_8_code (2 : Nat) (Option.none : Option Jvm.ClassFile.FieldType)) ∈ tblG := rn_3 (List.mem_of_getElem? (i := 146) (by decide +kernel)) (by decide +kernel)
theorem wd_627 : (Jvm.Cond.methodLink "StrataBase$Tokens" (54 : Nat) ({ cls := "StrataBase$Tokens", name := "isNot", desc := "()Z" } : Jvm.MethodName)) ∈ tblG := rn_3 (List.mem_of_getElem? (i := 147) (by decide +kernel)) (by decide +kernel)
theorem wd_629 : (Jvm.Cond.instanceMethod ({ cls := "StrataBase$Tokens", name := "isNot", desc := "()Z" } : Jvm.MethodName)) ∈ tblG := rn_3 (List.mem_of_getElem? (i := 149) (by decide +kernel)) (by decide +kernel)
theorem wd_630 : (Jvm.Cond.code ({ cls := "StrataBase$Tokens", name := "isNot", desc := "()Z" } : Jvm.MethodName) prog_12_method_9_code (1 : Nat) (Option.some Jvm.ClassFile.FieldType.boolean)) ∈ tblG := rn_3 (List.mem_of_getElem? (i := 150) (by decide +kernel)) (by decide +kernel)
theorem wd_631 : (Jvm.Cond.methodLink "StrataBase$Tokens" (42 : Nat) ({ cls := "StrataBase$Tokens", name := "readNumber", desc := "()V" } : Jvm.MethodName)) ∈ tblG := rn_3 (List.mem_of_getElem? (i := 151) (by decide +kernel)) (by decide +kernel)
theorem wd_633 : (Jvm.Cond.instanceMethod ({ cls := "StrataBase$Tokens", name := "readNumber", desc := "()V" } : Jvm.MethodName)) ∈ tblG := rn_3 (List.mem_of_getElem? (i := 153) (by decide +kernel)) (by decide +kernel)
theorem wd_634 : (Jvm.Cond.code ({ cls := "StrataBase$Tokens", name := "readNumber", desc := "()V" } : Jvm.MethodName) prog_12_method_10_code (5 : Nat) (Option.none : Option Jvm.ClassFile.FieldType)) ∈ tblG := rn_3 (List.mem_of_getElem? (i := 154) (by decide +kernel)) (by decide +kernel)
theorem wd_635 : (Jvm.Cond.constantLong "StrataBase$Tokens" (58 : Nat) (10 : Int64)) ∈ tblG := rn_3 (List.mem_of_getElem? (i := 155) (by decide +kernel)) (by decide +kernel)
theorem wd_636 : (Jvm.Cond.constantLong "StrataBase$Tokens" (60 : Nat) (48 : Int64)) ∈ tblG := rn_3 (List.mem_of_getElem? (i := 156) (by decide +kernel)) (by decide +kernel)
theorem wd_637 : (Jvm.Cond.constantLong "StrataBase$Tokens" (62 : Nat) (1099511627776 : Int64)) ∈ tblG := rn_3 (List.mem_of_getElem? (i := 157) (by decide +kernel)) (by decide +kernel)
theorem wd_638 : (Jvm.Cond.methodLink "StrataBase$Tokens" (64 : Nat) ({ cls := "java/lang/Math", name := "min", desc := "(JJ)J" } : Jvm.MethodName)) ∈ tblG := rn_3 (List.mem_of_getElem? (i := 158) (by decide +kernel)) (by decide +kernel)
theorem wd_639 : (Jvm.Cond.static ({ cls := "java/lang/Math", name := "min", desc := "(JJ)J" } : Jvm.MethodName)) ∈ tblG := rn_3 (List.mem_of_getElem? (i := 159) (by decide +kernel)) (by decide +kernel)
theorem wd_640 : (Jvm.Cond.code ({ cls := "java/lang/Math", name := "min", desc := "(JJ)J" } : Jvm.MethodName) prog_21_method_70_code (4 : Nat) (Option.some Jvm.ClassFile.FieldType.long)) ∈ tblG := rn_3 (List.mem_of_getElem? (i := 160) (by decide +kernel)) (by decide +kernel)
theorem wd_641 : (Jvm.Cond.constantLong "StrataBase$Tokens" (70 : Nat) (-2147483648 : Int64)) ∈ tblG := rn_3 (List.mem_of_getElem? (i := 161) (by decide +kernel)) (by decide +kernel)
theorem wd_642 : (Jvm.Cond.constantLong "StrataBase$Tokens" (72 : Nat) (2147483647 : Int64)) ∈ tblG := rn_3 (List.mem_of_getElem? (i := 162) (by decide +kernel)) (by decide +kernel)
theorem wd_643 : (Jvm.Cond.methodLink "StrataBase$Tokens" (45 : Nat) ({ cls := "StrataBase$Tokens", name := "readSign", desc := "()V" } : Jvm.MethodName)) ∈ tblG := rn_3 (List.mem_of_getElem? (i := 163) (by decide +kernel)) (by decide +kernel)
theorem wd_645 : (Jvm.Cond.instanceMethod ({ cls := "StrataBase$Tokens", name := "readSign", desc := "()V" } : Jvm.MethodName)) ∈ tblG := rn_3 (List.mem_of_getElem? (i := 165) (by decide +kernel)) (by decide +kernel)
theorem wd_646 : (Jvm.Cond.code ({ cls := "StrataBase$Tokens", name := "readSign", desc := "()V" } : Jvm.MethodName) prog_12_method_11_code (2 : Nat) (Option.none : Option Jvm.ClassFile.FieldType)) ∈ tblG := rn_3 (List.mem_of_getElem? (i := 166) (by decide +kernel)) (by decide +kernel)
theorem wd_647 : (Jvm.Cond.methodLink "StrataBase$Tokens" (74 : Nat) ({ cls := "StrataBase$Tokens", name := "takes", desc := "(I)Z" } : Jvm.MethodName)) ∈ tblG := rn_3 (List.mem_of_getElem? (i := 167) (by decide +kernel)) (by decide +kernel)
theorem wd_649 : (Jvm.Cond.instanceMethod ({ cls := "StrataBase$Tokens", name := "takes", desc := "(I)Z" } : Jvm.MethodName)) ∈ tblG := rn_3 (List.mem_of_getElem? (i := 169) (by decide +kernel)) (by decide +kernel)
theorem wd_650 : (Jvm.Cond.code ({ cls := "StrataBase$Tokens", name := "takes", desc := "(I)Z" } : Jvm.MethodName) prog_12_method_12_code (3 : Nat) (Option.some Jvm.ClassFile.FieldType.boolean)) ∈ tblG := rn_3 (List.mem_of_getElem? (i := 170) (by decide +kernel)) (by decide +kernel)
theorem wd_651 : (Jvm.Cond.methodLink "StrataBase$Reader" (71 : Nat) ({ cls := "StrataBase$Reader", name := "settleBefore", desc := "()V" } : Jvm.MethodName)) ∈ tblG := rn_3 (List.mem_of_getElem? (i := 171) (by decide +kernel)) (by decide +kernel)
theorem wd_653 : (Jvm.Cond.instanceMethod ({ cls := "StrataBase$Reader", name := "settleBefore", desc := "()V" } : Jvm.MethodName)) ∈ tblG := rn_3 (List.mem_of_getElem? (i := 173) (by decide +kernel)) (by decide +kernel)
theorem wd_654 : (Jvm.Cond.code ({ cls := "StrataBase$Reader", name := "settleBefore", desc := "()V" } : Jvm.MethodName) prog_9_method_4_code (1 : Nat) (Option.none : Option Jvm.ClassFile.FieldType)) ∈ tblG := rn_3 (List.mem_of_getElem? (i := 174) (by decide +kernel)) (by decide +kernel)
theorem wd_655 : (Jvm.Cond.methodLink "StrataBase$Reader" (120 : Nat) ({ cls := "StrataBase$Reader", name := "decideName", desc := "()V" } : Jvm.MethodName)) ∈ tblG := rn_3 (List.mem_of_getElem? (i := 175) (by decide +kernel)) (by decide +kernel)
theorem wd_657 : (Jvm.Cond.instanceMethod ({ cls := "StrataBase$Reader", name := "decideName", desc := "()V" } : Jvm.MethodName)) ∈ tblG := rn_3 (List.mem_of_getElem? (i := 177) (by decide +kernel)) (by decide +kernel)
theorem wd_658 : (Jvm.Cond.code ({ cls := "StrataBase$Reader", name := "decideName", desc := "()V" } : Jvm.MethodName) prog_9_method_18_code (1 : Nat) (Option.none : Option Jvm.ClassFile.FieldType)) ∈ tblG := rn_3 (List.mem_of_getElem? (i := 178) (by decide +kernel)) (by decide +kernel)
theorem wd_659 : (Jvm.Cond.methodLink "StrataBase$Reader" (219 : Nat) ({ cls := "StrataBase$Tokens", name := "isComparison", desc := "()Z" } : Jvm.MethodName)) ∈ tblG := rn_3 (List.mem_of_getElem? (i := 179) (by decide +kernel)) (by decide +kernel)
theorem wd_660 : (Jvm.Cond.instanceMethod ({ cls := "StrataBase$Tokens", name := "isComparison", desc := "()Z" } : Jvm.MethodName)) ∈ tblG := rn_3 (List.mem_of_getElem? (i := 180) (by decide +kernel)) (by decide +kernel)
theorem wd_661 : (Jvm.Cond.selects "StrataBase$Tokens" ({ cls := "StrataBase$Tokens", name := "isComparison", desc := "()Z" } : Jvm.MethodName) ({ cls := "StrataBase$Tokens", name := "isComparison", desc := "()Z" } : Jvm.MethodName)) ∈ tblG := rn_3 (List.mem_of_getElem? (i := 181) (by decide +kernel)) (by decide +kernel)
theorem wd_662 : (Jvm.Cond.code ({ cls := "StrataBase$Tokens", name := "isComparison", desc := "()Z" } : Jvm.MethodName) prog_12_method_4_code (1 : Nat) (Option.some Jvm.ClassFile.FieldType.boolean)) ∈ tblG := rn_3 (List.mem_of_getElem? (i := 182) (by decide +kernel)) (by decide +kernel)
theorem wd_663 : (Jvm.Cond.methodLink "StrataBase$Reader" (213 : Nat) ({ cls := "StrataBase$Reader", name := "openComparison", desc := "(I)V" } : Jvm.MethodName)) ∈ tblG := rn_3 (List.mem_of_getElem? (i := 183) (by decide +kernel)) (by decide +kernel)
theorem wd_665 : (Jvm.Cond.instanceMethod ({ cls := "StrataBase$Reader", name := "openComparison", desc := "(I)V" } : Jvm.MethodName)) ∈ tblG := rn_3 (List.mem_of_getElem? (i := 185) (by decide +kernel)) (by decide +kernel)
theorem wd_666 : (Jvm.Cond.code ({ cls := "StrataBase$Reader", name := "openComparison", desc := "(I)V" } : Jvm.MethodName) prog_9_method_19_code (2 : Nat) (Option.none : Option Jvm.ClassFile.FieldType)) ∈ tblG := rn_3 (List.mem_of_getElem? (i := 186) (by decide +kernel)) (by decide +kernel)
theorem wd_667 : (Jvm.Cond.methodLink "StrataBase$Reader" (226 : Nat) ({ cls := "StrataBase$Constants", name := "clear", desc := "()V" } : Jvm.MethodName)) ∈ tblG := rn_3 (List.mem_of_getElem? (i := 187) (by decide +kernel)) (by decide +kernel)
theorem wd_668 : (Jvm.Cond.methodLink "StrataBase$Reader" (222 : Nat) ({ cls := "StrataBase$Reader", name := "addSideConstant", desc := "(IIII)V" } : Jvm.MethodName)) ∈ tblG := rn_3 (List.mem_of_getElem? (i := 188) (by decide +kernel)) (by decide +kernel)
theorem wd_670 : (Jvm.Cond.instanceMethod ({ cls := "StrataBase$Reader", name := "addSideConstant", desc := "(IIII)V" } : Jvm.MethodName)) ∈ tblG := rn_3 (List.mem_of_getElem? (i := 190) (by decide +kernel)) (by decide +kernel)
theorem wd_671 : (Jvm.Cond.code ({ cls := "StrataBase$Reader", name := "addSideConstant", desc := "(IIII)V" } : Jvm.MethodName) prog_9_method_28_code (7 : Nat) (Option.none : Option Jvm.ClassFile.FieldType)) ∈ tblG := rn_3 (List.mem_of_getElem? (i := 191) (by decide +kernel)) (by decide +kernel)
theorem wd_672 : (Jvm.Cond.methodLink "StrataBase$Reader" (263 : Nat) ({ cls := "StrataBase$Constants", name := "intern", desc := "([BIII)I" } : Jvm.MethodName)) ∈ tblG := rn_3 (List.mem_of_getElem? (i := 192) (by decide +kernel)) (by decide +kernel)
theorem wd_673 : (Jvm.Cond.instanceMethod ({ cls := "StrataBase$Constants", name := "intern", desc := "([BIII)I" } : Jvm.MethodName)) ∈ tblG := rn_3 (List.mem_of_getElem? (i := 193) (by decide +kernel)) (by decide +kernel)
theorem wd_674 : (Jvm.Cond.selects "StrataBase$Constants" ({ cls := "StrataBase$Constants", name := "intern", desc := "([BIII)I" } : Jvm.MethodName) ({ cls := "StrataBase$Constants", name := "intern", desc := "([BIII)I" } : Jvm.MethodName)) ∈ tblG := rn_3 (List.mem_of_getElem? (i := 194) (by decide +kernel)) (by decide +kernel)
theorem wd_675 : (Jvm.Cond.code ({ cls := "StrataBase$Constants", name := "intern", desc := "([BIII)I" } : Jvm.MethodName) prog_3_method_5_code (7 : Nat) (Option.some Jvm.ClassFile.FieldType.int)) ∈ tblG := rn_3 (List.mem_of_getElem? (i := 195) (by decide +kernel)) (by decide +kernel)
theorem wd_676 : (Jvm.Cond.methodLink "StrataBase$Constants" (46 : Nat) ({ cls := "StrataBase$Constants", name := "search", desc := "([BIII)I" } : Jvm.MethodName)) ∈ tblG := rn_3 (List.mem_of_getElem? (i := 196) (by decide +kernel)) (by decide +kernel)
theorem wd_677 : (Jvm.Cond.instanceMethod ({ cls := "StrataBase$Constants", name := "search", desc := "([BIII)I" } : Jvm.MethodName)) ∈ tblG := rn_3 (List.mem_of_getElem? (i := 197) (by decide +kernel)) (by decide +kernel)
theorem wd_678 : (Jvm.Cond.selects "StrataBase$Constants" ({ cls := "StrataBase$Constants", name := "search", desc := "([BIII)I" } : Jvm.MethodName) ({ cls := "StrataBase$Constants", name := "search", desc := "([BIII)I" } : Jvm.MethodName)) ∈ tblG := rn_3 (List.mem_of_getElem? (i := 198) (by decide +kernel)) (by decide +kernel)
theorem wd_679 : (Jvm.Cond.code ({ cls := "StrataBase$Constants", name := "search", desc := "([BIII)I" } : Jvm.MethodName) prog_3_method_4_code (9 : Nat) (Option.some Jvm.ClassFile.FieldType.int)) ∈ tblG := rn_3 (List.mem_of_getElem? (i := 199) (by decide +kernel)) (by decide +kernel)
theorem wd_680 : (Jvm.Cond.methodLink "StrataBase$Constants" (37 : Nat) ({ cls := "StrataBase$Names", name := "compare", desc := "(I[BII)I" } : Jvm.MethodName)) ∈ tblG := rn_3 (List.mem_of_getElem? (i := 200) (by decide +kernel)) (by decide +kernel)
theorem wd_681 : (Jvm.Cond.instanceMethod ({ cls := "StrataBase$Names", name := "compare", desc := "(I[BII)I" } : Jvm.MethodName)) ∈ tblG := rn_3 (List.mem_of_getElem? (i := 201) (by decide +kernel)) (by decide +kernel)
theorem wd_682 : (Jvm.Cond.selects "StrataBase$Names" ({ cls := "StrataBase$Names", name := "compare", desc := "(I[BII)I" } : Jvm.MethodName) ({ cls := "StrataBase$Names", name := "compare", desc := "(I[BII)I" } : Jvm.MethodName)) ∈ tblG := rn_3 (List.mem_of_getElem? (i := 202) (by decide +kernel)) (by decide +kernel)
theorem wd_683 : (Jvm.Cond.code ({ cls := "StrataBase$Names", name := "compare", desc := "(I[BII)I" } : Jvm.MethodName) prog_7_method_7_code (8 : Nat) (Option.some Jvm.ClassFile.FieldType.int)) ∈ tblG := rn_3 (List.mem_of_getElem? (i := 203) (by decide +kernel)) (by decide +kernel)
theorem wd_684 : (Jvm.Cond.methodLink "StrataBase$Constants" (41 : Nat) ({ cls := "java/lang/Integer", name := "compare", desc := "(II)I" } : Jvm.MethodName)) ∈ tblG := rn_3 (List.mem_of_getElem? (i := 204) (by decide +kernel)) (by decide +kernel)
theorem wd_685 : (Jvm.Cond.static ({ cls := "java/lang/Integer", name := "compare", desc := "(II)I" } : Jvm.MethodName)) ∈ tblG := rn_3 (List.mem_of_getElem? (i := 205) (by decide +kernel)) (by decide +kernel)
theorem wd_686 : (Jvm.Cond.code ({ cls := "java/lang/Integer", name := "compare", desc := "(II)I" } : Jvm.MethodName) prog_20_method_40_code (2 : Nat) (Option.some Jvm.ClassFile.FieldType.int)) ∈ tblG := rn_3 (List.mem_of_getElem? (i := 206) (by decide +kernel)) (by decide +kernel)
theorem wd_687 : (Jvm.Cond.methodLink "StrataBase$Constants" (50 : Nat) ({ cls := "StrataBase$Names", name := "add", desc := "([BII)I" } : Jvm.MethodName)) ∈ tblG := rn_3 (List.mem_of_getElem? (i := 207) (by decide +kernel)) (by decide +kernel)
theorem wd_688 : (Jvm.Cond.instanceMethod ({ cls := "StrataBase$Names", name := "add", desc := "([BII)I" } : Jvm.MethodName)) ∈ tblG := rn_3 (List.mem_of_getElem? (i := 208) (by decide +kernel)) (by decide +kernel)
theorem wd_689 : (Jvm.Cond.selects "StrataBase$Names" ({ cls := "StrataBase$Names", name := "add", desc := "([BII)I" } : Jvm.MethodName) ({ cls := "StrataBase$Names", name := "add", desc := "([BII)I" } : Jvm.MethodName)) ∈ tblG := rn_3 (List.mem_of_getElem? (i := 209) (by decide +kernel)) (by decide +kernel)
theorem wd_690 : (Jvm.Cond.code ({ cls := "StrataBase$Names", name := "add", desc := "([BII)I" } : Jvm.MethodName) prog_7_method_4_code (4 : Nat) (Option.some Jvm.ClassFile.FieldType.int)) ∈ tblG := rn_3 (List.mem_of_getElem? (i := 210) (by decide +kernel)) (by decide +kernel)
theorem wd_691 : (Jvm.Cond.methodLink "StrataBase$Names" (33 : Nat) ({ cls := "java/lang/Math", name := "max", desc := "(II)I" } : Jvm.MethodName)) ∈ tblG := rn_3 (List.mem_of_getElem? (i := 211) (by decide +kernel)) (by decide +kernel)
theorem wd_692 : (Jvm.Cond.static ({ cls := "java/lang/Math", name := "max", desc := "(II)I" } : Jvm.MethodName)) ∈ tblG := rn_3 (List.mem_of_getElem? (i := 212) (by decide +kernel)) (by decide +kernel)
theorem wd_693 : (Jvm.Cond.code ({ cls := "java/lang/Math", name := "max", desc := "(II)I" } : Jvm.MethodName) prog_21_method_65_code (2 : Nat) (Option.some Jvm.ClassFile.FieldType.int)) ∈ tblG := rn_3 (List.mem_of_getElem? (i := 213) (by decide +kernel)) (by decide +kernel)
theorem wd_694 : (Jvm.Cond.methodLink "StrataBase$Names" (39 : Nat) ({ cls := "java/util/Arrays", name := "copyOf", desc := "([BI)[B" } : Jvm.MethodName)) ∈ tblG := rn_3 (List.mem_of_getElem? (i := 214) (by decide +kernel)) (by decide +kernel)
theorem wd_695 : (Jvm.Cond.static ({ cls := "java/util/Arrays", name := "copyOf", desc := "([BI)[B" } : Jvm.MethodName)) ∈ tblG := rn_3 (List.mem_of_getElem? (i := 215) (by decide +kernel)) (by decide +kernel)
theorem wd_696 : (Jvm.Cond.code ({ cls := "java/util/Arrays", name := "copyOf", desc := "([BI)[B" } : Jvm.MethodName) prog_26_method_121_code (3 : Nat) (Option.some (Jvm.ClassFile.FieldType.array Jvm.ClassFile.FieldType.byte))) ∈ tblG := rn_3 (List.mem_of_getElem? (i := 216) (by decide +kernel)) (by decide +kernel)
theorem wd_697 : (Jvm.Cond.methodLink "java/util/Arrays" (310 : Nat) ({ cls := "[B", name := "clone", desc := "()Ljava/lang/Object;" } : Jvm.MethodName)) ∈ tblG := rn_3 (List.mem_of_getElem? (i := 217) (by decide +kernel)) (by decide +kernel)
theorem wd_699 : (Jvm.Cond.native ({ cls := "java/lang/Object", name := "clone", desc := "()Ljava/lang/Object;" } : Jvm.MethodName)) ∈ tblG := rn_3 (List.mem_of_getElem? (i := 219) (by decide +kernel)) (by decide +kernel)
theorem wd_700 : (Jvm.Cond.instanceMethod ({ cls := "java/lang/Object", name := "clone", desc := "()Ljava/lang/Object;" } : Jvm.MethodName)) ∈ tblG := rn_3 (List.mem_of_getElem? (i := 220) (by decide +kernel)) (by decide +kernel)
theorem wd_701 : (Jvm.Cond.selects "[B" ({ cls := "[B", name := "clone", desc := "()Ljava/lang/Object;" } : Jvm.MethodName) ({ cls := "java/lang/Object", name := "clone", desc := "()Ljava/lang/Object;" } : Jvm.MethodName)) ∈ tblG := rn_3 (List.mem_of_getElem? (i := 221) (by decide +kernel)) (by decide +kernel)
theorem wd_703 : (Jvm.Cond.classLink "java/util/Arrays" (311 : Nat) "[B") ∈ tblG := rn_3 (List.mem_of_getElem? (i := 223) (by decide +kernel)) (by decide +kernel)
theorem wd_704 : (Jvm.Cond.methodLink "java/util/Arrays" (304 : Nat) ({ cls := "java/lang/Math", name := "min", desc := "(II)I" } : Jvm.MethodName)) ∈ tblG := rn_3 (List.mem_of_getElem? (i := 224) (by decide +kernel)) (by decide +kernel)
theorem wd_705 : (Jvm.Cond.static ({ cls := "java/lang/Math", name := "min", desc := "(II)I" } : Jvm.MethodName)) ∈ tblG := rn_3 (List.mem_of_getElem? (i := 225) (by decide +kernel)) (by decide +kernel)
theorem wd_706 : (Jvm.Cond.code ({ cls := "java/lang/Math", name := "min", desc := "(II)I" } : Jvm.MethodName) prog_21_method_69_code (2 : Nat) (Option.some Jvm.ClassFile.FieldType.int)) ∈ tblG := rn_3 (List.mem_of_getElem? (i := 226) (by decide +kernel)) (by decide +kernel)
theorem wd_707 : (Jvm.Cond.methodLink "java/util/Arrays" (150 : Nat) ({ cls := "java/lang/System", name := "arraycopy", desc := "(Ljava/lang/Object;ILjava/lang/Object;II)V" } : Jvm.MethodName)) ∈ tblG := rn_3 (List.mem_of_getElem? (i := 227) (by decide +kernel)) (by decide +kernel)
theorem wd_708 : (Jvm.Cond.static ({ cls := "java/lang/System", name := "arraycopy", desc := "(Ljava/lang/Object;ILjava/lang/Object;II)V" } : Jvm.MethodName)) ∈ tblG := rn_3 (List.mem_of_getElem? (i := 228) (by decide +kernel)) (by decide +kernel)
theorem wd_709 : (Jvm.Cond.native ({ cls := "java/lang/System", name := "arraycopy", desc := "(Ljava/lang/Object;ILjava/lang/Object;II)V" } : Jvm.MethodName)) ∈ tblG := rn_3 (List.mem_of_getElem? (i := 229) (by decide +kernel)) (by decide +kernel)
theorem wd_710 : (Jvm.Cond.methodLink "StrataBase$Names" (45 : Nat) ({ cls := "java/lang/System", name := "arraycopy", desc := "(Ljava/lang/Object;ILjava/lang/Object;II)V" } : Jvm.MethodName)) ∈ tblG := rn_3 (List.mem_of_getElem? (i := 230) (by decide +kernel)) (by decide +kernel)
theorem wd_711 : (Jvm.Cond.methodLink "StrataBase$Constants" (54 : Nat) ({ cls := "java/lang/System", name := "arraycopy", desc := "(Ljava/lang/Object;ILjava/lang/Object;II)V" } : Jvm.MethodName)) ∈ tblG := rn_3 (List.mem_of_getElem? (i := 231) (by decide +kernel)) (by decide +kernel)
theorem wd_712 : (Jvm.Cond.methodLink "StrataBase$Reader" (267 : Nat) ({ cls := "StrataBase$Constants", name := "search", desc := "([BIII)I" } : Jvm.MethodName)) ∈ tblG := rn_3 (List.mem_of_getElem? (i := 232) (by decide +kernel)) (by decide +kernel)
theorem wd_713 : (Jvm.Cond.methodLink "StrataBase$Reader" (245 : Nat) ({ cls := "StrataBase$Clauses", name := "codeOfRank", desc := "(I)I" } : Jvm.MethodName)) ∈ tblG := rn_3 (List.mem_of_getElem? (i := 233) (by decide +kernel)) (by decide +kernel)
theorem wd_714 : (Jvm.Cond.static ({ cls := "StrataBase$Clauses", name := "codeOfRank", desc := "(I)I" } : Jvm.MethodName)) ∈ tblG := rn_3 (List.mem_of_getElem? (i := 234) (by decide +kernel)) (by decide +kernel)
theorem wd_715 : (Jvm.Cond.code ({ cls := "StrataBase$Clauses", name := "codeOfRank", desc := "(I)I" } : Jvm.MethodName) prog_2_method_12_code (1 : Nat) (Option.some Jvm.ClassFile.FieldType.int)) ∈ tblG := rn_3 (List.mem_of_getElem? (i := 235) (by decide +kernel)) (by decide +kernel)
theorem wd_716 : (Jvm.Cond.methodLink "StrataBase$Reader" (276 : Nat) ({ cls := "StrataBase$Reader", name := "addConstant", desc := "(III)V" } : Jvm.MethodName)) ∈ tblG := rn_3 (List.mem_of_getElem? (i := 236) (by decide +kernel)) (by decide +kernel)
theorem wd_718 : (Jvm.Cond.instanceMethod ({ cls := "StrataBase$Reader", name := "addConstant", desc := "(III)V" } : Jvm.MethodName)) ∈ tblG := rn_3 (List.mem_of_getElem? (i := 238) (by decide +kernel)) (by decide +kernel)
theorem wd_719 : (Jvm.Cond.code ({ cls := "StrataBase$Reader", name := "addConstant", desc := "(III)V" } : Jvm.MethodName) prog_9_method_29_code (4 : Nat) (Option.none : Option Jvm.ClassFile.FieldType)) ∈ tblG := rn_3 (List.mem_of_getElem? (i := 239) (by decide +kernel)) (by decide +kernel)
theorem wd_720 : (Jvm.Cond.methodLink "StrataBase$Reader" (132 : Nat) ({ cls := "StrataBase$Reader", name := "stop", desc := "(II)V" } : Jvm.MethodName)) ∈ tblG := rn_4 (List.mem_of_getElem? (i := 0) (by decide +kernel)) (by decide +kernel)
theorem wd_722 : (Jvm.Cond.instanceMethod ({ cls := "StrataBase$Reader", name := "stop", desc := "(II)V" } : Jvm.MethodName)) ∈ tblG := rn_4 (List.mem_of_getElem? (i := 2) (by decide +kernel)) (by decide +kernel)
theorem wd_723 : (Jvm.Cond.code ({ cls := "StrataBase$Reader", name := "stop", desc := "(II)V" } : Jvm.MethodName) prog_9_method_6_code (3 : Nat) (Option.none : Option Jvm.ClassFile.FieldType)) ∈ tblG := rn_4 (List.mem_of_getElem? (i := 3) (by decide +kernel)) (by decide +kernel)
theorem wd_724 : (Jvm.Cond.methodLink "StrataBase$Reader" (258 : Nat) ({ cls := "StrataBase$Clauses", name := "add", desc := "(I)V" } : Jvm.MethodName)) ∈ tblG := rn_4 (List.mem_of_getElem? (i := 4) (by decide +kernel)) (by decide +kernel)
theorem wd_725 : (Jvm.Cond.instanceMethod ({ cls := "StrataBase$Clauses", name := "add", desc := "(I)V" } : Jvm.MethodName)) ∈ tblG := rn_4 (List.mem_of_getElem? (i := 5) (by decide +kernel)) (by decide +kernel)
theorem wd_726 : (Jvm.Cond.selects "StrataBase$Clauses" ({ cls := "StrataBase$Clauses", name := "add", desc := "(I)V" } : Jvm.MethodName) ({ cls := "StrataBase$Clauses", name := "add", desc := "(I)V" } : Jvm.MethodName)) ∈ tblG := rn_4 (List.mem_of_getElem? (i := 6) (by decide +kernel)) (by decide +kernel)
theorem wd_727 : (Jvm.Cond.code ({ cls := "StrataBase$Clauses", name := "add", desc := "(I)V" } : Jvm.MethodName) prog_2_method_6_code (3 : Nat) (Option.none : Option Jvm.ClassFile.FieldType)) ∈ tblG := rn_4 (List.mem_of_getElem? (i := 7) (by decide +kernel)) (by decide +kernel)
theorem wd_728 : (Jvm.Cond.methodLink "StrataBase$Clauses" (40 : Nat) ({ cls := "StrataBase$Clauses", name := "setTerm", desc := "(III)V" } : Jvm.MethodName)) ∈ tblG := rn_4 (List.mem_of_getElem? (i := 8) (by decide +kernel)) (by decide +kernel)
theorem wd_729 : (Jvm.Cond.instanceMethod ({ cls := "StrataBase$Clauses", name := "setTerm", desc := "(III)V" } : Jvm.MethodName)) ∈ tblG := rn_4 (List.mem_of_getElem? (i := 9) (by decide +kernel)) (by decide +kernel)
theorem wd_730 : (Jvm.Cond.selects "StrataBase$Clauses" ({ cls := "StrataBase$Clauses", name := "setTerm", desc := "(III)V" } : Jvm.MethodName) ({ cls := "StrataBase$Clauses", name := "setTerm", desc := "(III)V" } : Jvm.MethodName)) ∈ tblG := rn_4 (List.mem_of_getElem? (i := 10) (by decide +kernel)) (by decide +kernel)
theorem wd_731 : (Jvm.Cond.code ({ cls := "StrataBase$Clauses", name := "setTerm", desc := "(III)V" } : Jvm.MethodName) prog_2_method_8_code (4 : Nat) (Option.none : Option Jvm.ClassFile.FieldType)) ∈ tblG := rn_4 (List.mem_of_getElem? (i := 11) (by decide +kernel)) (by decide +kernel)
theorem wd_732 : (Jvm.Cond.methodLink "StrataBase$Reader" (164 : Nat) ({ cls := "StrataBase$Reader", name := "namePredicate", desc := "()V" } : Jvm.MethodName)) ∈ tblG := rn_4 (List.mem_of_getElem? (i := 12) (by decide +kernel)) (by decide +kernel)
theorem wd_734 : (Jvm.Cond.instanceMethod ({ cls := "StrataBase$Reader", name := "namePredicate", desc := "()V" } : Jvm.MethodName)) ∈ tblG := rn_4 (List.mem_of_getElem? (i := 14) (by decide +kernel)) (by decide +kernel)
theorem wd_735 : (Jvm.Cond.code ({ cls := "StrataBase$Reader", name := "namePredicate", desc := "()V" } : Jvm.MethodName) prog_9_method_13_code (3 : Nat) (Option.none : Option Jvm.ClassFile.FieldType)) ∈ tblG := rn_4 (List.mem_of_getElem? (i := 15) (by decide +kernel)) (by decide +kernel)
theorem wd_736 : (Jvm.Cond.methodLink "StrataBase$Reader" (182 : Nat) ({ cls := "StrataBase$Names", name := "find", desc := "([BII)I" } : Jvm.MethodName)) ∈ tblG := rn_4 (List.mem_of_getElem? (i := 16) (by decide +kernel)) (by decide +kernel)
theorem wd_737 : (Jvm.Cond.instanceMethod ({ cls := "StrataBase$Names", name := "find", desc := "([BII)I" } : Jvm.MethodName)) ∈ tblG := rn_4 (List.mem_of_getElem? (i := 17) (by decide +kernel)) (by decide +kernel)
theorem wd_738 : (Jvm.Cond.selects "StrataBase$Names" ({ cls := "StrataBase$Names", name := "find", desc := "([BII)I" } : Jvm.MethodName) ({ cls := "StrataBase$Names", name := "find", desc := "([BII)I" } : Jvm.MethodName)) ∈ tblG := rn_4 (List.mem_of_getElem? (i := 18) (by decide +kernel)) (by decide +kernel)
theorem wd_739 : (Jvm.Cond.code ({ cls := "StrataBase$Names", name := "find", desc := "([BII)I" } : Jvm.MethodName) prog_7_method_3_code (5 : Nat) (Option.some Jvm.ClassFile.FieldType.int)) ∈ tblG := rn_4 (List.mem_of_getElem? (i := 19) (by decide +kernel)) (by decide +kernel)
theorem wd_740 : (Jvm.Cond.methodLink "StrataBase$Names" (29 : Nat) ({ cls := "StrataBase$Names", name := "compare", desc := "(I[BII)I" } : Jvm.MethodName)) ∈ tblG := rn_4 (List.mem_of_getElem? (i := 20) (by decide +kernel)) (by decide +kernel)
theorem wd_741 : (Jvm.Cond.methodLink "StrataBase$Reader" (186 : Nat) ({ cls := "StrataBase$Names", name := "add", desc := "([BII)I" } : Jvm.MethodName)) ∈ tblG := rn_4 (List.mem_of_getElem? (i := 21) (by decide +kernel)) (by decide +kernel)
theorem wd_742 : (Jvm.Cond.methodLink "StrataBase$Reader" (191 : Nat) ({ cls := "StrataBase$Clauses", name := "newest", desc := "()I" } : Jvm.MethodName)) ∈ tblG := rn_4 (List.mem_of_getElem? (i := 22) (by decide +kernel)) (by decide +kernel)
theorem wd_743 : (Jvm.Cond.instanceMethod ({ cls := "StrataBase$Clauses", name := "newest", desc := "()I" } : Jvm.MethodName)) ∈ tblG := rn_4 (List.mem_of_getElem? (i := 23) (by decide +kernel)) (by decide +kernel)
theorem wd_744 : (Jvm.Cond.selects "StrataBase$Clauses" ({ cls := "StrataBase$Clauses", name := "newest", desc := "()I" } : Jvm.MethodName) ({ cls := "StrataBase$Clauses", name := "newest", desc := "()I" } : Jvm.MethodName)) ∈ tblG := rn_4 (List.mem_of_getElem? (i := 24) (by decide +kernel)) (by decide +kernel)
theorem wd_745 : (Jvm.Cond.code ({ cls := "StrataBase$Clauses", name := "newest", desc := "()I" } : Jvm.MethodName) prog_2_method_5_code (1 : Nat) (Option.some Jvm.ClassFile.FieldType.int)) ∈ tblG := rn_4 (List.mem_of_getElem? (i := 25) (by decide +kernel)) (by decide +kernel)
theorem wd_746 : (Jvm.Cond.methodLink "StrataBase$Reader" (126 : Nat) ({ cls := "StrataBase$Reader", name := "closeAtom", desc := "()V" } : Jvm.MethodName)) ∈ tblG := rn_4 (List.mem_of_getElem? (i := 26) (by decide +kernel)) (by decide +kernel)
theorem wd_748 : (Jvm.Cond.instanceMethod ({ cls := "StrataBase$Reader", name := "closeAtom", desc := "()V" } : Jvm.MethodName)) ∈ tblG := rn_4 (List.mem_of_getElem? (i := 28) (by decide +kernel)) (by decide +kernel)
theorem wd_749 : (Jvm.Cond.code ({ cls := "StrataBase$Reader", name := "closeAtom", desc := "()V" } : Jvm.MethodName) prog_9_method_30_code (2 : Nat) (Option.none : Option Jvm.ClassFile.FieldType)) ∈ tblG := rn_4 (List.mem_of_getElem? (i := 29) (by decide +kernel)) (by decide +kernel)
theorem wd_750 : (Jvm.Cond.methodLink "StrataBase$Reader" (279 : Nat) ({ cls := "StrataBase$Reader", name := "checkSize", desc := "(I)V" } : Jvm.MethodName)) ∈ tblG := rn_4 (List.mem_of_getElem? (i := 30) (by decide +kernel)) (by decide +kernel)
theorem wd_752 : (Jvm.Cond.instanceMethod ({ cls := "StrataBase$Reader", name := "checkSize", desc := "(I)V" } : Jvm.MethodName)) ∈ tblG := rn_4 (List.mem_of_getElem? (i := 32) (by decide +kernel)) (by decide +kernel)
theorem wd_753 : (Jvm.Cond.code ({ cls := "StrataBase$Reader", name := "checkSize", desc := "(I)V" } : Jvm.MethodName) prog_9_method_31_code (4 : Nat) (Option.none : Option Jvm.ClassFile.FieldType)) ∈ tblG := rn_4 (List.mem_of_getElem? (i := 33) (by decide +kernel)) (by decide +kernel)
theorem wd_754 : (Jvm.Cond.methodLink "StrataBase$Reader" (282 : Nat) ({ cls := "StrataBase$Reader", name := "checkOwnSize", desc := "(I)V" } : Jvm.MethodName)) ∈ tblG := rn_4 (List.mem_of_getElem? (i := 34) (by decide +kernel)) (by decide +kernel)
theorem wd_756 : (Jvm.Cond.instanceMethod ({ cls := "StrataBase$Reader", name := "checkOwnSize", desc := "(I)V" } : Jvm.MethodName)) ∈ tblG := rn_4 (List.mem_of_getElem? (i := 36) (by decide +kernel)) (by decide +kernel)
theorem wd_757 : (Jvm.Cond.code ({ cls := "StrataBase$Reader", name := "checkOwnSize", desc := "(I)V" } : Jvm.MethodName) prog_9_method_32_code (4 : Nat) (Option.none : Option Jvm.ClassFile.FieldType)) ∈ tblG := rn_4 (List.mem_of_getElem? (i := 37) (by decide +kernel)) (by decide +kernel)
theorem wd_758 : (Jvm.Cond.methodLink "StrataBase$Reader" (286 : Nat) ({ cls := "StrataBase$Reader", name := "note", desc := "(II)V" } : Jvm.MethodName)) ∈ tblG := rn_4 (List.mem_of_getElem? (i := 38) (by decide +kernel)) (by decide +kernel)
theorem wd_760 : (Jvm.Cond.instanceMethod ({ cls := "StrataBase$Reader", name := "note", desc := "(II)V" } : Jvm.MethodName)) ∈ tblG := rn_4 (List.mem_of_getElem? (i := 40) (by decide +kernel)) (by decide +kernel)
theorem wd_761 : (Jvm.Cond.code ({ cls := "StrataBase$Reader", name := "note", desc := "(II)V" } : Jvm.MethodName) prog_9_method_8_code (3 : Nat) (Option.none : Option Jvm.ClassFile.FieldType)) ∈ tblG := rn_4 (List.mem_of_getElem? (i := 41) (by decide +kernel)) (by decide +kernel)
theorem wd_762 : (Jvm.Cond.methodLink "StrataBase$Reader" (74 : Nat) ({ cls := "StrataBase$Reader", name := "beginClause", desc := "()V" } : Jvm.MethodName)) ∈ tblG := rn_4 (List.mem_of_getElem? (i := 42) (by decide +kernel)) (by decide +kernel)
theorem wd_764 : (Jvm.Cond.instanceMethod ({ cls := "StrataBase$Reader", name := "beginClause", desc := "()V" } : Jvm.MethodName)) ∈ tblG := rn_4 (List.mem_of_getElem? (i := 44) (by decide +kernel)) (by decide +kernel)
theorem wd_765 : (Jvm.Cond.code ({ cls := "StrataBase$Reader", name := "beginClause", desc := "()V" } : Jvm.MethodName) prog_9_method_10_code (1 : Nat) (Option.none : Option Jvm.ClassFile.FieldType)) ∈ tblG := rn_4 (List.mem_of_getElem? (i := 45) (by decide +kernel)) (by decide +kernel)
theorem wd_766 : (Jvm.Cond.methodLink "StrataBase$Reader" (155 : Nat) ({ cls := "StrataBase$Reader", name := "refuse", desc := "()V" } : Jvm.MethodName)) ∈ tblG := rn_4 (List.mem_of_getElem? (i := 46) (by decide +kernel)) (by decide +kernel)
theorem wd_768 : (Jvm.Cond.instanceMethod ({ cls := "StrataBase$Reader", name := "refuse", desc := "()V" } : Jvm.MethodName)) ∈ tblG := rn_4 (List.mem_of_getElem? (i := 48) (by decide +kernel)) (by decide +kernel)
theorem wd_769 : (Jvm.Cond.code ({ cls := "StrataBase$Reader", name := "refuse", desc := "()V" } : Jvm.MethodName) prog_9_method_7_code (1 : Nat) (Option.none : Option Jvm.ClassFile.FieldType)) ∈ tblG := rn_4 (List.mem_of_getElem? (i := 49) (by decide +kernel)) (by decide +kernel)
theorem wd_770 : (Jvm.Cond.methodLink "StrataBase$Reader" (77 : Nat) ({ cls := "StrataBase$Reader", name := "readPredicate", desc := "()V" } : Jvm.MethodName)) ∈ tblG := rn_4 (List.mem_of_getElem? (i := 50) (by decide +kernel)) (by decide +kernel)
theorem wd_772 : (Jvm.Cond.instanceMethod ({ cls := "StrataBase$Reader", name := "readPredicate", desc := "()V" } : Jvm.MethodName)) ∈ tblG := rn_4 (List.mem_of_getElem? (i := 52) (by decide +kernel)) (by decide +kernel)
theorem wd_773 : (Jvm.Cond.code ({ cls := "StrataBase$Reader", name := "readPredicate", desc := "()V" } : Jvm.MethodName) prog_9_method_11_code (1 : Nat) (Option.none : Option Jvm.ClassFile.FieldType)) ∈ tblG := rn_4 (List.mem_of_getElem? (i := 53) (by decide +kernel)) (by decide +kernel)
theorem wd_774 : (Jvm.Cond.methodLink "StrataBase$Reader" (161 : Nat) ({ cls := "StrataBase$Reader", name := "markName", desc := "()V" } : Jvm.MethodName)) ∈ tblG := rn_4 (List.mem_of_getElem? (i := 54) (by decide +kernel)) (by decide +kernel)
theorem wd_776 : (Jvm.Cond.instanceMethod ({ cls := "StrataBase$Reader", name := "markName", desc := "()V" } : Jvm.MethodName)) ∈ tblG := rn_4 (List.mem_of_getElem? (i := 56) (by decide +kernel)) (by decide +kernel)
theorem wd_777 : (Jvm.Cond.code ({ cls := "StrataBase$Reader", name := "markName", desc := "()V" } : Jvm.MethodName) prog_9_method_12_code (1 : Nat) (Option.none : Option Jvm.ClassFile.FieldType)) ∈ tblG := rn_4 (List.mem_of_getElem? (i := 57) (by decide +kernel)) (by decide +kernel)
theorem wd_778 : (Jvm.Cond.methodLink "StrataBase$Reader" (80 : Nat) ({ cls := "StrataBase$Reader", name := "readTerm", desc := "()V" } : Jvm.MethodName)) ∈ tblG := rn_4 (List.mem_of_getElem? (i := 58) (by decide +kernel)) (by decide +kernel)
theorem wd_780 : (Jvm.Cond.instanceMethod ({ cls := "StrataBase$Reader", name := "readTerm", desc := "()V" } : Jvm.MethodName)) ∈ tblG := rn_4 (List.mem_of_getElem? (i := 60) (by decide +kernel)) (by decide +kernel)
theorem wd_781 : (Jvm.Cond.code ({ cls := "StrataBase$Reader", name := "readTerm", desc := "()V" } : Jvm.MethodName) prog_9_method_14_code (2 : Nat) (Option.none : Option Jvm.ClassFile.FieldType)) ∈ tblG := rn_4 (List.mem_of_getElem? (i := 61) (by decide +kernel)) (by decide +kernel)
theorem wd_782 : (Jvm.Cond.methodLink "StrataBase$Reader" (197 : Nat) ({ cls := "StrataBase$Tokens", name := "isConstant", desc := "()Z" } : Jvm.MethodName)) ∈ tblG := rn_4 (List.mem_of_getElem? (i := 62) (by decide +kernel)) (by decide +kernel)
theorem wd_783 : (Jvm.Cond.instanceMethod ({ cls := "StrataBase$Tokens", name := "isConstant", desc := "()Z" } : Jvm.MethodName)) ∈ tblG := rn_4 (List.mem_of_getElem? (i := 63) (by decide +kernel)) (by decide +kernel)
theorem wd_784 : (Jvm.Cond.selects "StrataBase$Tokens" ({ cls := "StrataBase$Tokens", name := "isConstant", desc := "()Z" } : Jvm.MethodName) ({ cls := "StrataBase$Tokens", name := "isConstant", desc := "()Z" } : Jvm.MethodName)) ∈ tblG := rn_4 (List.mem_of_getElem? (i := 64) (by decide +kernel)) (by decide +kernel)
theorem wd_785 : (Jvm.Cond.code ({ cls := "StrataBase$Tokens", name := "isConstant", desc := "()Z" } : Jvm.MethodName) prog_12_method_5_code (1 : Nat) (Option.some Jvm.ClassFile.FieldType.boolean)) ∈ tblG := rn_4 (List.mem_of_getElem? (i := 65) (by decide +kernel)) (by decide +kernel)
theorem wd_786 : (Jvm.Cond.methodLink "StrataBase$Reader" (204 : Nat) ({ cls := "StrataBase$Reader", name := "addVariable", desc := "(I)V" } : Jvm.MethodName)) ∈ tblG := rn_4 (List.mem_of_getElem? (i := 66) (by decide +kernel)) (by decide +kernel)
theorem wd_788 : (Jvm.Cond.instanceMethod ({ cls := "StrataBase$Reader", name := "addVariable", desc := "(I)V" } : Jvm.MethodName)) ∈ tblG := rn_4 (List.mem_of_getElem? (i := 68) (by decide +kernel)) (by decide +kernel)
theorem wd_789 : (Jvm.Cond.code ({ cls := "StrataBase$Reader", name := "addVariable", desc := "(I)V" } : Jvm.MethodName) prog_9_method_26_code (5 : Nat) (Option.none : Option Jvm.ClassFile.FieldType)) ∈ tblG := rn_4 (List.mem_of_getElem? (i := 69) (by decide +kernel)) (by decide +kernel)
theorem wd_790 : (Jvm.Cond.methodLink "StrataBase$Reader" (207 : Nat) ({ cls := "StrataBase$Reader", name := "addAtomConstant", desc := "()V" } : Jvm.MethodName)) ∈ tblG := rn_4 (List.mem_of_getElem? (i := 70) (by decide +kernel)) (by decide +kernel)
theorem wd_792 : (Jvm.Cond.instanceMethod ({ cls := "StrataBase$Reader", name := "addAtomConstant", desc := "()V" } : Jvm.MethodName)) ∈ tblG := rn_4 (List.mem_of_getElem? (i := 72) (by decide +kernel)) (by decide +kernel)
theorem wd_793 : (Jvm.Cond.code ({ cls := "StrataBase$Reader", name := "addAtomConstant", desc := "()V" } : Jvm.MethodName) prog_9_method_27_code (3 : Nat) (Option.none : Option Jvm.ClassFile.FieldType)) ∈ tblG := rn_4 (List.mem_of_getElem? (i := 73) (by decide +kernel)) (by decide +kernel)
theorem wd_794 : (Jvm.Cond.methodLink "StrataBase$Reader" (252 : Nat) ({ cls := "StrataBase$Tokens", name := "nameLength", desc := "()I" } : Jvm.MethodName)) ∈ tblG := rn_4 (List.mem_of_getElem? (i := 74) (by decide +kernel)) (by decide +kernel)
theorem wd_795 : (Jvm.Cond.instanceMethod ({ cls := "StrataBase$Tokens", name := "nameLength", desc := "()I" } : Jvm.MethodName)) ∈ tblG := rn_4 (List.mem_of_getElem? (i := 75) (by decide +kernel)) (by decide +kernel)
theorem wd_796 : (Jvm.Cond.selects "StrataBase$Tokens" ({ cls := "StrataBase$Tokens", name := "nameLength", desc := "()I" } : Jvm.MethodName) ({ cls := "StrataBase$Tokens", name := "nameLength", desc := "()I" } : Jvm.MethodName)) ∈ tblG := rn_4 (List.mem_of_getElem? (i := 76) (by decide +kernel)) (by decide +kernel)
theorem wd_797 : (Jvm.Cond.code ({ cls := "StrataBase$Tokens", name := "nameLength", desc := "()I" } : Jvm.MethodName) prog_12_method_6_code (1 : Nat) (Option.some Jvm.ClassFile.FieldType.int)) ∈ tblG := rn_4 (List.mem_of_getElem? (i := 77) (by decide +kernel)) (by decide +kernel)
theorem wd_798 : (Jvm.Cond.methodLink "StrataBase$Reader" (270 : Nat) ({ cls := "java/lang/Math", name := "max", desc := "(II)I" } : Jvm.MethodName)) ∈ tblG := rn_4 (List.mem_of_getElem? (i := 78) (by decide +kernel)) (by decide +kernel)
theorem wd_799 : (Jvm.Cond.methodLink "StrataBase$Reader" (83 : Nat) ({ cls := "StrataBase$Reader", name := "readTermEnd", desc := "()V" } : Jvm.MethodName)) ∈ tblG := rn_4 (List.mem_of_getElem? (i := 79) (by decide +kernel)) (by decide +kernel)
theorem wd_801 : (Jvm.Cond.instanceMethod ({ cls := "StrataBase$Reader", name := "readTermEnd", desc := "()V" } : Jvm.MethodName)) ∈ tblG := rn_4 (List.mem_of_getElem? (i := 81) (by decide +kernel)) (by decide +kernel)
theorem wd_802 : (Jvm.Cond.code ({ cls := "StrataBase$Reader", name := "readTermEnd", desc := "()V" } : Jvm.MethodName) prog_9_method_15_code (1 : Nat) (Option.none : Option Jvm.ClassFile.FieldType)) ∈ tblG := rn_4 (List.mem_of_getElem? (i := 82) (by decide +kernel)) (by decide +kernel)
theorem wd_803 : (Jvm.Cond.methodLink "StrataBase$Reader" (86 : Nat) ({ cls := "StrataBase$Reader", name := "readHeadEnd", desc := "()V" } : Jvm.MethodName)) ∈ tblG := rn_4 (List.mem_of_getElem? (i := 83) (by decide +kernel)) (by decide +kernel)
theorem wd_805 : (Jvm.Cond.instanceMethod ({ cls := "StrataBase$Reader", name := "readHeadEnd", desc := "()V" } : Jvm.MethodName)) ∈ tblG := rn_4 (List.mem_of_getElem? (i := 85) (by decide +kernel)) (by decide +kernel)
theorem wd_806 : (Jvm.Cond.code ({ cls := "StrataBase$Reader", name := "readHeadEnd", desc := "()V" } : Jvm.MethodName) prog_9_method_16_code (1 : Nat) (Option.none : Option Jvm.ClassFile.FieldType)) ∈ tblG := rn_4 (List.mem_of_getElem? (i := 86) (by decide +kernel)) (by decide +kernel)
theorem wd_807 : (Jvm.Cond.methodLink "StrataBase$Reader" (210 : Nat) ({ cls := "StrataBase$Reader", name := "closeClause", desc := "()V" } : Jvm.MethodName)) ∈ tblG := rn_4 (List.mem_of_getElem? (i := 87) (by decide +kernel)) (by decide +kernel)
theorem wd_809 : (Jvm.Cond.instanceMethod ({ cls := "StrataBase$Reader", name := "closeClause", desc := "()V" } : Jvm.MethodName)) ∈ tblG := rn_4 (List.mem_of_getElem? (i := 89) (by decide +kernel)) (by decide +kernel)
theorem wd_810 : (Jvm.Cond.code ({ cls := "StrataBase$Reader", name := "closeClause", desc := "()V" } : Jvm.MethodName) prog_9_method_33_code (2 : Nat) (Option.none : Option Jvm.ClassFile.FieldType)) ∈ tblG := rn_4 (List.mem_of_getElem? (i := 90) (by decide +kernel)) (by decide +kernel)
theorem wd_811 : (Jvm.Cond.methodLink "StrataBase$Reader" (290 : Nat) ({ cls := "StrataBase$Clauses", name := "close", desc := "()V" } : Jvm.MethodName)) ∈ tblG := rn_4 (List.mem_of_getElem? (i := 91) (by decide +kernel)) (by decide +kernel)
theorem wd_812 : (Jvm.Cond.instanceMethod ({ cls := "StrataBase$Clauses", name := "close", desc := "()V" } : Jvm.MethodName)) ∈ tblG := rn_4 (List.mem_of_getElem? (i := 92) (by decide +kernel)) (by decide +kernel)
theorem wd_813 : (Jvm.Cond.selects "StrataBase$Clauses" ({ cls := "StrataBase$Clauses", name := "close", desc := "()V" } : Jvm.MethodName) ({ cls := "StrataBase$Clauses", name := "close", desc := "()V" } : Jvm.MethodName)) ∈ tblG := rn_4 (List.mem_of_getElem? (i := 93) (by decide +kernel)) (by decide +kernel)
theorem wd_814 : (Jvm.Cond.code ({ cls := "StrataBase$Clauses", name := "close", desc := "()V" } : Jvm.MethodName) prog_2_method_3_code (1 : Nat) (Option.none : Option Jvm.ClassFile.FieldType)) ∈ tblG := rn_4 (List.mem_of_getElem? (i := 94) (by decide +kernel)) (by decide +kernel)
theorem wd_815 : (Jvm.Cond.methodLink "StrataBase$Reader" (89 : Nat) ({ cls := "StrataBase$Reader", name := "beginLiteral", desc := "()V" } : Jvm.MethodName)) ∈ tblG := rn_4 (List.mem_of_getElem? (i := 95) (by decide +kernel)) (by decide +kernel)
theorem wd_817 : (Jvm.Cond.instanceMethod ({ cls := "StrataBase$Reader", name := "beginLiteral", desc := "()V" } : Jvm.MethodName)) ∈ tblG := rn_4 (List.mem_of_getElem? (i := 97) (by decide +kernel)) (by decide +kernel)
theorem wd_818 : (Jvm.Cond.code ({ cls := "StrataBase$Reader", name := "beginLiteral", desc := "()V" } : Jvm.MethodName) prog_9_method_17_code (2 : Nat) (Option.none : Option Jvm.ClassFile.FieldType)) ∈ tblG := rn_4 (List.mem_of_getElem? (i := 98) (by decide +kernel)) (by decide +kernel)
theorem wd_819 : (Jvm.Cond.methodLink "StrataBase$Reader" (216 : Nat) ({ cls := "StrataBase$Reader", name := "addSide", desc := "(I)V" } : Jvm.MethodName)) ∈ tblG := rn_4 (List.mem_of_getElem? (i := 99) (by decide +kernel)) (by decide +kernel)
theorem wd_821 : (Jvm.Cond.instanceMethod ({ cls := "StrataBase$Reader", name := "addSide", desc := "(I)V" } : Jvm.MethodName)) ∈ tblG := rn_4 (List.mem_of_getElem? (i := 101) (by decide +kernel)) (by decide +kernel)
theorem wd_822 : (Jvm.Cond.code ({ cls := "StrataBase$Reader", name := "addSide", desc := "(I)V" } : Jvm.MethodName) prog_9_method_25_code (2 : Nat) (Option.none : Option Jvm.ClassFile.FieldType)) ∈ tblG := rn_4 (List.mem_of_getElem? (i := 102) (by decide +kernel)) (by decide +kernel)
theorem wd_823 : (Jvm.Cond.methodLink "StrataBase$Reader" (92 : Nat) ({ cls := "StrataBase$Reader", name := "readComparison", desc := "()V" } : Jvm.MethodName)) ∈ tblG := rn_4 (List.mem_of_getElem? (i := 103) (by decide +kernel)) (by decide +kernel)
theorem wd_825 : (Jvm.Cond.instanceMethod ({ cls := "StrataBase$Reader", name := "readComparison", desc := "()V" } : Jvm.MethodName)) ∈ tblG := rn_4 (List.mem_of_getElem? (i := 105) (by decide +kernel)) (by decide +kernel)
theorem wd_826 : (Jvm.Cond.code ({ cls := "StrataBase$Reader", name := "readComparison", desc := "()V" } : Jvm.MethodName) prog_9_method_20_code (1 : Nat) (Option.none : Option Jvm.ClassFile.FieldType)) ∈ tblG := rn_4 (List.mem_of_getElem? (i := 106) (by decide +kernel)) (by decide +kernel)
theorem wd_827 : (Jvm.Cond.methodLink "StrataBase$Reader" (95 : Nat) ({ cls := "StrataBase$Reader", name := "readRightSide", desc := "()V" } : Jvm.MethodName)) ∈ tblG := rn_4 (List.mem_of_getElem? (i := 107) (by decide +kernel)) (by decide +kernel)
theorem wd_829 : (Jvm.Cond.instanceMethod ({ cls := "StrataBase$Reader", name := "readRightSide", desc := "()V" } : Jvm.MethodName)) ∈ tblG := rn_4 (List.mem_of_getElem? (i := 109) (by decide +kernel)) (by decide +kernel)
theorem wd_830 : (Jvm.Cond.code ({ cls := "StrataBase$Reader", name := "readRightSide", desc := "()V" } : Jvm.MethodName) prog_9_method_21_code (1 : Nat) (Option.none : Option Jvm.ClassFile.FieldType)) ∈ tblG := rn_4 (List.mem_of_getElem? (i := 110) (by decide +kernel)) (by decide +kernel)
theorem wd_831 : (Jvm.Cond.methodLink "StrataBase$Reader" (233 : Nat) ({ cls := "StrataBase$Reader", name := "compareSides", desc := "()V" } : Jvm.MethodName)) ∈ tblG := rn_4 (List.mem_of_getElem? (i := 111) (by decide +kernel)) (by decide +kernel)
theorem wd_833 : (Jvm.Cond.instanceMethod ({ cls := "StrataBase$Reader", name := "compareSides", desc := "()V" } : Jvm.MethodName)) ∈ tblG := rn_4 (List.mem_of_getElem? (i := 113) (by decide +kernel)) (by decide +kernel)
theorem wd_834 : (Jvm.Cond.code ({ cls := "StrataBase$Reader", name := "compareSides", desc := "()V" } : Jvm.MethodName) prog_9_method_22_code (4 : Nat) (Option.none : Option Jvm.ClassFile.FieldType)) ∈ tblG := rn_4 (List.mem_of_getElem? (i := 114) (by decide +kernel)) (by decide +kernel)
theorem wd_835 : (Jvm.Cond.methodLink "StrataBase$Reader" (236 : Nat) ({ cls := "StrataBase$Constants", name := "setRanks", desc := "()V" } : Jvm.MethodName)) ∈ tblG := rn_4 (List.mem_of_getElem? (i := 115) (by decide +kernel)) (by decide +kernel)
theorem wd_836 : (Jvm.Cond.instanceMethod ({ cls := "StrataBase$Constants", name := "setRanks", desc := "()V" } : Jvm.MethodName)) ∈ tblG := rn_4 (List.mem_of_getElem? (i := 116) (by decide +kernel)) (by decide +kernel)
theorem wd_837 : (Jvm.Cond.selects "StrataBase$Constants" ({ cls := "StrataBase$Constants", name := "setRanks", desc := "()V" } : Jvm.MethodName) ({ cls := "StrataBase$Constants", name := "setRanks", desc := "()V" } : Jvm.MethodName)) ∈ tblG := rn_4 (List.mem_of_getElem? (i := 117) (by decide +kernel)) (by decide +kernel)
theorem wd_838 : (Jvm.Cond.code ({ cls := "StrataBase$Constants", name := "setRanks", desc := "()V" } : Jvm.MethodName) prog_3_method_6_code (2 : Nat) (Option.none : Option Jvm.ClassFile.FieldType)) ∈ tblG := rn_4 (List.mem_of_getElem? (i := 118) (by decide +kernel)) (by decide +kernel)
theorem wd_839 : (Jvm.Cond.methodLink "StrataBase$Reader" (239 : Nat) ({ cls := "StrataBase$Constants", name := "rankOf", desc := "(I)I" } : Jvm.MethodName)) ∈ tblG := rn_4 (List.mem_of_getElem? (i := 119) (by decide +kernel)) (by decide +kernel)
theorem wd_840 : (Jvm.Cond.instanceMethod ({ cls := "StrataBase$Constants", name := "rankOf", desc := "(I)I" } : Jvm.MethodName)) ∈ tblG := rn_4 (List.mem_of_getElem? (i := 120) (by decide +kernel)) (by decide +kernel)
theorem wd_841 : (Jvm.Cond.selects "StrataBase$Constants" ({ cls := "StrataBase$Constants", name := "rankOf", desc := "(I)I" } : Jvm.MethodName) ({ cls := "StrataBase$Constants", name := "rankOf", desc := "(I)I" } : Jvm.MethodName)) ∈ tblG := rn_4 (List.mem_of_getElem? (i := 121) (by decide +kernel)) (by decide +kernel)
theorem wd_842 : (Jvm.Cond.code ({ cls := "StrataBase$Constants", name := "rankOf", desc := "(I)I" } : Jvm.MethodName) prog_3_method_7_code (2 : Nat) (Option.some Jvm.ClassFile.FieldType.int)) ∈ tblG := rn_4 (List.mem_of_getElem? (i := 122) (by decide +kernel)) (by decide +kernel)
theorem wd_843 : (Jvm.Cond.methodLink "StrataBase$Reader" (243 : Nat) ({ cls := "StrataBase$Constants", name := "size", desc := "()I" } : Jvm.MethodName)) ∈ tblG := rn_4 (List.mem_of_getElem? (i := 123) (by decide +kernel)) (by decide +kernel)
theorem wd_844 : (Jvm.Cond.instanceMethod ({ cls := "StrataBase$Constants", name := "size", desc := "()I" } : Jvm.MethodName)) ∈ tblG := rn_4 (List.mem_of_getElem? (i := 124) (by decide +kernel)) (by decide +kernel)
theorem wd_845 : (Jvm.Cond.selects "StrataBase$Constants" ({ cls := "StrataBase$Constants", name := "size", desc := "()I" } : Jvm.MethodName) ({ cls := "StrataBase$Constants", name := "size", desc := "()I" } : Jvm.MethodName)) ∈ tblG := rn_4 (List.mem_of_getElem? (i := 125) (by decide +kernel)) (by decide +kernel)
theorem wd_846 : (Jvm.Cond.code ({ cls := "StrataBase$Constants", name := "size", desc := "()I" } : Jvm.MethodName) prog_3_method_3_code (1 : Nat) (Option.some Jvm.ClassFile.FieldType.int)) ∈ tblG := rn_4 (List.mem_of_getElem? (i := 126) (by decide +kernel)) (by decide +kernel)
theorem wd_847 : (Jvm.Cond.methodLink "StrataBase$Reader" (248 : Nat) ({ cls := "StrataBase$Clauses", name := "setTerm", desc := "(III)V" } : Jvm.MethodName)) ∈ tblG := rn_4 (List.mem_of_getElem? (i := 127) (by decide +kernel)) (by decide +kernel)
theorem wd_848 : (Jvm.Cond.methodLink "StrataBase$Reader" (98 : Nat) ({ cls := "StrataBase$Reader", name := "readLiteralEnd", desc := "()V" } : Jvm.MethodName)) ∈ tblG := rn_4 (List.mem_of_getElem? (i := 128) (by decide +kernel)) (by decide +kernel)
theorem wd_850 : (Jvm.Cond.instanceMethod ({ cls := "StrataBase$Reader", name := "readLiteralEnd", desc := "()V" } : Jvm.MethodName)) ∈ tblG := rn_4 (List.mem_of_getElem? (i := 130) (by decide +kernel)) (by decide +kernel)
theorem wd_851 : (Jvm.Cond.code ({ cls := "StrataBase$Reader", name := "readLiteralEnd", desc := "()V" } : Jvm.MethodName) prog_9_method_23_code (1 : Nat) (Option.none : Option Jvm.ClassFile.FieldType)) ∈ tblG := rn_4 (List.mem_of_getElem? (i := 131) (by decide +kernel)) (by decide +kernel)
theorem wd_852 : (Jvm.Cond.methodLink "StrataBase$Reader" (101 : Nat) ({ cls := "StrataBase$Reader", name := "expectEnd", desc := "()V" } : Jvm.MethodName)) ∈ tblG := rn_4 (List.mem_of_getElem? (i := 132) (by decide +kernel)) (by decide +kernel)
theorem wd_854 : (Jvm.Cond.instanceMethod ({ cls := "StrataBase$Reader", name := "expectEnd", desc := "()V" } : Jvm.MethodName)) ∈ tblG := rn_4 (List.mem_of_getElem? (i := 134) (by decide +kernel)) (by decide +kernel)
theorem wd_855 : (Jvm.Cond.code ({ cls := "StrataBase$Reader", name := "expectEnd", desc := "()V" } : Jvm.MethodName) prog_9_method_24_code (1 : Nat) (Option.none : Option Jvm.ClassFile.FieldType)) ∈ tblG := rn_4 (List.mem_of_getElem? (i := 135) (by decide +kernel)) (by decide +kernel)
theorem wd_856 : (Jvm.Cond.methodLink "StrataBase" (86 : Nat) ({ cls := "StrataBase$Reader", name := "checkCycle", desc := "()V" } : Jvm.MethodName)) ∈ tblG := rn_4 (List.mem_of_getElem? (i := 136) (by decide +kernel)) (by decide +kernel)
theorem wd_857 : (Jvm.Cond.instanceMethod ({ cls := "StrataBase$Reader", name := "checkCycle", desc := "()V" } : Jvm.MethodName)) ∈ tblG := rn_4 (List.mem_of_getElem? (i := 137) (by decide +kernel)) (by decide +kernel)
theorem wd_858 : (Jvm.Cond.selects "StrataBase$Reader" ({ cls := "StrataBase$Reader", name := "checkCycle", desc := "()V" } : Jvm.MethodName) ({ cls := "StrataBase$Reader", name := "checkCycle", desc := "()V" } : Jvm.MethodName)) ∈ tblG := rn_4 (List.mem_of_getElem? (i := 138) (by decide +kernel)) (by decide +kernel)
theorem wd_859 : (Jvm.Cond.code ({ cls := "StrataBase$Reader", name := "checkCycle", desc := "()V" } : Jvm.MethodName) prog_9_method_5_code (2 : Nat) (Option.none : Option Jvm.ClassFile.FieldType)) ∈ tblG := rn_4 (List.mem_of_getElem? (i := 139) (by decide +kernel)) (by decide +kernel)
theorem wd_860 : (Jvm.Cond.methodLink "StrataBase$Reader" (135 : Nat) ({ cls := "StrataBase$Program", name := "placeOfCycle", desc := "()I" } : Jvm.MethodName)) ∈ tblG := rn_4 (List.mem_of_getElem? (i := 140) (by decide +kernel)) (by decide +kernel)
theorem wd_861 : (Jvm.Cond.instanceMethod ({ cls := "StrataBase$Program", name := "placeOfCycle", desc := "()I" } : Jvm.MethodName)) ∈ tblG := rn_4 (List.mem_of_getElem? (i := 141) (by decide +kernel)) (by decide +kernel)
theorem wd_862 : (Jvm.Cond.selects "StrataBase$Program" ({ cls := "StrataBase$Program", name := "placeOfCycle", desc := "()I" } : Jvm.MethodName) ({ cls := "StrataBase$Program", name := "placeOfCycle", desc := "()I" } : Jvm.MethodName)) ∈ tblG := rn_4 (List.mem_of_getElem? (i := 142) (by decide +kernel)) (by decide +kernel)
theorem wd_863 : (Jvm.Cond.code ({ cls := "StrataBase$Program", name := "placeOfCycle", desc := "()I" } : Jvm.MethodName) prog_8_method_4_code (4 : Nat) (Option.some Jvm.ClassFile.FieldType.int)) ∈ tblG := rn_4 (List.mem_of_getElem? (i := 143) (by decide +kernel)) (by decide +kernel)
theorem wd_864 : (Jvm.Cond.methodLink "StrataBase$Program" (61 : Nat) ({ cls := "StrataBase$Program", name := "findReached", desc := "()V" } : Jvm.MethodName)) ∈ tblG := rn_4 (List.mem_of_getElem? (i := 144) (by decide +kernel)) (by decide +kernel)
theorem wd_866 : (Jvm.Cond.instanceMethod ({ cls := "StrataBase$Program", name := "findReached", desc := "()V" } : Jvm.MethodName)) ∈ tblG := rn_4 (List.mem_of_getElem? (i := 146) (by decide +kernel)) (by decide +kernel)
theorem wd_867 : (Jvm.Cond.code ({ cls := "StrataBase$Program", name := "findReached", desc := "()V" } : Jvm.MethodName) prog_8_method_6_code (4 : Nat) (Option.none : Option Jvm.ClassFile.FieldType)) ∈ tblG := rn_4 (List.mem_of_getElem? (i := 147) (by decide +kernel)) (by decide +kernel)
theorem wd_868 : (Jvm.Cond.methodLink "StrataBase$Program" (68 : Nat) ({ cls := "StrataBase$Program", name := "headOf", desc := "(I)I" } : Jvm.MethodName)) ∈ tblG := rn_4 (List.mem_of_getElem? (i := 148) (by decide +kernel)) (by decide +kernel)
theorem wd_869 : (Jvm.Cond.instanceMethod ({ cls := "StrataBase$Program", name := "headOf", desc := "(I)I" } : Jvm.MethodName)) ∈ tblG := rn_4 (List.mem_of_getElem? (i := 149) (by decide +kernel)) (by decide +kernel)
theorem wd_870 : (Jvm.Cond.selects "StrataBase$Program" ({ cls := "StrataBase$Program", name := "headOf", desc := "(I)I" } : Jvm.MethodName) ({ cls := "StrataBase$Program", name := "headOf", desc := "(I)I" } : Jvm.MethodName)) ∈ tblG := rn_4 (List.mem_of_getElem? (i := 150) (by decide +kernel)) (by decide +kernel)
theorem wd_871 : (Jvm.Cond.code ({ cls := "StrataBase$Program", name := "headOf", desc := "(I)I" } : Jvm.MethodName) prog_8_method_3_code (2 : Nat) (Option.some Jvm.ClassFile.FieldType.int)) ∈ tblG := rn_4 (List.mem_of_getElem? (i := 151) (by decide +kernel)) (by decide +kernel)
theorem wd_872 : (Jvm.Cond.methodLink "StrataBase" (89 : Nat) ({ cls := "StrataBase", name := "forgetTape", desc := "()V" } : Jvm.MethodName)) ∈ tblG := rn_4 (List.mem_of_getElem? (i := 152) (by decide +kernel)) (by decide +kernel)
theorem wd_874 : (Jvm.Cond.instanceMethod ({ cls := "StrataBase", name := "forgetTape", desc := "()V" } : Jvm.MethodName)) ∈ tblG := rn_4 (List.mem_of_getElem? (i := 154) (by decide +kernel)) (by decide +kernel)
theorem wd_875 : (Jvm.Cond.code ({ cls := "StrataBase", name := "forgetTape", desc := "()V" } : Jvm.MethodName) prog_1_method_16_code (1 : Nat) (Option.none : Option Jvm.ClassFile.FieldType)) ∈ tblG := rn_4 (List.mem_of_getElem? (i := 155) (by decide +kernel)) (by decide +kernel)
theorem wd_876 : (Jvm.Cond.methodLink "StrataBase" (98 : Nat) ({ cls := "StrataBase$Program", name := "settle", desc := "()V" } : Jvm.MethodName)) ∈ tblG := rn_4 (List.mem_of_getElem? (i := 156) (by decide +kernel)) (by decide +kernel)
theorem wd_877 : (Jvm.Cond.instanceMethod ({ cls := "StrataBase$Program", name := "settle", desc := "()V" } : Jvm.MethodName)) ∈ tblG := rn_4 (List.mem_of_getElem? (i := 157) (by decide +kernel)) (by decide +kernel)
theorem wd_878 : (Jvm.Cond.selects "StrataBase$Program" ({ cls := "StrataBase$Program", name := "settle", desc := "()V" } : Jvm.MethodName) ({ cls := "StrataBase$Program", name := "settle", desc := "()V" } : Jvm.MethodName)) ∈ tblG := rn_4 (List.mem_of_getElem? (i := 158) (by decide +kernel)) (by decide +kernel)
theorem wd_879 : (Jvm.Cond.code ({ cls := "StrataBase$Program", name := "settle", desc := "()V" } : Jvm.MethodName) prog_8_method_5_code (3 : Nat) (Option.none : Option Jvm.ClassFile.FieldType)) ∈ tblG := rn_4 (List.mem_of_getElem? (i := 159) (by decide +kernel)) (by decide +kernel)
theorem wd_880 : (Jvm.Cond.methodLink "StrataBase$Program" (78 : Nat) ({ cls := "StrataBase$Constants", name := "setRanks", desc := "()V" } : Jvm.MethodName)) ∈ tblG := rn_4 (List.mem_of_getElem? (i := 160) (by decide +kernel)) (by decide +kernel)
theorem wd_881 : (Jvm.Cond.methodLink "StrataBase$Program" (81 : Nat) ({ cls := "StrataBase$Clauses", name := "newest", desc := "()I" } : Jvm.MethodName)) ∈ tblG := rn_4 (List.mem_of_getElem? (i := 161) (by decide +kernel)) (by decide +kernel)
theorem wd_882 : (Jvm.Cond.methodLink "StrataBase$Program" (85 : Nat) ({ cls := "StrataBase$Program", name := "settleTerms", desc := "(I)V" } : Jvm.MethodName)) ∈ tblG := rn_4 (List.mem_of_getElem? (i := 162) (by decide +kernel)) (by decide +kernel)
theorem wd_884 : (Jvm.Cond.instanceMethod ({ cls := "StrataBase$Program", name := "settleTerms", desc := "(I)V" } : Jvm.MethodName)) ∈ tblG := rn_4 (List.mem_of_getElem? (i := 164) (by decide +kernel)) (by decide +kernel)
theorem wd_885 : (Jvm.Cond.code ({ cls := "StrataBase$Program", name := "settleTerms", desc := "(I)V" } : Jvm.MethodName) prog_8_method_7_code (7 : Nat) (Option.none : Option Jvm.ClassFile.FieldType)) ∈ tblG := rn_4 (List.mem_of_getElem? (i := 165) (by decide +kernel)) (by decide +kernel)
theorem wd_886 : (Jvm.Cond.methodLink "StrataBase$Program" (103 : Nat) ({ cls := "StrataBase$Clauses", name := "term", desc := "(II)I" } : Jvm.MethodName)) ∈ tblG := rn_4 (List.mem_of_getElem? (i := 166) (by decide +kernel)) (by decide +kernel)
theorem wd_887 : (Jvm.Cond.instanceMethod ({ cls := "StrataBase$Clauses", name := "term", desc := "(II)I" } : Jvm.MethodName)) ∈ tblG := rn_4 (List.mem_of_getElem? (i := 167) (by decide +kernel)) (by decide +kernel)
theorem wd_888 : (Jvm.Cond.selects "StrataBase$Clauses" ({ cls := "StrataBase$Clauses", name := "term", desc := "(II)I" } : Jvm.MethodName) ({ cls := "StrataBase$Clauses", name := "term", desc := "(II)I" } : Jvm.MethodName)) ∈ tblG := rn_4 (List.mem_of_getElem? (i := 168) (by decide +kernel)) (by decide +kernel)
theorem wd_889 : (Jvm.Cond.code ({ cls := "StrataBase$Clauses", name := "term", desc := "(II)I" } : Jvm.MethodName) prog_2_method_7_code (3 : Nat) (Option.some Jvm.ClassFile.FieldType.int)) ∈ tblG := rn_4 (List.mem_of_getElem? (i := 169) (by decide +kernel)) (by decide +kernel)
theorem wd_890 : (Jvm.Cond.methodLink "StrataBase$Program" (106 : Nat) ({ cls := "StrataBase$Constants", name := "rankOf", desc := "(I)I" } : Jvm.MethodName)) ∈ tblG := rn_4 (List.mem_of_getElem? (i := 170) (by decide +kernel)) (by decide +kernel)
theorem wd_891 : (Jvm.Cond.methodLink "StrataBase$Program" (109 : Nat) ({ cls := "StrataBase$Clauses", name := "codeOfRank", desc := "(I)I" } : Jvm.MethodName)) ∈ tblG := rn_4 (List.mem_of_getElem? (i := 171) (by decide +kernel)) (by decide +kernel)
theorem wd_892 : (Jvm.Cond.methodLink "StrataBase$Program" (112 : Nat) ({ cls := "StrataBase$Clauses", name := "setTerm", desc := "(III)V" } : Jvm.MethodName)) ∈ tblG := rn_4 (List.mem_of_getElem? (i := 172) (by decide +kernel)) (by decide +kernel)
theorem wd_893 : (Jvm.Cond.methodLink "StrataBase$Program" (88 : Nat) ({ cls := "StrataBase$Program", name := "raiseStrata", desc := "()Z" } : Jvm.MethodName)) ∈ tblG := rn_4 (List.mem_of_getElem? (i := 173) (by decide +kernel)) (by decide +kernel)
theorem wd_895 : (Jvm.Cond.instanceMethod ({ cls := "StrataBase$Program", name := "raiseStrata", desc := "()Z" } : Jvm.MethodName)) ∈ tblG := rn_4 (List.mem_of_getElem? (i := 175) (by decide +kernel)) (by decide +kernel)
theorem wd_896 : (Jvm.Cond.code ({ cls := "StrataBase$Program", name := "raiseStrata", desc := "()Z" } : Jvm.MethodName) prog_8_method_8_code (7 : Nat) (Option.some Jvm.ClassFile.FieldType.boolean)) ∈ tblG := rn_4 (List.mem_of_getElem? (i := 176) (by decide +kernel)) (by decide +kernel)
theorem wd_897 : (Jvm.Cond.methodLink "StrataBase$Program" (96 : Nat) ({ cls := "java/lang/Math", name := "max", desc := "(II)I" } : Jvm.MethodName)) ∈ tblG := rn_4 (List.mem_of_getElem? (i := 177) (by decide +kernel)) (by decide +kernel)
theorem wd_898 : (Jvm.Cond.methodLink "StrataBase" (101 : Nat) ({ cls := "StrataBase$Rows", name := "open", desc := "(II)V" } : Jvm.MethodName)) ∈ tblG := rn_4 (List.mem_of_getElem? (i := 178) (by decide +kernel)) (by decide +kernel)
theorem wd_899 : (Jvm.Cond.instanceMethod ({ cls := "StrataBase$Rows", name := "open", desc := "(II)V" } : Jvm.MethodName)) ∈ tblG := rn_4 (List.mem_of_getElem? (i := 179) (by decide +kernel)) (by decide +kernel)
theorem wd_900 : (Jvm.Cond.selects "StrataBase$Rows" ({ cls := "StrataBase$Rows", name := "open", desc := "(II)V" } : Jvm.MethodName) ({ cls := "StrataBase$Rows", name := "open", desc := "(II)V" } : Jvm.MethodName)) ∈ tblG := rn_4 (List.mem_of_getElem? (i := 180) (by decide +kernel)) (by decide +kernel)
theorem wd_901 : (Jvm.Cond.code ({ cls := "StrataBase$Rows", name := "open", desc := "(II)V" } : Jvm.MethodName) prog_10_method_2_code (4 : Nat) (Option.none : Option Jvm.ClassFile.FieldType)) ∈ tblG := rn_4 (List.mem_of_getElem? (i := 181) (by decide +kernel)) (by decide +kernel)
theorem wd_902 : (Jvm.Cond.methodLink "StrataBaseLaw" (72 : Nat) ({ cls := "StrataBase", name := "fault", desc := "()I" } : Jvm.MethodName)) ∈ tblG := rn_4 (List.mem_of_getElem? (i := 182) (by decide +kernel)) (by decide +kernel)
theorem wd_903 : (Jvm.Cond.instanceMethod ({ cls := "StrataBase", name := "fault", desc := "()I" } : Jvm.MethodName)) ∈ tblG := rn_4 (List.mem_of_getElem? (i := 183) (by decide +kernel)) (by decide +kernel)
theorem wd_904 : (Jvm.Cond.selects "StrataBase" ({ cls := "StrataBase", name := "fault", desc := "()I" } : Jvm.MethodName) ({ cls := "StrataBase", name := "fault", desc := "()I" } : Jvm.MethodName)) ∈ tblG := rn_4 (List.mem_of_getElem? (i := 184) (by decide +kernel)) (by decide +kernel)
theorem wd_905 : (Jvm.Cond.code ({ cls := "StrataBase", name := "fault", desc := "()I" } : Jvm.MethodName) prog_1_method_5_code (1 : Nat) (Option.some Jvm.ClassFile.FieldType.int)) ∈ tblG := rn_4 (List.mem_of_getElem? (i := 185) (by decide +kernel)) (by decide +kernel)
theorem wd_906 : (Jvm.Cond.methodLink "StrataBaseLaw" (83 : Nat) ({ cls := "StrataBase", name := "columns", desc := "()I" } : Jvm.MethodName)) ∈ tblG := rn_4 (List.mem_of_getElem? (i := 186) (by decide +kernel)) (by decide +kernel)
theorem wd_907 : (Jvm.Cond.instanceMethod ({ cls := "StrataBase", name := "columns", desc := "()I" } : Jvm.MethodName)) ∈ tblG := rn_4 (List.mem_of_getElem? (i := 187) (by decide +kernel)) (by decide +kernel)
theorem wd_908 : (Jvm.Cond.selects "StrataBase" ({ cls := "StrataBase", name := "columns", desc := "()I" } : Jvm.MethodName) ({ cls := "StrataBase", name := "columns", desc := "()I" } : Jvm.MethodName)) ∈ tblG := rn_4 (List.mem_of_getElem? (i := 188) (by decide +kernel)) (by decide +kernel)
theorem wd_909 : (Jvm.Cond.code ({ cls := "StrataBase", name := "columns", desc := "()I" } : Jvm.MethodName) prog_1_method_8_code (1 : Nat) (Option.some Jvm.ClassFile.FieldType.int)) ∈ tblG := rn_4 (List.mem_of_getElem? (i := 189) (by decide +kernel)) (by decide +kernel)
theorem wd_910 : (Jvm.Cond.methodLink "StrataBaseLaw" (101 : Nat) ({ cls := "StrataBase", name := "stratum", desc := "()I" } : Jvm.MethodName)) ∈ tblG := rn_4 (List.mem_of_getElem? (i := 190) (by decide +kernel)) (by decide +kernel)
theorem wd_911 : (Jvm.Cond.instanceMethod ({ cls := "StrataBase", name := "stratum", desc := "()I" } : Jvm.MethodName)) ∈ tblG := rn_4 (List.mem_of_getElem? (i := 191) (by decide +kernel)) (by decide +kernel)
theorem wd_912 : (Jvm.Cond.selects "StrataBase" ({ cls := "StrataBase", name := "stratum", desc := "()I" } : Jvm.MethodName) ({ cls := "StrataBase", name := "stratum", desc := "()I" } : Jvm.MethodName)) ∈ tblG := rn_4 (List.mem_of_getElem? (i := 192) (by decide +kernel)) (by decide +kernel)
theorem wd_913 : (Jvm.Cond.code ({ cls := "StrataBase", name := "stratum", desc := "()I" } : Jvm.MethodName) prog_1_method_13_code (2 : Nat) (Option.some Jvm.ClassFile.FieldType.int)) ∈ tblG := rn_4 (List.mem_of_getElem? (i := 193) (by decide +kernel)) (by decide +kernel)
theorem wd_914 : (Jvm.Cond.methodLink "StrataBaseLaw" (55 : Nat) ({ cls := "StrataBaseLaw", name := "feed", desc := "(LStrataBase;IIIII[J)I" } : Jvm.MethodName)) ∈ tblG := rn_4 (List.mem_of_getElem? (i := 194) (by decide +kernel)) (by decide +kernel)
theorem wd_915 : (Jvm.Cond.static ({ cls := "StrataBaseLaw", name := "feed", desc := "(LStrataBase;IIIII[J)I" } : Jvm.MethodName)) ∈ tblG := rn_4 (List.mem_of_getElem? (i := 195) (by decide +kernel)) (by decide +kernel)
theorem wd_916 : (Jvm.Cond.codeWith ({ cls := "StrataBaseLaw", name := "feed", desc := "(LStrataBase;IIIII[J)I" } : Jvm.MethodName) method_3_code (8 : Nat) (Option.some Jvm.ClassFile.FieldType.int) [((0 : Nat), (16 : Nat), (19 : Nat), (13 : Nat))]) ∈ tblG := rn_4 (List.mem_of_getElem? (i := 196) (by decide +kernel)) (by decide +kernel)
theorem wd_917 : (Jvm.Cond.classLink "StrataBaseLaw" (13 : Nat) "java/lang/UnsupportedOperationException") ∈ tblG := rn_4 (List.mem_of_getElem? (i := 197) (by decide +kernel)) (by decide +kernel)
theorem wd_918 : (Jvm.Cond.methodLink "StrataBaseLaw" (7 : Nat) ({ cls := "StrataBase", name := "feed", desc := "(IIIII)I" } : Jvm.MethodName)) ∈ tblG := rn_4 (List.mem_of_getElem? (i := 198) (by decide +kernel)) (by decide +kernel)
theorem wd_919 : (Jvm.Cond.instanceMethod ({ cls := "StrataBase", name := "feed", desc := "(IIIII)I" } : Jvm.MethodName)) ∈ tblG := rn_4 (List.mem_of_getElem? (i := 199) (by decide +kernel)) (by decide +kernel)
theorem wd_920 : (Jvm.Cond.selects "StrataBase" ({ cls := "StrataBase", name := "feed", desc := "(IIIII)I" } : Jvm.MethodName) ({ cls := "StrataBase", name := "feed", desc := "(IIIII)I" } : Jvm.MethodName)) ∈ tblG := rn_4 (List.mem_of_getElem? (i := 200) (by decide +kernel)) (by decide +kernel)
theorem wd_921 : (Jvm.Cond.code ({ cls := "StrataBase", name := "feed", desc := "(IIIII)I" } : Jvm.MethodName) prog_1_method_2_code (6 : Nat) (Option.some Jvm.ClassFile.FieldType.int)) ∈ tblG := rn_4 (List.mem_of_getElem? (i := 201) (by decide +kernel)) (by decide +kernel)
theorem wd_922 : (Jvm.Cond.classLink "StrataBase" (70 : Nat) "java/lang/UnsupportedOperationException") ∈ tblG := rn_4 (List.mem_of_getElem? (i := 202) (by decide +kernel)) (by decide +kernel)
theorem wd_923 : (Jvm.Cond.instantiable "java/lang/UnsupportedOperationException" (6 : Nat)) ∈ tblG := rn_4 (List.mem_of_getElem? (i := 203) (by decide +kernel)) (by decide +kernel)
theorem wd_931 : (Jvm.Cond.selects "java/lang/UnsupportedOperationException" ({ cls := "java/lang/Throwable", name := "fillInStackTrace", desc := "(I)Ljava/lang/Throwable;" } : Jvm.MethodName) ({ cls := "java/lang/Throwable", name := "fillInStackTrace", desc := "(I)Ljava/lang/Throwable;" } : Jvm.MethodName)) ∈ tblG := rn_4 (List.mem_of_getElem? (i := 211) (by decide +kernel)) (by decide +kernel)
theorem wd_932 : (Jvm.Cond.selects "java/lang/UnsupportedOperationException" ({ cls := "java/lang/Throwable", name := "fillInStackTrace", desc := "()Ljava/lang/Throwable;" } : Jvm.MethodName) ({ cls := "java/lang/Throwable", name := "fillInStackTrace", desc := "()Ljava/lang/Throwable;" } : Jvm.MethodName)) ∈ tblG := rn_4 (List.mem_of_getElem? (i := 212) (by decide +kernel)) (by decide +kernel)
theorem wd_933 : (Jvm.Cond.lays "java/lang/UnsupportedOperationException" "java/lang/Throwable" "cause" "Ljava/lang/Throwable;") ∈ tblG := rn_4 (List.mem_of_getElem? (i := 213) (by decide +kernel)) (by decide +kernel)
theorem wd_934 : (Jvm.Cond.lays "java/lang/Throwable" "java/lang/Throwable" "cause" "Ljava/lang/Throwable;") ∈ tblG := rn_4 (List.mem_of_getElem? (i := 214) (by decide +kernel)) (by decide +kernel)
theorem wd_935 : (Jvm.Cond.lays "java/lang/UnsupportedOperationException" "java/lang/Throwable" "stackTrace" "[Ljava/lang/StackTraceElement;") ∈ tblG := rn_4 (List.mem_of_getElem? (i := 215) (by decide +kernel)) (by decide +kernel)
theorem wd_936 : (Jvm.Cond.lays "java/lang/Throwable" "java/lang/Throwable" "stackTrace" "[Ljava/lang/StackTraceElement;") ∈ tblG := rn_4 (List.mem_of_getElem? (i := 216) (by decide +kernel)) (by decide +kernel)
theorem wd_937 : (Jvm.Cond.lays "java/lang/UnsupportedOperationException" "java/lang/Throwable" "suppressedExceptions" "Ljava/util/List;") ∈ tblG := rn_4 (List.mem_of_getElem? (i := 217) (by decide +kernel)) (by decide +kernel)
theorem wd_938 : (Jvm.Cond.lays "java/lang/Throwable" "java/lang/Throwable" "suppressedExceptions" "Ljava/util/List;") ∈ tblG := rn_4 (List.mem_of_getElem? (i := 218) (by decide +kernel)) (by decide +kernel)
theorem wd_939 : (Jvm.Cond.lays "java/lang/UnsupportedOperationException" "java/lang/Throwable" "detailMessage" "Ljava/lang/String;") ∈ tblG := rn_4 (List.mem_of_getElem? (i := 219) (by decide +kernel)) (by decide +kernel)
theorem wd_940 : (Jvm.Cond.lays "java/lang/Throwable" "java/lang/Throwable" "detailMessage" "Ljava/lang/String;") ∈ tblG := rn_4 (List.mem_of_getElem? (i := 220) (by decide +kernel)) (by decide +kernel)
theorem wd_941 : (Jvm.Cond.lays "java/lang/UnsupportedOperationException" "java/lang/Throwable" "backtrace" "Ljava/lang/Object;") ∈ tblG := rn_4 (List.mem_of_getElem? (i := 221) (by decide +kernel)) (by decide +kernel)
theorem wd_942 : (Jvm.Cond.lays "java/lang/Throwable" "java/lang/Throwable" "backtrace" "Ljava/lang/Object;") ∈ tblG := rn_4 (List.mem_of_getElem? (i := 222) (by decide +kernel)) (by decide +kernel)
theorem wd_943 : (Jvm.Cond.fieldLink "java/lang/Throwable" (198 : Nat) "java/lang/Throwable" "backtrace" "Ljava/lang/Object;") ∈ tblG := rn_4 (List.mem_of_getElem? (i := 223) (by decide +kernel)) (by decide +kernel)
theorem wd_945 : (Jvm.Cond.instanceMethod ({ cls := "java/lang/Throwable", name := "<init>", desc := "()V" } : Jvm.MethodName)) ∈ tblG := rn_4 (List.mem_of_getElem? (i := 225) (by decide +kernel)) (by decide +kernel)
theorem wd_946 : (Jvm.Cond.code ({ cls := "java/lang/Throwable", name := "<init>", desc := "()V" } : Jvm.MethodName) prog_24_method_1_code (1 : Nat) (Option.none : Option Jvm.ClassFile.FieldType)) ∈ tblG := rn_4 (List.mem_of_getElem? (i := 226) (by decide +kernel)) (by decide +kernel)
theorem wd_947 : (Jvm.Cond.methodLink "java/lang/Throwable" (1 : Nat) ({ cls := "java/lang/Object", name := "<init>", desc := "()V" } : Jvm.MethodName)) ∈ tblG := rn_4 (List.mem_of_getElem? (i := 227) (by decide +kernel)) (by decide +kernel)
theorem wd_948 : (Jvm.Cond.fieldLink "java/lang/Throwable" (13 : Nat) "java/lang/Throwable" "UNASSIGNED_STACK" "[Ljava/lang/StackTraceElement;") ∈ tblG := rn_4 (List.mem_of_getElem? (i := 228) (by decide +kernel)) (by decide +kernel)
theorem wd_950 : (Jvm.Cond.fieldLink "java/lang/Throwable" (20 : Nat) "java/lang/Throwable" "SUPPRESSED_SENTINEL" "Ljava/util/List;") ∈ tblG := rn_4 (List.mem_of_getElem? (i := 230) (by decide +kernel)) (by decide +kernel)
theorem wd_952 : (Jvm.Cond.methodLink "java/lang/Throwable" (27 : Nat) ({ cls := "java/lang/Throwable", name := "fillInStackTrace", desc := "()Ljava/lang/Throwable;" } : Jvm.MethodName)) ∈ tblG := rn_4 (List.mem_of_getElem? (i := 232) (by decide +kernel)) (by decide +kernel)
theorem wd_953 : (Jvm.Cond.instanceMethod ({ cls := "java/lang/Throwable", name := "fillInStackTrace", desc := "()Ljava/lang/Throwable;" } : Jvm.MethodName)) ∈ tblG := rn_4 (List.mem_of_getElem? (i := 233) (by decide +kernel)) (by decide +kernel)
theorem wd_955 : (Jvm.Cond.selects "java/lang/IllegalArgumentException" ({ cls := "java/lang/Throwable", name := "fillInStackTrace", desc := "()Ljava/lang/Throwable;" } : Jvm.MethodName) ({ cls := "java/lang/Throwable", name := "fillInStackTrace", desc := "()Ljava/lang/Throwable;" } : Jvm.MethodName)) ∈ tblG := rn_4 (List.mem_of_getElem? (i := 235) (by decide +kernel)) (by decide +kernel)
theorem wd_956 : (Jvm.Cond.selects "java/lang/IllegalStateException" ({ cls := "java/lang/Throwable", name := "fillInStackTrace", desc := "()Ljava/lang/Throwable;" } : Jvm.MethodName) ({ cls := "java/lang/Throwable", name := "fillInStackTrace", desc := "()Ljava/lang/Throwable;" } : Jvm.MethodName)) ∈ tblG := rn_4 (List.mem_of_getElem? (i := 236) (by decide +kernel)) (by decide +kernel)
theorem wd_957 : (Jvm.Cond.selects "java/lang/IndexOutOfBoundsException" ({ cls := "java/lang/Throwable", name := "fillInStackTrace", desc := "()Ljava/lang/Throwable;" } : Jvm.MethodName) ({ cls := "java/lang/Throwable", name := "fillInStackTrace", desc := "()Ljava/lang/Throwable;" } : Jvm.MethodName)) ∈ tblG := rn_4 (List.mem_of_getElem? (i := 237) (by decide +kernel)) (by decide +kernel)
theorem wd_958 : (Jvm.Cond.codeSync ({ cls := "java/lang/Throwable", name := "fillInStackTrace", desc := "()Ljava/lang/Throwable;" } : Jvm.MethodName) prog_24_method_18_code (1 : Nat) (Option.some (Jvm.ClassFile.FieldType.object "java/lang/Throwable"))) ∈ tblG := rn_4 (List.mem_of_getElem? (i := 238) (by decide +kernel)) (by decide +kernel)
theorem wd_959 : (Jvm.Cond.methodLink "java/lang/Throwable" (202 : Nat) ({ cls := "java/lang/Throwable", name := "fillInStackTrace", desc := "(I)Ljava/lang/Throwable;" } : Jvm.MethodName)) ∈ tblG := rn_4 (List.mem_of_getElem? (i := 239) (by decide +kernel)) (by decide +kernel)
theorem wd_961 : (Jvm.Cond.instanceMethod ({ cls := "java/lang/Throwable", name := "fillInStackTrace", desc := "(I)Ljava/lang/Throwable;" } : Jvm.MethodName)) ∈ tblG := rn_5 (List.mem_of_getElem? (i := 1) (by decide +kernel)) (by decide +kernel)
theorem wd_962 : (Jvm.Cond.instantiable "java/lang/Throwable" (6 : Nat)) ∈ tblG := rn_5 (List.mem_of_getElem? (i := 2) (by decide +kernel)) (by decide +kernel)
theorem wd_963 : (Jvm.Cond.native ({ cls := "java/lang/Throwable", name := "fillInStackTrace", desc := "(I)Ljava/lang/Throwable;" } : Jvm.MethodName)) ∈ tblG := rn_5 (List.mem_of_getElem? (i := 3) (by decide +kernel)) (by decide +kernel)
theorem wd_964 : (Jvm.Cond.methodLink "StrataBase" (72 : Nat) ({ cls := "java/lang/UnsupportedOperationException", name := "<init>", desc := "()V" } : Jvm.MethodName)) ∈ tblG := rn_5 (List.mem_of_getElem? (i := 4) (by decide +kernel)) (by decide +kernel)
theorem wd_965 : (Jvm.Cond.instanceMethod ({ cls := "java/lang/UnsupportedOperationException", name := "<init>", desc := "()V" } : Jvm.MethodName)) ∈ tblG := rn_5 (List.mem_of_getElem? (i := 5) (by decide +kernel)) (by decide +kernel)
theorem wd_966 : (Jvm.Cond.code ({ cls := "java/lang/UnsupportedOperationException", name := "<init>", desc := "()V" } : Jvm.MethodName) prog_25_method_1_code (1 : Nat) (Option.none : Option Jvm.ClassFile.FieldType)) ∈ tblG := rn_5 (List.mem_of_getElem? (i := 6) (by decide +kernel)) (by decide +kernel)
theorem wd_967 : (Jvm.Cond.methodLink "java/lang/UnsupportedOperationException" (1 : Nat) ({ cls := "java/lang/RuntimeException", name := "<init>", desc := "()V" } : Jvm.MethodName)) ∈ tblG := rn_5 (List.mem_of_getElem? (i := 7) (by decide +kernel)) (by decide +kernel)
theorem wd_968 : (Jvm.Cond.instanceMethod ({ cls := "java/lang/RuntimeException", name := "<init>", desc := "()V" } : Jvm.MethodName)) ∈ tblG := rn_5 (List.mem_of_getElem? (i := 8) (by decide +kernel)) (by decide +kernel)
theorem wd_969 : (Jvm.Cond.code ({ cls := "java/lang/RuntimeException", name := "<init>", desc := "()V" } : Jvm.MethodName) prog_22_method_1_code (1 : Nat) (Option.none : Option Jvm.ClassFile.FieldType)) ∈ tblG := rn_5 (List.mem_of_getElem? (i := 9) (by decide +kernel)) (by decide +kernel)
theorem wd_970 : (Jvm.Cond.methodLink "java/lang/RuntimeException" (1 : Nat) ({ cls := "java/lang/Exception", name := "<init>", desc := "()V" } : Jvm.MethodName)) ∈ tblG := rn_5 (List.mem_of_getElem? (i := 10) (by decide +kernel)) (by decide +kernel)
theorem wd_971 : (Jvm.Cond.instanceMethod ({ cls := "java/lang/Exception", name := "<init>", desc := "()V" } : Jvm.MethodName)) ∈ tblG := rn_5 (List.mem_of_getElem? (i := 11) (by decide +kernel)) (by decide +kernel)
theorem wd_972 : (Jvm.Cond.code ({ cls := "java/lang/Exception", name := "<init>", desc := "()V" } : Jvm.MethodName) prog_16_method_1_code (1 : Nat) (Option.none : Option Jvm.ClassFile.FieldType)) ∈ tblG := rn_5 (List.mem_of_getElem? (i := 12) (by decide +kernel)) (by decide +kernel)
theorem wd_973 : (Jvm.Cond.methodLink "java/lang/Exception" (1 : Nat) ({ cls := "java/lang/Throwable", name := "<init>", desc := "()V" } : Jvm.MethodName)) ∈ tblG := rn_5 (List.mem_of_getElem? (i := 13) (by decide +kernel)) (by decide +kernel)
theorem wd_975 : (Jvm.Cond.fieldLink "java/lang/Throwable" (7 : Nat) "java/lang/Throwable" "cause" "Ljava/lang/Throwable;") ∈ tblG := rn_5 (List.mem_of_getElem? (i := 15) (by decide +kernel)) (by decide +kernel)
theorem wd_976 : (Jvm.Cond.fieldLink "java/lang/Throwable" (17 : Nat) "java/lang/Throwable" "stackTrace" "[Ljava/lang/StackTraceElement;") ∈ tblG := rn_5 (List.mem_of_getElem? (i := 16) (by decide +kernel)) (by decide +kernel)
theorem wd_977 : (Jvm.Cond.fieldLink "java/lang/Throwable" (24 : Nat) "java/lang/Throwable" "suppressedExceptions" "Ljava/util/List;") ∈ tblG := rn_5 (List.mem_of_getElem? (i := 17) (by decide +kernel)) (by decide +kernel)
theorem wd_982 : (Jvm.Cond.lays "java/lang/UnsupportedOperationException" "java/lang/Throwable" "depth" "I") ∈ tblG := rn_5 (List.mem_of_getElem? (i := 22) (by decide +kernel)) (by decide +kernel)
theorem wd_986 : (Jvm.Cond.methodLink "StrataBase" (73 : Nat) ({ cls := "StrataBase", name := "putBytes", desc := "(I)V" } : Jvm.MethodName)) ∈ tblG := rn_5 (List.mem_of_getElem? (i := 26) (by decide +kernel)) (by decide +kernel)
theorem wd_988 : (Jvm.Cond.instanceMethod ({ cls := "StrataBase", name := "putBytes", desc := "(I)V" } : Jvm.MethodName)) ∈ tblG := rn_5 (List.mem_of_getElem? (i := 28) (by decide +kernel)) (by decide +kernel)
theorem wd_989 : (Jvm.Cond.code ({ cls := "StrataBase", name := "putBytes", desc := "(I)V" } : Jvm.MethodName) prog_1_method_15_code (3 : Nat) (Option.none : Option Jvm.ClassFile.FieldType)) ∈ tblG := rn_5 (List.mem_of_getElem? (i := 29) (by decide +kernel)) (by decide +kernel)
theorem wd_990 : (Jvm.Cond.methodLink "StrataBaseLaw" (64 : Nat) ({ cls := "StrataBaseLaw", name := "end", desc := "(LStrataBase;I)I" } : Jvm.MethodName)) ∈ tblG := rn_5 (List.mem_of_getElem? (i := 30) (by decide +kernel)) (by decide +kernel)
theorem wd_991 : (Jvm.Cond.static ({ cls := "StrataBaseLaw", name := "end", desc := "(LStrataBase;I)I" } : Jvm.MethodName)) ∈ tblG := rn_5 (List.mem_of_getElem? (i := 31) (by decide +kernel)) (by decide +kernel)
theorem wd_992 : (Jvm.Cond.codeWith ({ cls := "StrataBaseLaw", name := "end", desc := "(LStrataBase;I)I" } : Jvm.MethodName) method_4_code (3 : Nat) (Option.some Jvm.ClassFile.FieldType.int) [((0 : Nat), (5 : Nat), (8 : Nat), (19 : Nat))]) ∈ tblG := rn_5 (List.mem_of_getElem? (i := 32) (by decide +kernel)) (by decide +kernel)
theorem wd_993 : (Jvm.Cond.classLink "StrataBaseLaw" (19 : Nat) "java/lang/IllegalArgumentException") ∈ tblG := rn_5 (List.mem_of_getElem? (i := 33) (by decide +kernel)) (by decide +kernel)
theorem wd_994 : (Jvm.Cond.methodLink "StrataBaseLaw" (15 : Nat) ({ cls := "StrataBase", name := "end", desc := "(I)V" } : Jvm.MethodName)) ∈ tblG := rn_5 (List.mem_of_getElem? (i := 34) (by decide +kernel)) (by decide +kernel)
theorem wd_995 : (Jvm.Cond.instanceMethod ({ cls := "StrataBase", name := "end", desc := "(I)V" } : Jvm.MethodName)) ∈ tblG := rn_5 (List.mem_of_getElem? (i := 35) (by decide +kernel)) (by decide +kernel)
theorem wd_996 : (Jvm.Cond.selects "StrataBase" ({ cls := "StrataBase", name := "end", desc := "(I)V" } : Jvm.MethodName) ({ cls := "StrataBase", name := "end", desc := "(I)V" } : Jvm.MethodName)) ∈ tblG := rn_5 (List.mem_of_getElem? (i := 36) (by decide +kernel)) (by decide +kernel)
theorem wd_997 : (Jvm.Cond.code ({ cls := "StrataBase", name := "end", desc := "(I)V" } : Jvm.MethodName) prog_1_method_3_code (2 : Nat) (Option.none : Option Jvm.ClassFile.FieldType)) ∈ tblG := rn_5 (List.mem_of_getElem? (i := 37) (by decide +kernel)) (by decide +kernel)
theorem wd_998 : (Jvm.Cond.classLink "StrataBase" (76 : Nat) "java/lang/IllegalArgumentException") ∈ tblG := rn_5 (List.mem_of_getElem? (i := 38) (by decide +kernel)) (by decide +kernel)
theorem wd_999 : (Jvm.Cond.instantiable "java/lang/IllegalArgumentException" (6 : Nat)) ∈ tblG := rn_5 (List.mem_of_getElem? (i := 39) (by decide +kernel)) (by decide +kernel)
theorem wd_1001 : (Jvm.Cond.selects "java/lang/IllegalArgumentException" ({ cls := "java/lang/Throwable", name := "fillInStackTrace", desc := "(I)Ljava/lang/Throwable;" } : Jvm.MethodName) ({ cls := "java/lang/Throwable", name := "fillInStackTrace", desc := "(I)Ljava/lang/Throwable;" } : Jvm.MethodName)) ∈ tblG := rn_5 (List.mem_of_getElem? (i := 41) (by decide +kernel)) (by decide +kernel)
theorem wd_1002 : (Jvm.Cond.lays "java/lang/IllegalArgumentException" "java/lang/Throwable" "cause" "Ljava/lang/Throwable;") ∈ tblG := rn_5 (List.mem_of_getElem? (i := 42) (by decide +kernel)) (by decide +kernel)
theorem wd_1003 : (Jvm.Cond.lays "java/lang/IllegalArgumentException" "java/lang/Throwable" "stackTrace" "[Ljava/lang/StackTraceElement;") ∈ tblG := rn_5 (List.mem_of_getElem? (i := 43) (by decide +kernel)) (by decide +kernel)
theorem wd_1004 : (Jvm.Cond.lays "java/lang/IllegalArgumentException" "java/lang/Throwable" "suppressedExceptions" "Ljava/util/List;") ∈ tblG := rn_5 (List.mem_of_getElem? (i := 44) (by decide +kernel)) (by decide +kernel)
theorem wd_1005 : (Jvm.Cond.lays "java/lang/IllegalArgumentException" "java/lang/Throwable" "detailMessage" "Ljava/lang/String;") ∈ tblG := rn_5 (List.mem_of_getElem? (i := 45) (by decide +kernel)) (by decide +kernel)
theorem wd_1006 : (Jvm.Cond.lays "java/lang/IllegalArgumentException" "java/lang/Throwable" "backtrace" "Ljava/lang/Object;") ∈ tblG := rn_5 (List.mem_of_getElem? (i := 46) (by decide +kernel)) (by decide +kernel)
theorem wd_1007 : (Jvm.Cond.methodLink "StrataBase" (78 : Nat) ({ cls := "java/lang/IllegalArgumentException", name := "<init>", desc := "()V" } : Jvm.MethodName)) ∈ tblG := rn_5 (List.mem_of_getElem? (i := 47) (by decide +kernel)) (by decide +kernel)
theorem wd_1008 : (Jvm.Cond.instanceMethod ({ cls := "java/lang/IllegalArgumentException", name := "<init>", desc := "()V" } : Jvm.MethodName)) ∈ tblG := rn_5 (List.mem_of_getElem? (i := 48) (by decide +kernel)) (by decide +kernel)
theorem wd_1009 : (Jvm.Cond.code ({ cls := "java/lang/IllegalArgumentException", name := "<init>", desc := "()V" } : Jvm.MethodName) prog_17_method_1_code (1 : Nat) (Option.none : Option Jvm.ClassFile.FieldType)) ∈ tblG := rn_5 (List.mem_of_getElem? (i := 49) (by decide +kernel)) (by decide +kernel)
theorem wd_1010 : (Jvm.Cond.methodLink "java/lang/IllegalArgumentException" (1 : Nat) ({ cls := "java/lang/RuntimeException", name := "<init>", desc := "()V" } : Jvm.MethodName)) ∈ tblG := rn_5 (List.mem_of_getElem? (i := 50) (by decide +kernel)) (by decide +kernel)
theorem wd_1011 : (Jvm.Cond.lays "java/lang/IllegalArgumentException" "java/lang/Throwable" "depth" "I") ∈ tblG := rn_5 (List.mem_of_getElem? (i := 51) (by decide +kernel)) (by decide +kernel)
theorem wd_1013 : (Jvm.Cond.methodLink "StrataBaseLaw" (76 : Nat) ({ cls := "StrataBaseLaw", name := "run", desc := "(LStrataBase;[J)I" } : Jvm.MethodName)) ∈ tblG := rn_5 (List.mem_of_getElem? (i := 53) (by decide +kernel)) (by decide +kernel)
theorem wd_1014 : (Jvm.Cond.static ({ cls := "StrataBaseLaw", name := "run", desc := "(LStrataBase;[J)I" } : Jvm.MethodName)) ∈ tblG := rn_5 (List.mem_of_getElem? (i := 54) (by decide +kernel)) (by decide +kernel)
theorem wd_1015 : (Jvm.Cond.codeWith ({ cls := "StrataBaseLaw", name := "run", desc := "(LStrataBase;[J)I" } : Jvm.MethodName) method_5_code (3 : Nat) (Option.some Jvm.ClassFile.FieldType.int) [((0 : Nat), (8 : Nat), (11 : Nat), (13 : Nat))]) ∈ tblG := rn_5 (List.mem_of_getElem? (i := 55) (by decide +kernel)) (by decide +kernel)
theorem wd_1016 : (Jvm.Cond.methodLink "StrataBaseLaw" (21 : Nat) ({ cls := "StrataBase", name := "run", desc := "()I" } : Jvm.MethodName)) ∈ tblG := rn_5 (List.mem_of_getElem? (i := 56) (by decide +kernel)) (by decide +kernel)
theorem wd_1017 : (Jvm.Cond.instanceMethod ({ cls := "StrataBase", name := "run", desc := "()I" } : Jvm.MethodName)) ∈ tblG := rn_5 (List.mem_of_getElem? (i := 57) (by decide +kernel)) (by decide +kernel)
theorem wd_1018 : (Jvm.Cond.selects "StrataBase" ({ cls := "StrataBase", name := "run", desc := "()I" } : Jvm.MethodName) ({ cls := "StrataBase", name := "run", desc := "()I" } : Jvm.MethodName)) ∈ tblG := rn_5 (List.mem_of_getElem? (i := 58) (by decide +kernel)) (by decide +kernel)
theorem wd_1019 : (Jvm.Cond.code ({ cls := "StrataBase", name := "run", desc := "()I" } : Jvm.MethodName) prog_1_method_6_code (2 : Nat) (Option.some Jvm.ClassFile.FieldType.int)) ∈ tblG := rn_5 (List.mem_of_getElem? (i := 59) (by decide +kernel)) (by decide +kernel)
theorem wd_1020 : (Jvm.Cond.methodLink "StrataBase" (112 : Nat) ({ cls := "StrataBase$Facts", name := "clear", desc := "()V" } : Jvm.MethodName)) ∈ tblG := rn_5 (List.mem_of_getElem? (i := 60) (by decide +kernel)) (by decide +kernel)
theorem wd_1021 : (Jvm.Cond.instanceMethod ({ cls := "StrataBase$Facts", name := "clear", desc := "()V" } : Jvm.MethodName)) ∈ tblG := rn_5 (List.mem_of_getElem? (i := 61) (by decide +kernel)) (by decide +kernel)
theorem wd_1022 : (Jvm.Cond.selects "StrataBase$Facts" ({ cls := "StrataBase$Facts", name := "clear", desc := "()V" } : Jvm.MethodName) ({ cls := "StrataBase$Facts", name := "clear", desc := "()V" } : Jvm.MethodName)) ∈ tblG := rn_5 (List.mem_of_getElem? (i := 62) (by decide +kernel)) (by decide +kernel)
theorem wd_1023 : (Jvm.Cond.code ({ cls := "StrataBase$Facts", name := "clear", desc := "()V" } : Jvm.MethodName) prog_4_method_4_code (1 : Nat) (Option.none : Option Jvm.ClassFile.FieldType)) ∈ tblG := rn_5 (List.mem_of_getElem? (i := 63) (by decide +kernel)) (by decide +kernel)
theorem wd_1024 : (Jvm.Cond.methodLink "StrataBase$Facts" (60 : Nat) ({ cls := "java/util/Arrays", name := "fill", desc := "([II)V" } : Jvm.MethodName)) ∈ tblG := rn_5 (List.mem_of_getElem? (i := 64) (by decide +kernel)) (by decide +kernel)
theorem wd_1025 : (Jvm.Cond.methodLink "StrataBase" (115 : Nat) ({ cls := "StrataBase$Join", name := "forgetIndexes", desc := "()V" } : Jvm.MethodName)) ∈ tblG := rn_5 (List.mem_of_getElem? (i := 65) (by decide +kernel)) (by decide +kernel)
theorem wd_1026 : (Jvm.Cond.instanceMethod ({ cls := "StrataBase$Join", name := "forgetIndexes", desc := "()V" } : Jvm.MethodName)) ∈ tblG := rn_5 (List.mem_of_getElem? (i := 66) (by decide +kernel)) (by decide +kernel)
theorem wd_1027 : (Jvm.Cond.selects "StrataBase$Join" ({ cls := "StrataBase$Join", name := "forgetIndexes", desc := "()V" } : Jvm.MethodName) ({ cls := "StrataBase$Join", name := "forgetIndexes", desc := "()V" } : Jvm.MethodName)) ∈ tblG := rn_5 (List.mem_of_getElem? (i := 67) (by decide +kernel)) (by decide +kernel)
theorem wd_1028 : (Jvm.Cond.code ({ cls := "StrataBase$Join", name := "forgetIndexes", desc := "()V" } : Jvm.MethodName) prog_6_method_2_code (1 : Nat) (Option.none : Option Jvm.ClassFile.FieldType)) ∈ tblG := rn_5 (List.mem_of_getElem? (i := 68) (by decide +kernel)) (by decide +kernel)
theorem wd_1029 : (Jvm.Cond.methodLink "StrataBase$Join" (35 : Nat) ({ cls := "StrataBase$Indexes", name := "clear", desc := "()V" } : Jvm.MethodName)) ∈ tblG := rn_5 (List.mem_of_getElem? (i := 69) (by decide +kernel)) (by decide +kernel)
theorem wd_1030 : (Jvm.Cond.instanceMethod ({ cls := "StrataBase$Indexes", name := "clear", desc := "()V" } : Jvm.MethodName)) ∈ tblG := rn_5 (List.mem_of_getElem? (i := 70) (by decide +kernel)) (by decide +kernel)
theorem wd_1031 : (Jvm.Cond.selects "StrataBase$Indexes" ({ cls := "StrataBase$Indexes", name := "clear", desc := "()V" } : Jvm.MethodName) ({ cls := "StrataBase$Indexes", name := "clear", desc := "()V" } : Jvm.MethodName)) ∈ tblG := rn_5 (List.mem_of_getElem? (i := 71) (by decide +kernel)) (by decide +kernel)
theorem wd_1032 : (Jvm.Cond.code ({ cls := "StrataBase$Indexes", name := "clear", desc := "()V" } : Jvm.MethodName) prog_5_method_2_code (1 : Nat) (Option.none : Option Jvm.ClassFile.FieldType)) ∈ tblG := rn_5 (List.mem_of_getElem? (i := 72) (by decide +kernel)) (by decide +kernel)
theorem wd_1033 : (Jvm.Cond.methodLink "StrataBase" (124 : Nat) ({ cls := "StrataBase$Join", name := "closeStratum", desc := "(LStrataBase$Program;I)V" } : Jvm.MethodName)) ∈ tblG := rn_5 (List.mem_of_getElem? (i := 73) (by decide +kernel)) (by decide +kernel)
theorem wd_1034 : (Jvm.Cond.instanceMethod ({ cls := "StrataBase$Join", name := "closeStratum", desc := "(LStrataBase$Program;I)V" } : Jvm.MethodName)) ∈ tblG := rn_5 (List.mem_of_getElem? (i := 74) (by decide +kernel)) (by decide +kernel)
theorem wd_1035 : (Jvm.Cond.selects "StrataBase$Join" ({ cls := "StrataBase$Join", name := "closeStratum", desc := "(LStrataBase$Program;I)V" } : Jvm.MethodName) ({ cls := "StrataBase$Join", name := "closeStratum", desc := "(LStrataBase$Program;I)V" } : Jvm.MethodName)) ∈ tblG := rn_5 (List.mem_of_getElem? (i := 75) (by decide +kernel)) (by decide +kernel)
theorem wd_1036 : (Jvm.Cond.code ({ cls := "StrataBase$Join", name := "closeStratum", desc := "(LStrataBase$Program;I)V" } : Jvm.MethodName) prog_6_method_4_code (7 : Nat) (Option.none : Option Jvm.ClassFile.FieldType)) ∈ tblG := rn_5 (List.mem_of_getElem? (i := 76) (by decide +kernel)) (by decide +kernel)
theorem wd_1037 : (Jvm.Cond.methodLink "StrataBase$Join" (69 : Nat) ({ cls := "StrataBase$Join", name := "addPlainFacts", desc := "(LStrataBase$Program;I)V" } : Jvm.MethodName)) ∈ tblG := rn_5 (List.mem_of_getElem? (i := 77) (by decide +kernel)) (by decide +kernel)
theorem wd_1039 : (Jvm.Cond.instanceMethod ({ cls := "StrataBase$Join", name := "addPlainFacts", desc := "(LStrataBase$Program;I)V" } : Jvm.MethodName)) ∈ tblG := rn_5 (List.mem_of_getElem? (i := 79) (by decide +kernel)) (by decide +kernel)
theorem wd_1040 : (Jvm.Cond.code ({ cls := "StrataBase$Join", name := "addPlainFacts", desc := "(LStrataBase$Program;I)V" } : Jvm.MethodName) prog_6_method_5_code (5 : Nat) (Option.none : Option Jvm.ClassFile.FieldType)) ∈ tblG := rn_5 (List.mem_of_getElem? (i := 80) (by decide +kernel)) (by decide +kernel)
theorem wd_1041 : (Jvm.Cond.methodLink "StrataBase$Join" (92 : Nat) ({ cls := "StrataBase$Program", name := "headOf", desc := "(I)I" } : Jvm.MethodName)) ∈ tblG := rn_5 (List.mem_of_getElem? (i := 81) (by decide +kernel)) (by decide +kernel)
theorem wd_1042 : (Jvm.Cond.methodLink "StrataBase$Join" (96 : Nat) ({ cls := "StrataBase$Clauses", name := "hasBody", desc := "(I)Z" } : Jvm.MethodName)) ∈ tblG := rn_5 (List.mem_of_getElem? (i := 82) (by decide +kernel)) (by decide +kernel)
theorem wd_1043 : (Jvm.Cond.instanceMethod ({ cls := "StrataBase$Clauses", name := "hasBody", desc := "(I)Z" } : Jvm.MethodName)) ∈ tblG := rn_5 (List.mem_of_getElem? (i := 83) (by decide +kernel)) (by decide +kernel)
theorem wd_1044 : (Jvm.Cond.selects "StrataBase$Clauses" ({ cls := "StrataBase$Clauses", name := "hasBody", desc := "(I)Z" } : Jvm.MethodName) ({ cls := "StrataBase$Clauses", name := "hasBody", desc := "(I)Z" } : Jvm.MethodName)) ∈ tblG := rn_5 (List.mem_of_getElem? (i := 84) (by decide +kernel)) (by decide +kernel)
theorem wd_1045 : (Jvm.Cond.code ({ cls := "StrataBase$Clauses", name := "hasBody", desc := "(I)Z" } : Jvm.MethodName) prog_2_method_9_code (2 : Nat) (Option.some Jvm.ClassFile.FieldType.boolean)) ∈ tblG := rn_5 (List.mem_of_getElem? (i := 85) (by decide +kernel)) (by decide +kernel)
theorem wd_1046 : (Jvm.Cond.methodLink "StrataBase$Join" (103 : Nat) ({ cls := "StrataBase$Clauses", name := "keyOf", desc := "(I[I)J" } : Jvm.MethodName)) ∈ tblG := rn_5 (List.mem_of_getElem? (i := 86) (by decide +kernel)) (by decide +kernel)
theorem wd_1047 : (Jvm.Cond.instanceMethod ({ cls := "StrataBase$Clauses", name := "keyOf", desc := "(I[I)J" } : Jvm.MethodName)) ∈ tblG := rn_5 (List.mem_of_getElem? (i := 87) (by decide +kernel)) (by decide +kernel)
theorem wd_1048 : (Jvm.Cond.selects "StrataBase$Clauses" ({ cls := "StrataBase$Clauses", name := "keyOf", desc := "(I[I)J" } : Jvm.MethodName) ({ cls := "StrataBase$Clauses", name := "keyOf", desc := "(I[I)J" } : Jvm.MethodName)) ∈ tblG := rn_5 (List.mem_of_getElem? (i := 88) (by decide +kernel)) (by decide +kernel)
theorem wd_1049 : (Jvm.Cond.code ({ cls := "StrataBase$Clauses", name := "keyOf", desc := "(I[I)J" } : Jvm.MethodName) prog_2_method_10_code (9 : Nat) (Option.some Jvm.ClassFile.FieldType.long)) ∈ tblG := rn_5 (List.mem_of_getElem? (i := 89) (by decide +kernel)) (by decide +kernel)
theorem wd_1050 : (Jvm.Cond.methodLink "StrataBase$Clauses" (44 : Nat) ({ cls := "StrataBase$Clauses", name := "term", desc := "(II)I" } : Jvm.MethodName)) ∈ tblG := rn_5 (List.mem_of_getElem? (i := 90) (by decide +kernel)) (by decide +kernel)
theorem wd_1051 : (Jvm.Cond.methodLink "StrataBase$Clauses" (48 : Nat) ({ cls := "StrataBase$Facts", name := "shiftOf", desc := "(I)I" } : Jvm.MethodName)) ∈ tblG := rn_5 (List.mem_of_getElem? (i := 91) (by decide +kernel)) (by decide +kernel)
theorem wd_1052 : (Jvm.Cond.static ({ cls := "StrataBase$Facts", name := "shiftOf", desc := "(I)I" } : Jvm.MethodName)) ∈ tblG := rn_5 (List.mem_of_getElem? (i := 92) (by decide +kernel)) (by decide +kernel)
theorem wd_1053 : (Jvm.Cond.code ({ cls := "StrataBase$Facts", name := "shiftOf", desc := "(I)I" } : Jvm.MethodName) prog_4_method_2_code (1 : Nat) (Option.some Jvm.ClassFile.FieldType.int)) ∈ tblG := rn_5 (List.mem_of_getElem? (i := 93) (by decide +kernel)) (by decide +kernel)
theorem wd_1054 : (Jvm.Cond.methodLink "StrataBase$Join" (107 : Nat) ({ cls := "StrataBase$Facts", name := "add", desc := "(IJI)V" } : Jvm.MethodName)) ∈ tblG := rn_5 (List.mem_of_getElem? (i := 94) (by decide +kernel)) (by decide +kernel)
theorem wd_1055 : (Jvm.Cond.instanceMethod ({ cls := "StrataBase$Facts", name := "add", desc := "(IJI)V" } : Jvm.MethodName)) ∈ tblG := rn_5 (List.mem_of_getElem? (i := 95) (by decide +kernel)) (by decide +kernel)
theorem wd_1056 : (Jvm.Cond.selects "StrataBase$Facts" ({ cls := "StrataBase$Facts", name := "add", desc := "(IJI)V" } : Jvm.MethodName) ({ cls := "StrataBase$Facts", name := "add", desc := "(IJI)V" } : Jvm.MethodName)) ∈ tblG := rn_5 (List.mem_of_getElem? (i := 96) (by decide +kernel)) (by decide +kernel)
theorem wd_1057 : (Jvm.Cond.code ({ cls := "StrataBase$Facts", name := "add", desc := "(IJI)V" } : Jvm.MethodName) prog_4_method_7_code (6 : Nat) (Option.none : Option Jvm.ClassFile.FieldType)) ∈ tblG := rn_5 (List.mem_of_getElem? (i := 97) (by decide +kernel)) (by decide +kernel)
theorem wd_1058 : (Jvm.Cond.methodLink "StrataBase$Facts" (66 : Nat) ({ cls := "StrataBase$Facts", name := "slotOf", desc := "(IJ)I" } : Jvm.MethodName)) ∈ tblG := rn_5 (List.mem_of_getElem? (i := 98) (by decide +kernel)) (by decide +kernel)
theorem wd_1060 : (Jvm.Cond.instanceMethod ({ cls := "StrataBase$Facts", name := "slotOf", desc := "(IJ)I" } : Jvm.MethodName)) ∈ tblG := rn_5 (List.mem_of_getElem? (i := 100) (by decide +kernel)) (by decide +kernel)
theorem wd_1061 : (Jvm.Cond.code ({ cls := "StrataBase$Facts", name := "slotOf", desc := "(IJ)I" } : Jvm.MethodName) prog_4_method_14_code (9 : Nat) (Option.some Jvm.ClassFile.FieldType.int)) ∈ tblG := rn_5 (List.mem_of_getElem? (i := 101) (by decide +kernel)) (by decide +kernel)
theorem wd_1062 : (Jvm.Cond.constantLong "StrataBase$Facts" (76 : Nat) (-7046029254386353131 : Int64)) ∈ tblG := rn_5 (List.mem_of_getElem? (i := 102) (by decide +kernel)) (by decide +kernel)
theorem wd_1063 : (Jvm.Cond.constantLong "StrataBase$Facts" (78 : Nat) (89068084525962488 : Int64)) ∈ tblG := rn_5 (List.mem_of_getElem? (i := 103) (by decide +kernel)) (by decide +kernel)
theorem wd_1064 : (Jvm.Cond.methodLink "StrataBase$Facts" (70 : Nat) ({ cls := "java/lang/Math", name := "max", desc := "(II)I" } : Jvm.MethodName)) ∈ tblG := rn_5 (List.mem_of_getElem? (i := 104) (by decide +kernel)) (by decide +kernel)
theorem wd_1065 : (Jvm.Cond.methodLink "StrataBase$Join" (81 : Nat) ({ cls := "StrataBase$Facts", name := "mark", desc := "()V" } : Jvm.MethodName)) ∈ tblG := rn_5 (List.mem_of_getElem? (i := 105) (by decide +kernel)) (by decide +kernel)
theorem wd_1066 : (Jvm.Cond.instanceMethod ({ cls := "StrataBase$Facts", name := "mark", desc := "()V" } : Jvm.MethodName)) ∈ tblG := rn_5 (List.mem_of_getElem? (i := 106) (by decide +kernel)) (by decide +kernel)
theorem wd_1067 : (Jvm.Cond.selects "StrataBase$Facts" ({ cls := "StrataBase$Facts", name := "mark", desc := "()V" } : Jvm.MethodName) ({ cls := "StrataBase$Facts", name := "mark", desc := "()V" } : Jvm.MethodName)) ∈ tblG := rn_5 (List.mem_of_getElem? (i := 107) (by decide +kernel)) (by decide +kernel)
theorem wd_1068 : (Jvm.Cond.code ({ cls := "StrataBase$Facts", name := "mark", desc := "()V" } : Jvm.MethodName) prog_4_method_8_code (2 : Nat) (Option.none : Option Jvm.ClassFile.FieldType)) ∈ tblG := rn_5 (List.mem_of_getElem? (i := 108) (by decide +kernel)) (by decide +kernel)
theorem wd_1069 : (Jvm.Cond.methodLink "StrataBase$Join" (88 : Nat) ({ cls := "StrataBase$Join", name := "startsWork", desc := "(LStrataBase$Program;II)Z" } : Jvm.MethodName)) ∈ tblG := rn_5 (List.mem_of_getElem? (i := 109) (by decide +kernel)) (by decide +kernel)
theorem wd_1071 : (Jvm.Cond.instanceMethod ({ cls := "StrataBase$Join", name := "startsWork", desc := "(LStrataBase$Program;II)Z" } : Jvm.MethodName)) ∈ tblG := rn_5 (List.mem_of_getElem? (i := 111) (by decide +kernel)) (by decide +kernel)
theorem wd_1072 : (Jvm.Cond.code ({ cls := "StrataBase$Join", name := "startsWork", desc := "(LStrataBase$Program;II)Z" } : Jvm.MethodName) prog_6_method_6_code (5 : Nat) (Option.some Jvm.ClassFile.FieldType.boolean)) ∈ tblG := rn_5 (List.mem_of_getElem? (i := 112) (by decide +kernel)) (by decide +kernel)
theorem wd_1073 : (Jvm.Cond.methodLink "StrataBase$Join" (117 : Nat) ({ cls := "StrataBase$Facts", name := "hasFresh", desc := "(I)Z" } : Jvm.MethodName)) ∈ tblG := rn_5 (List.mem_of_getElem? (i := 113) (by decide +kernel)) (by decide +kernel)
theorem wd_1074 : (Jvm.Cond.instanceMethod ({ cls := "StrataBase$Facts", name := "hasFresh", desc := "(I)Z" } : Jvm.MethodName)) ∈ tblG := rn_5 (List.mem_of_getElem? (i := 114) (by decide +kernel)) (by decide +kernel)
theorem wd_1075 : (Jvm.Cond.selects "StrataBase$Facts" ({ cls := "StrataBase$Facts", name := "hasFresh", desc := "(I)Z" } : Jvm.MethodName) ({ cls := "StrataBase$Facts", name := "hasFresh", desc := "(I)Z" } : Jvm.MethodName)) ∈ tblG := rn_5 (List.mem_of_getElem? (i := 115) (by decide +kernel)) (by decide +kernel)
theorem wd_1076 : (Jvm.Cond.code ({ cls := "StrataBase$Facts", name := "hasFresh", desc := "(I)Z" } : Jvm.MethodName) prog_4_method_9_code (2 : Nat) (Option.some Jvm.ClassFile.FieldType.boolean)) ∈ tblG := rn_5 (List.mem_of_getElem? (i := 116) (by decide +kernel)) (by decide +kernel)
theorem wd_1077 : (Jvm.Cond.methodLink "StrataBase$Join" (62 : Nat) ({ cls := "StrataBase$Join", name := "work", desc := "(III)V" } : Jvm.MethodName)) ∈ tblG := rn_5 (List.mem_of_getElem? (i := 117) (by decide +kernel)) (by decide +kernel)
theorem wd_1079 : (Jvm.Cond.instanceMethod ({ cls := "StrataBase$Join", name := "work", desc := "(III)V" } : Jvm.MethodName)) ∈ tblG := rn_5 (List.mem_of_getElem? (i := 119) (by decide +kernel)) (by decide +kernel)
theorem wd_1080 : (Jvm.Cond.code ({ cls := "StrataBase$Join", name := "work", desc := "(III)V" } : Jvm.MethodName) prog_6_method_7_code (4 : Nat) (Option.none : Option Jvm.ClassFile.FieldType)) ∈ tblG := rn_5 (List.mem_of_getElem? (i := 120) (by decide +kernel)) (by decide +kernel)
theorem wd_1081 : (Jvm.Cond.methodLink "StrataBase$Join" (127 : Nat) ({ cls := "StrataBase$Join", name := "lacksFacts", desc := "(II)Z" } : Jvm.MethodName)) ∈ tblG := rn_5 (List.mem_of_getElem? (i := 121) (by decide +kernel)) (by decide +kernel)
theorem wd_1083 : (Jvm.Cond.instanceMethod ({ cls := "StrataBase$Join", name := "lacksFacts", desc := "(II)Z" } : Jvm.MethodName)) ∈ tblG := rn_5 (List.mem_of_getElem? (i := 123) (by decide +kernel)) (by decide +kernel)
theorem wd_1084 : (Jvm.Cond.code ({ cls := "StrataBase$Join", name := "lacksFacts", desc := "(II)Z" } : Jvm.MethodName) prog_6_method_8_code (5 : Nat) (Option.some Jvm.ClassFile.FieldType.boolean)) ∈ tblG := rn_5 (List.mem_of_getElem? (i := 124) (by decide +kernel)) (by decide +kernel)
theorem wd_1085 : (Jvm.Cond.methodLink "StrataBase$Join" (140 : Nat) ({ cls := "StrataBase$Facts", name := "isEmpty", desc := "(I)Z" } : Jvm.MethodName)) ∈ tblG := rn_5 (List.mem_of_getElem? (i := 125) (by decide +kernel)) (by decide +kernel)
theorem wd_1086 : (Jvm.Cond.instanceMethod ({ cls := "StrataBase$Facts", name := "isEmpty", desc := "(I)Z" } : Jvm.MethodName)) ∈ tblG := rn_5 (List.mem_of_getElem? (i := 126) (by decide +kernel)) (by decide +kernel)
theorem wd_1087 : (Jvm.Cond.selects "StrataBase$Facts" ({ cls := "StrataBase$Facts", name := "isEmpty", desc := "(I)Z" } : Jvm.MethodName) ({ cls := "StrataBase$Facts", name := "isEmpty", desc := "(I)Z" } : Jvm.MethodName)) ∈ tblG := rn_5 (List.mem_of_getElem? (i := 127) (by decide +kernel)) (by decide +kernel)
theorem wd_1088 : (Jvm.Cond.code ({ cls := "StrataBase$Facts", name := "isEmpty", desc := "(I)Z" } : Jvm.MethodName) prog_4_method_10_code (2 : Nat) (Option.some Jvm.ClassFile.FieldType.boolean)) ∈ tblG := rn_5 (List.mem_of_getElem? (i := 128) (by decide +kernel)) (by decide +kernel)
theorem wd_1089 : (Jvm.Cond.methodLink "StrataBase$Join" (131 : Nat) ({ cls := "StrataBase$Join", name := "arrange", desc := "(III)V" } : Jvm.MethodName)) ∈ tblG := rn_5 (List.mem_of_getElem? (i := 129) (by decide +kernel)) (by decide +kernel)
theorem wd_1091 : (Jvm.Cond.instanceMethod ({ cls := "StrataBase$Join", name := "arrange", desc := "(III)V" } : Jvm.MethodName)) ∈ tblG := rn_5 (List.mem_of_getElem? (i := 131) (by decide +kernel)) (by decide +kernel)
theorem wd_1092 : (Jvm.Cond.code ({ cls := "StrataBase$Join", name := "arrange", desc := "(III)V" } : Jvm.MethodName) prog_6_method_9_code (10 : Nat) (Option.none : Option Jvm.ClassFile.FieldType)) ∈ tblG := rn_5 (List.mem_of_getElem? (i := 132) (by decide +kernel)) (by decide +kernel)
theorem wd_1093 : (Jvm.Cond.methodLink "StrataBase$Join" (146 : Nat) ({ cls := "StrataBase$Join", name := "nextLiteral", desc := "(III)I" } : Jvm.MethodName)) ∈ tblG := rn_5 (List.mem_of_getElem? (i := 133) (by decide +kernel)) (by decide +kernel)
theorem wd_1095 : (Jvm.Cond.instanceMethod ({ cls := "StrataBase$Join", name := "nextLiteral", desc := "(III)I" } : Jvm.MethodName)) ∈ tblG := rn_5 (List.mem_of_getElem? (i := 135) (by decide +kernel)) (by decide +kernel)
theorem wd_1096 : (Jvm.Cond.code ({ cls := "StrataBase$Join", name := "nextLiteral", desc := "(III)I" } : Jvm.MethodName) prog_6_method_10_code (8 : Nat) (Option.some Jvm.ClassFile.FieldType.int)) ∈ tblG := rn_5 (List.mem_of_getElem? (i := 136) (by decide +kernel)) (by decide +kernel)
theorem wd_1097 : (Jvm.Cond.constant "StrataBase$Join" (162 : Nat) (536870912 : Int32)) ∈ tblG := rn_5 (List.mem_of_getElem? (i := 137) (by decide +kernel)) (by decide +kernel)
theorem wd_1098 : (Jvm.Cond.methodLink "StrataBase$Join" (163 : Nat) ({ cls := "StrataBase$Join", name := "costOf", desc := "(II)I" } : Jvm.MethodName)) ∈ tblG := rn_5 (List.mem_of_getElem? (i := 138) (by decide +kernel)) (by decide +kernel)
theorem wd_1100 : (Jvm.Cond.instanceMethod ({ cls := "StrataBase$Join", name := "costOf", desc := "(II)I" } : Jvm.MethodName)) ∈ tblG := rn_5 (List.mem_of_getElem? (i := 140) (by decide +kernel)) (by decide +kernel)
theorem wd_1101 : (Jvm.Cond.code ({ cls := "StrataBase$Join", name := "costOf", desc := "(II)I" } : Jvm.MethodName) prog_6_method_11_code (7 : Nat) (Option.some Jvm.ClassFile.FieldType.int)) ∈ tblG := rn_5 (List.mem_of_getElem? (i := 141) (by decide +kernel)) (by decide +kernel)
theorem wd_1102 : (Jvm.Cond.methodLink "StrataBase$Join" (170 : Nat) ({ cls := "StrataBase$Clauses", name := "term", desc := "(II)I" } : Jvm.MethodName)) ∈ tblG := rn_5 (List.mem_of_getElem? (i := 142) (by decide +kernel)) (by decide +kernel)
theorem wd_1103 : (Jvm.Cond.constant "StrataBase$Join" (176 : Nat) (268435456 : Int32)) ∈ tblG := rn_5 (List.mem_of_getElem? (i := 143) (by decide +kernel)) (by decide +kernel)
theorem wd_1104 : (Jvm.Cond.methodLink "StrataBase$Join" (134 : Nat) ({ cls := "StrataBase$Join", name := "prepare", desc := "()V" } : Jvm.MethodName)) ∈ tblG := rn_5 (List.mem_of_getElem? (i := 144) (by decide +kernel)) (by decide +kernel)
theorem wd_1106 : (Jvm.Cond.instanceMethod ({ cls := "StrataBase$Join", name := "prepare", desc := "()V" } : Jvm.MethodName)) ∈ tblG := rn_5 (List.mem_of_getElem? (i := 146) (by decide +kernel)) (by decide +kernel)
theorem wd_1107 : (Jvm.Cond.code ({ cls := "StrataBase$Join", name := "prepare", desc := "()V" } : Jvm.MethodName) prog_6_method_12_code (5 : Nat) (Option.none : Option Jvm.ClassFile.FieldType)) ∈ tblG := rn_5 (List.mem_of_getElem? (i := 147) (by decide +kernel)) (by decide +kernel)
theorem wd_1108 : (Jvm.Cond.methodLink "StrataBase$Join" (180 : Nat) ({ cls := "StrataBase$Step", name := "setShape", desc := "(LStrataBase$Clauses;)V" } : Jvm.MethodName)) ∈ tblG := rn_5 (List.mem_of_getElem? (i := 148) (by decide +kernel)) (by decide +kernel)
theorem wd_1109 : (Jvm.Cond.instanceMethod ({ cls := "StrataBase$Step", name := "setShape", desc := "(LStrataBase$Clauses;)V" } : Jvm.MethodName)) ∈ tblG := rn_5 (List.mem_of_getElem? (i := 149) (by decide +kernel)) (by decide +kernel)
theorem wd_1110 : (Jvm.Cond.selects "StrataBase$Step" ({ cls := "StrataBase$Step", name := "setShape", desc := "(LStrataBase$Clauses;)V" } : Jvm.MethodName) ({ cls := "StrataBase$Step", name := "setShape", desc := "(LStrataBase$Clauses;)V" } : Jvm.MethodName)) ∈ tblG := rn_5 (List.mem_of_getElem? (i := 150) (by decide +kernel)) (by decide +kernel)
theorem wd_1111 : (Jvm.Cond.code ({ cls := "StrataBase$Step", name := "setShape", desc := "(LStrataBase$Clauses;)V" } : Jvm.MethodName) prog_11_method_2_code (4 : Nat) (Option.none : Option Jvm.ClassFile.FieldType)) ∈ tblG := rn_5 (List.mem_of_getElem? (i := 151) (by decide +kernel)) (by decide +kernel)
theorem wd_1112 : (Jvm.Cond.methodLink "StrataBase$Step" (33 : Nat) ({ cls := "java/util/Arrays", name := "fill", desc := "([II)V" } : Jvm.MethodName)) ∈ tblG := rn_5 (List.mem_of_getElem? (i := 152) (by decide +kernel)) (by decide +kernel)
theorem wd_1113 : (Jvm.Cond.methodLink "StrataBase$Step" (49 : Nat) ({ cls := "StrataBase$Step", name := "givePositions", desc := "(LStrataBase$Clauses;II)V" } : Jvm.MethodName)) ∈ tblG := rn_5 (List.mem_of_getElem? (i := 153) (by decide +kernel)) (by decide +kernel)
theorem wd_1115 : (Jvm.Cond.instanceMethod ({ cls := "StrataBase$Step", name := "givePositions", desc := "(LStrataBase$Clauses;II)V" } : Jvm.MethodName)) ∈ tblG := rn_5 (List.mem_of_getElem? (i := 155) (by decide +kernel)) (by decide +kernel)
theorem wd_1116 : (Jvm.Cond.code ({ cls := "StrataBase$Step", name := "givePositions", desc := "(LStrataBase$Clauses;II)V" } : Jvm.MethodName) prog_11_method_7_code (6 : Nat) (Option.none : Option Jvm.ClassFile.FieldType)) ∈ tblG := rn_5 (List.mem_of_getElem? (i := 156) (by decide +kernel)) (by decide +kernel)
theorem wd_1117 : (Jvm.Cond.methodLink "StrataBase$Step" (95 : Nat) ({ cls := "StrataBase$Clauses", name := "term", desc := "(II)I" } : Jvm.MethodName)) ∈ tblG := rn_5 (List.mem_of_getElem? (i := 157) (by decide +kernel)) (by decide +kernel)
theorem wd_1118 : (Jvm.Cond.methodLink "StrataBase$Step" (99 : Nat) ({ cls := "StrataBase$Step", name := "firstColumnOf", desc := "(LStrataBase$Clauses;I)I" } : Jvm.MethodName)) ∈ tblG := rn_5 (List.mem_of_getElem? (i := 158) (by decide +kernel)) (by decide +kernel)
theorem wd_1120 : (Jvm.Cond.instanceMethod ({ cls := "StrataBase$Step", name := "firstColumnOf", desc := "(LStrataBase$Clauses;I)I" } : Jvm.MethodName)) ∈ tblG := rn_5 (List.mem_of_getElem? (i := 160) (by decide +kernel)) (by decide +kernel)
theorem wd_1121 : (Jvm.Cond.code ({ cls := "StrataBase$Step", name := "firstColumnOf", desc := "(LStrataBase$Clauses;I)I" } : Jvm.MethodName) prog_11_method_9_code (4 : Nat) (Option.some Jvm.ClassFile.FieldType.int)) ∈ tblG := rn_5 (List.mem_of_getElem? (i := 161) (by decide +kernel)) (by decide +kernel)
theorem wd_1122 : (Jvm.Cond.methodLink "StrataBase$Step" (68 : Nat) ({ cls := "StrataBase$Step", name := "setOtherRole", desc := "(LStrataBase$Clauses;I)V" } : Jvm.MethodName)) ∈ tblG := rn_5 (List.mem_of_getElem? (i := 162) (by decide +kernel)) (by decide +kernel)
theorem wd_1124 : (Jvm.Cond.instanceMethod ({ cls := "StrataBase$Step", name := "setOtherRole", desc := "(LStrataBase$Clauses;I)V" } : Jvm.MethodName)) ∈ tblG := rn_5 (List.mem_of_getElem? (i := 164) (by decide +kernel)) (by decide +kernel)
theorem wd_1125 : (Jvm.Cond.code ({ cls := "StrataBase$Step", name := "setOtherRole", desc := "(LStrataBase$Clauses;I)V" } : Jvm.MethodName) prog_11_method_8_code (5 : Nat) (Option.none : Option Jvm.ClassFile.FieldType)) ∈ tblG := rn_5 (List.mem_of_getElem? (i := 165) (by decide +kernel)) (by decide +kernel)
theorem wd_1126 : (Jvm.Cond.methodLink "StrataBase$Step" (83 : Nat) ({ cls := "StrataBase$Facts", name := "shiftOf", desc := "(I)I" } : Jvm.MethodName)) ∈ tblG := rn_5 (List.mem_of_getElem? (i := 166) (by decide +kernel)) (by decide +kernel)
theorem wd_1127 : (Jvm.Cond.methodLink "StrataBase$Step" (72 : Nat) ({ cls := "StrataBase$Step", name := "setIndex", desc := "(I)V" } : Jvm.MethodName)) ∈ tblG := rn_5 (List.mem_of_getElem? (i := 167) (by decide +kernel)) (by decide +kernel)
theorem wd_1129 : (Jvm.Cond.instanceMethod ({ cls := "StrataBase$Step", name := "setIndex", desc := "(I)V" } : Jvm.MethodName)) ∈ tblG := rn_5 (List.mem_of_getElem? (i := 169) (by decide +kernel)) (by decide +kernel)
theorem wd_1130 : (Jvm.Cond.code ({ cls := "StrataBase$Step", name := "setIndex", desc := "(I)V" } : Jvm.MethodName) prog_11_method_3_code (3 : Nat) (Option.none : Option Jvm.ClassFile.FieldType)) ∈ tblG := rn_5 (List.mem_of_getElem? (i := 170) (by decide +kernel)) (by decide +kernel)
theorem wd_1131 : (Jvm.Cond.methodLink "StrataBase$Join" (187 : Nat) ({ cls := "StrataBase$Indexes", name := "makeRoom", desc := "(I)V" } : Jvm.MethodName)) ∈ tblG := rn_5 (List.mem_of_getElem? (i := 171) (by decide +kernel)) (by decide +kernel)
theorem wd_1132 : (Jvm.Cond.instanceMethod ({ cls := "StrataBase$Indexes", name := "makeRoom", desc := "(I)V" } : Jvm.MethodName)) ∈ tblG := rn_5 (List.mem_of_getElem? (i := 172) (by decide +kernel)) (by decide +kernel)
theorem wd_1133 : (Jvm.Cond.selects "StrataBase$Indexes" ({ cls := "StrataBase$Indexes", name := "makeRoom", desc := "(I)V" } : Jvm.MethodName) ({ cls := "StrataBase$Indexes", name := "makeRoom", desc := "(I)V" } : Jvm.MethodName)) ∈ tblG := rn_5 (List.mem_of_getElem? (i := 173) (by decide +kernel)) (by decide +kernel)
theorem wd_1134 : (Jvm.Cond.code ({ cls := "StrataBase$Indexes", name := "makeRoom", desc := "(I)V" } : Jvm.MethodName) prog_5_method_3_code (2 : Nat) (Option.none : Option Jvm.ClassFile.FieldType)) ∈ tblG := rn_5 (List.mem_of_getElem? (i := 174) (by decide +kernel)) (by decide +kernel)
theorem wd_1135 : (Jvm.Cond.methodLink "StrataBase$Indexes" (43 : Nat) ({ cls := "StrataBase$Indexes", name := "clear", desc := "()V" } : Jvm.MethodName)) ∈ tblG := rn_5 (List.mem_of_getElem? (i := 175) (by decide +kernel)) (by decide +kernel)
theorem wd_1136 : (Jvm.Cond.methodLink "StrataBase$Indexes" (46 : Nat) ({ cls := "java/lang/Math", name := "max", desc := "(II)I" } : Jvm.MethodName)) ∈ tblG := rn_5 (List.mem_of_getElem? (i := 176) (by decide +kernel)) (by decide +kernel)
theorem wd_1137 : (Jvm.Cond.methodLink "StrataBase$Join" (191 : Nat) ({ cls := "StrataBase$Indexes", name := "provide", desc := "(LStrataBase$Step;LStrataBase$Facts;)V" } : Jvm.MethodName)) ∈ tblG := rn_5 (List.mem_of_getElem? (i := 177) (by decide +kernel)) (by decide +kernel)
theorem wd_1138 : (Jvm.Cond.instanceMethod ({ cls := "StrataBase$Indexes", name := "provide", desc := "(LStrataBase$Step;LStrataBase$Facts;)V" } : Jvm.MethodName)) ∈ tblG := rn_5 (List.mem_of_getElem? (i := 178) (by decide +kernel)) (by decide +kernel)
theorem wd_1139 : (Jvm.Cond.selects "StrataBase$Indexes" ({ cls := "StrataBase$Indexes", name := "provide", desc := "(LStrataBase$Step;LStrataBase$Facts;)V" } : Jvm.MethodName) ({ cls := "StrataBase$Indexes", name := "provide", desc := "(LStrataBase$Step;LStrataBase$Facts;)V" } : Jvm.MethodName)) ∈ tblG := rn_5 (List.mem_of_getElem? (i := 179) (by decide +kernel)) (by decide +kernel)
theorem wd_1140 : (Jvm.Cond.code ({ cls := "StrataBase$Indexes", name := "provide", desc := "(LStrataBase$Step;LStrataBase$Facts;)V" } : Jvm.MethodName) prog_5_method_4_code (6 : Nat) (Option.none : Option Jvm.ClassFile.FieldType)) ∈ tblG := rn_5 (List.mem_of_getElem? (i := 180) (by decide +kernel)) (by decide +kernel)
theorem wd_1141 : (Jvm.Cond.methodLink "StrataBase$Indexes" (61 : Nat) ({ cls := "StrataBase$Facts", name := "firstOf", desc := "(IZ)I" } : Jvm.MethodName)) ∈ tblG := rn_5 (List.mem_of_getElem? (i := 181) (by decide +kernel)) (by decide +kernel)
theorem wd_1142 : (Jvm.Cond.instanceMethod ({ cls := "StrataBase$Facts", name := "firstOf", desc := "(IZ)I" } : Jvm.MethodName)) ∈ tblG := rn_5 (List.mem_of_getElem? (i := 182) (by decide +kernel)) (by decide +kernel)
theorem wd_1143 : (Jvm.Cond.selects "StrataBase$Facts" ({ cls := "StrataBase$Facts", name := "firstOf", desc := "(IZ)I" } : Jvm.MethodName) ({ cls := "StrataBase$Facts", name := "firstOf", desc := "(IZ)I" } : Jvm.MethodName)) ∈ tblG := rn_5 (List.mem_of_getElem? (i := 183) (by decide +kernel)) (by decide +kernel)
theorem wd_1144 : (Jvm.Cond.code ({ cls := "StrataBase$Facts", name := "firstOf", desc := "(IZ)I" } : Jvm.MethodName) prog_4_method_11_code (4 : Nat) (Option.some Jvm.ClassFile.FieldType.int)) ∈ tblG := rn_5 (List.mem_of_getElem? (i := 184) (by decide +kernel)) (by decide +kernel)
theorem wd_1145 : (Jvm.Cond.methodLink "StrataBase$Indexes" (67 : Nat) ({ cls := "StrataBase$Facts", name := "lastOf", desc := "(I)I" } : Jvm.MethodName)) ∈ tblG := rn_5 (List.mem_of_getElem? (i := 185) (by decide +kernel)) (by decide +kernel)
theorem wd_1146 : (Jvm.Cond.instanceMethod ({ cls := "StrataBase$Facts", name := "lastOf", desc := "(I)I" } : Jvm.MethodName)) ∈ tblG := rn_5 (List.mem_of_getElem? (i := 186) (by decide +kernel)) (by decide +kernel)
theorem wd_1147 : (Jvm.Cond.selects "StrataBase$Facts" ({ cls := "StrataBase$Facts", name := "lastOf", desc := "(I)I" } : Jvm.MethodName) ({ cls := "StrataBase$Facts", name := "lastOf", desc := "(I)I" } : Jvm.MethodName)) ∈ tblG := rn_5 (List.mem_of_getElem? (i := 187) (by decide +kernel)) (by decide +kernel)
theorem wd_1148 : (Jvm.Cond.code ({ cls := "StrataBase$Facts", name := "lastOf", desc := "(I)I" } : Jvm.MethodName) prog_4_method_12_code (2 : Nat) (Option.some Jvm.ClassFile.FieldType.int)) ∈ tblG := rn_5 (List.mem_of_getElem? (i := 188) (by decide +kernel)) (by decide +kernel)
theorem wd_1149 : (Jvm.Cond.methodLink "StrataBase$Indexes" (77 : Nat) ({ cls := "StrataBase$Indexes", name := "collect", desc := "(LStrataBase$Step;LStrataBase$Facts;II)V" } : Jvm.MethodName)) ∈ tblG := rn_5 (List.mem_of_getElem? (i := 189) (by decide +kernel)) (by decide +kernel)
theorem wd_1151 : (Jvm.Cond.instanceMethod ({ cls := "StrataBase$Indexes", name := "collect", desc := "(LStrataBase$Step;LStrataBase$Facts;II)V" } : Jvm.MethodName)) ∈ tblG := rn_5 (List.mem_of_getElem? (i := 191) (by decide +kernel)) (by decide +kernel)
theorem wd_1152 : (Jvm.Cond.code ({ cls := "StrataBase$Indexes", name := "collect", desc := "(LStrataBase$Step;LStrataBase$Facts;II)V" } : Jvm.MethodName) prog_5_method_7_code (11 : Nat) (Option.none : Option Jvm.ClassFile.FieldType)) ∈ tblG := rn_5 (List.mem_of_getElem? (i := 192) (by decide +kernel)) (by decide +kernel)
theorem wd_1153 : (Jvm.Cond.methodLink "StrataBase$Indexes" (90 : Nat) ({ cls := "StrataBase$Step", name := "project", desc := "(J)J" } : Jvm.MethodName)) ∈ tblG := rn_5 (List.mem_of_getElem? (i := 193) (by decide +kernel)) (by decide +kernel)
theorem wd_1154 : (Jvm.Cond.instanceMethod ({ cls := "StrataBase$Step", name := "project", desc := "(J)J" } : Jvm.MethodName)) ∈ tblG := rn_5 (List.mem_of_getElem? (i := 194) (by decide +kernel)) (by decide +kernel)
theorem wd_1155 : (Jvm.Cond.selects "StrataBase$Step" ({ cls := "StrataBase$Step", name := "project", desc := "(J)J" } : Jvm.MethodName) ({ cls := "StrataBase$Step", name := "project", desc := "(J)J" } : Jvm.MethodName)) ∈ tblG := rn_5 (List.mem_of_getElem? (i := 195) (by decide +kernel)) (by decide +kernel)
theorem wd_1156 : (Jvm.Cond.code ({ cls := "StrataBase$Step", name := "project", desc := "(J)J" } : Jvm.MethodName) prog_11_method_6_code (8 : Nat) (Option.some Jvm.ClassFile.FieldType.long)) ∈ tblG := rn_5 (List.mem_of_getElem? (i := 196) (by decide +kernel)) (by decide +kernel)
theorem wd_1157 : (Jvm.Cond.methodLink "StrataBase$Step" (89 : Nat) ({ cls := "StrataBase$Facts", name := "rankIn", desc := "(JI)I" } : Jvm.MethodName)) ∈ tblG := rn_5 (List.mem_of_getElem? (i := 197) (by decide +kernel)) (by decide +kernel)
theorem wd_1158 : (Jvm.Cond.static ({ cls := "StrataBase$Facts", name := "rankIn", desc := "(JI)I" } : Jvm.MethodName)) ∈ tblG := rn_5 (List.mem_of_getElem? (i := 198) (by decide +kernel)) (by decide +kernel)
theorem wd_1159 : (Jvm.Cond.code ({ cls := "StrataBase$Facts", name := "rankIn", desc := "(JI)I" } : Jvm.MethodName) prog_4_method_3_code (3 : Nat) (Option.some Jvm.ClassFile.FieldType.int)) ∈ tblG := rn_5 (List.mem_of_getElem? (i := 199) (by decide +kernel)) (by decide +kernel)
theorem wd_1160 : (Jvm.Cond.constantLong "StrataBase$Step" (93 : Nat) (-1 : Int64)) ∈ tblG := rn_5 (List.mem_of_getElem? (i := 200) (by decide +kernel)) (by decide +kernel)
theorem wd_1161 : (Jvm.Cond.constantLong "StrataBase$Indexes" (94 : Nat) (-1 : Int64)) ∈ tblG := rn_5 (List.mem_of_getElem? (i := 201) (by decide +kernel)) (by decide +kernel)
theorem wd_1162 : (Jvm.Cond.methodLink "StrataBase$Indexes" (96 : Nat) ({ cls := "StrataBase$Facts", name := "after", desc := "(I)I" } : Jvm.MethodName)) ∈ tblG := rn_5 (List.mem_of_getElem? (i := 202) (by decide +kernel)) (by decide +kernel)
theorem wd_1163 : (Jvm.Cond.instanceMethod ({ cls := "StrataBase$Facts", name := "after", desc := "(I)I" } : Jvm.MethodName)) ∈ tblG := rn_5 (List.mem_of_getElem? (i := 203) (by decide +kernel)) (by decide +kernel)
theorem wd_1164 : (Jvm.Cond.selects "StrataBase$Facts" ({ cls := "StrataBase$Facts", name := "after", desc := "(I)I" } : Jvm.MethodName) ({ cls := "StrataBase$Facts", name := "after", desc := "(I)I" } : Jvm.MethodName)) ∈ tblG := rn_5 (List.mem_of_getElem? (i := 204) (by decide +kernel)) (by decide +kernel)
theorem wd_1165 : (Jvm.Cond.code ({ cls := "StrataBase$Facts", name := "after", desc := "(I)I" } : Jvm.MethodName) prog_4_method_13_code (2 : Nat) (Option.some Jvm.ClassFile.FieldType.int)) ∈ tblG := rn_5 (List.mem_of_getElem? (i := 205) (by decide +kernel)) (by decide +kernel)
theorem wd_1166 : (Jvm.Cond.methodLink "StrataBase$Indexes" (102 : Nat) ({ cls := "StrataBase$Indexes", name := "sort", desc := "(I)V" } : Jvm.MethodName)) ∈ tblG := rn_5 (List.mem_of_getElem? (i := 206) (by decide +kernel)) (by decide +kernel)
theorem wd_1168 : (Jvm.Cond.instanceMethod ({ cls := "StrataBase$Indexes", name := "sort", desc := "(I)V" } : Jvm.MethodName)) ∈ tblG := rn_5 (List.mem_of_getElem? (i := 208) (by decide +kernel)) (by decide +kernel)
theorem wd_1169 : (Jvm.Cond.code ({ cls := "StrataBase$Indexes", name := "sort", desc := "(I)V" } : Jvm.MethodName) prog_5_method_8_code (10 : Nat) (Option.none : Option Jvm.ClassFile.FieldType)) ∈ tblG := rn_5 (List.mem_of_getElem? (i := 209) (by decide +kernel)) (by decide +kernel)
theorem wd_1170 : (Jvm.Cond.fieldLink "StrataBase$Indexes" (109 : Nat) "StrataBase$Indexes" "GAPS" "[I") ∈ tblG := rn_5 (List.mem_of_getElem? (i := 210) (by decide +kernel)) (by decide +kernel)
theorem wd_1172 : (Jvm.Cond.methodLink "StrataBase$Indexes" (106 : Nat) ({ cls := "StrataBase$Indexes", name := "dropEquals", desc := "(I)V" } : Jvm.MethodName)) ∈ tblG := rn_5 (List.mem_of_getElem? (i := 212) (by decide +kernel)) (by decide +kernel)
theorem wd_1174 : (Jvm.Cond.instanceMethod ({ cls := "StrataBase$Indexes", name := "dropEquals", desc := "(I)V" } : Jvm.MethodName)) ∈ tblG := rn_5 (List.mem_of_getElem? (i := 214) (by decide +kernel)) (by decide +kernel)
theorem wd_1175 : (Jvm.Cond.code ({ cls := "StrataBase$Indexes", name := "dropEquals", desc := "(I)V" } : Jvm.MethodName) prog_5_method_9_code (4 : Nat) (Option.none : Option Jvm.ClassFile.FieldType)) ∈ tblG := rn_5 (List.mem_of_getElem? (i := 215) (by decide +kernel)) (by decide +kernel)
theorem wd_1176 : (Jvm.Cond.methodLink "StrataBase$Join" (137 : Nat) ({ cls := "StrataBase$Join", name := "solve", desc := "(I)I" } : Jvm.MethodName)) ∈ tblG := rn_5 (List.mem_of_getElem? (i := 216) (by decide +kernel)) (by decide +kernel)
theorem wd_1178 : (Jvm.Cond.instanceMethod ({ cls := "StrataBase$Join", name := "solve", desc := "(I)I" } : Jvm.MethodName)) ∈ tblG := rn_5 (List.mem_of_getElem? (i := 218) (by decide +kernel)) (by decide +kernel)
theorem wd_1179 : (Jvm.Cond.code ({ cls := "StrataBase$Join", name := "solve", desc := "(I)I" } : Jvm.MethodName) prog_6_method_13_code (3 : Nat) (Option.some Jvm.ClassFile.FieldType.int)) ∈ tblG := rn_5 (List.mem_of_getElem? (i := 219) (by decide +kernel)) (by decide +kernel)
theorem wd_1180 : (Jvm.Cond.methodLink "StrataBase$Join" (195 : Nat) ({ cls := "StrataBase$Join", name := "holds", desc := "(I)Z" } : Jvm.MethodName)) ∈ tblG := rn_5 (List.mem_of_getElem? (i := 220) (by decide +kernel)) (by decide +kernel)
theorem wd_1182 : (Jvm.Cond.instanceMethod ({ cls := "StrataBase$Join", name := "holds", desc := "(I)Z" } : Jvm.MethodName)) ∈ tblG := rn_5 (List.mem_of_getElem? (i := 222) (by decide +kernel)) (by decide +kernel)
theorem wd_1183 : (Jvm.Cond.code ({ cls := "StrataBase$Join", name := "holds", desc := "(I)Z" } : Jvm.MethodName) prog_6_method_15_code (5 : Nat) (Option.some Jvm.ClassFile.FieldType.boolean)) ∈ tblG := rn_5 (List.mem_of_getElem? (i := 223) (by decide +kernel)) (by decide +kernel)
theorem wd_1184 : (Jvm.Cond.methodLink "StrataBase$Join" (235 : Nat) ({ cls := "StrataBase$Clauses", name := "compares", desc := "(I[I)Z" } : Jvm.MethodName)) ∈ tblG := rn_5 (List.mem_of_getElem? (i := 224) (by decide +kernel)) (by decide +kernel)
theorem wd_1185 : (Jvm.Cond.instanceMethod ({ cls := "StrataBase$Clauses", name := "compares", desc := "(I[I)Z" } : Jvm.MethodName)) ∈ tblG := rn_5 (List.mem_of_getElem? (i := 225) (by decide +kernel)) (by decide +kernel)
theorem wd_1186 : (Jvm.Cond.selects "StrataBase$Clauses" ({ cls := "StrataBase$Clauses", name := "compares", desc := "(I[I)Z" } : Jvm.MethodName) ({ cls := "StrataBase$Clauses", name := "compares", desc := "(I[I)Z" } : Jvm.MethodName)) ∈ tblG := rn_5 (List.mem_of_getElem? (i := 226) (by decide +kernel)) (by decide +kernel)
theorem wd_1187 : (Jvm.Cond.code ({ cls := "StrataBase$Clauses", name := "compares", desc := "(I[I)Z" } : Jvm.MethodName) prog_2_method_13_code (5 : Nat) (Option.some Jvm.ClassFile.FieldType.boolean)) ∈ tblG := rn_5 (List.mem_of_getElem? (i := 227) (by decide +kernel)) (by decide +kernel)
theorem wd_1188 : (Jvm.Cond.methodLink "StrataBase$Clauses" (54 : Nat) ({ cls := "StrataBase$Clauses", name := "orderCode", desc := "(II[I)I" } : Jvm.MethodName)) ∈ tblG := rn_5 (List.mem_of_getElem? (i := 228) (by decide +kernel)) (by decide +kernel)
theorem wd_1190 : (Jvm.Cond.instanceMethod ({ cls := "StrataBase$Clauses", name := "orderCode", desc := "(II[I)I" } : Jvm.MethodName)) ∈ tblG := rn_5 (List.mem_of_getElem? (i := 230) (by decide +kernel)) (by decide +kernel)
theorem wd_1191 : (Jvm.Cond.code ({ cls := "StrataBase$Clauses", name := "orderCode", desc := "(II[I)I" } : Jvm.MethodName) prog_2_method_11_code (5 : Nat) (Option.some Jvm.ClassFile.FieldType.int)) ∈ tblG := rn_5 (List.mem_of_getElem? (i := 231) (by decide +kernel)) (by decide +kernel)
theorem wd_1192 : (Jvm.Cond.methodLink "StrataBase$Join" (239 : Nat) ({ cls := "StrataBase$Facts", name := "isVisible", desc := "(IJ)Z" } : Jvm.MethodName)) ∈ tblG := rn_5 (List.mem_of_getElem? (i := 232) (by decide +kernel)) (by decide +kernel)
theorem wd_1193 : (Jvm.Cond.instanceMethod ({ cls := "StrataBase$Facts", name := "isVisible", desc := "(IJ)Z" } : Jvm.MethodName)) ∈ tblG := rn_5 (List.mem_of_getElem? (i := 233) (by decide +kernel)) (by decide +kernel)
theorem wd_1194 : (Jvm.Cond.selects "StrataBase$Facts" ({ cls := "StrataBase$Facts", name := "isVisible", desc := "(IJ)Z" } : Jvm.MethodName) ({ cls := "StrataBase$Facts", name := "isVisible", desc := "(IJ)Z" } : Jvm.MethodName)) ∈ tblG := rn_5 (List.mem_of_getElem? (i := 234) (by decide +kernel)) (by decide +kernel)
theorem wd_1195 : (Jvm.Cond.code ({ cls := "StrataBase$Facts", name := "isVisible", desc := "(IJ)Z" } : Jvm.MethodName) prog_4_method_6_code (5 : Nat) (Option.some Jvm.ClassFile.FieldType.boolean)) ∈ tblG := rn_5 (List.mem_of_getElem? (i := 235) (by decide +kernel)) (by decide +kernel)
theorem wd_1196 : (Jvm.Cond.methodLink "StrataBase$Join" (198 : Nat) ({ cls := "StrataBase$Join", name := "scan", desc := "(I)I" } : Jvm.MethodName)) ∈ tblG := rn_5 (List.mem_of_getElem? (i := 236) (by decide +kernel)) (by decide +kernel)
theorem wd_1198 : (Jvm.Cond.instanceMethod ({ cls := "StrataBase$Join", name := "scan", desc := "(I)I" } : Jvm.MethodName)) ∈ tblG := rn_5 (List.mem_of_getElem? (i := 238) (by decide +kernel)) (by decide +kernel)
theorem wd_1199 : (Jvm.Cond.code ({ cls := "StrataBase$Join", name := "scan", desc := "(I)I" } : Jvm.MethodName) prog_6_method_14_code (9 : Nat) (Option.some Jvm.ClassFile.FieldType.int)) ∈ tblG := rn_5 (List.mem_of_getElem? (i := 239) (by decide +kernel)) (by decide +kernel)
theorem wd_1200 : (Jvm.Cond.methodLink "StrataBase$Join" (204 : Nat) ({ cls := "StrataBase$Step", name := "soughtKey", desc := "([I)J" } : Jvm.MethodName)) ∈ tblG := rn_6 (List.mem_of_getElem? (i := 0) (by decide +kernel)) (by decide +kernel)
theorem wd_1201 : (Jvm.Cond.instanceMethod ({ cls := "StrataBase$Step", name := "soughtKey", desc := "([I)J" } : Jvm.MethodName)) ∈ tblG := rn_6 (List.mem_of_getElem? (i := 1) (by decide +kernel)) (by decide +kernel)
theorem wd_1202 : (Jvm.Cond.selects "StrataBase$Step" ({ cls := "StrataBase$Step", name := "soughtKey", desc := "([I)J" } : Jvm.MethodName) ({ cls := "StrataBase$Step", name := "soughtKey", desc := "([I)J" } : Jvm.MethodName)) ∈ tblG := rn_6 (List.mem_of_getElem? (i := 2) (by decide +kernel)) (by decide +kernel)
theorem wd_1203 : (Jvm.Cond.code ({ cls := "StrataBase$Step", name := "soughtKey", desc := "([I)J" } : Jvm.MethodName) prog_11_method_4_code (5 : Nat) (Option.some Jvm.ClassFile.FieldType.long)) ∈ tblG := rn_6 (List.mem_of_getElem? (i := 3) (by decide +kernel)) (by decide +kernel)
theorem wd_1204 : (Jvm.Cond.methodLink "StrataBase$Join" (220 : Nat) ({ cls := "StrataBase$Indexes", name := "seek", desc := "(IIJ)I" } : Jvm.MethodName)) ∈ tblG := rn_6 (List.mem_of_getElem? (i := 4) (by decide +kernel)) (by decide +kernel)
theorem wd_1205 : (Jvm.Cond.instanceMethod ({ cls := "StrataBase$Indexes", name := "seek", desc := "(IIJ)I" } : Jvm.MethodName)) ∈ tblG := rn_6 (List.mem_of_getElem? (i := 5) (by decide +kernel)) (by decide +kernel)
theorem wd_1206 : (Jvm.Cond.selects "StrataBase$Indexes" ({ cls := "StrataBase$Indexes", name := "seek", desc := "(IIJ)I" } : Jvm.MethodName) ({ cls := "StrataBase$Indexes", name := "seek", desc := "(IIJ)I" } : Jvm.MethodName)) ∈ tblG := rn_6 (List.mem_of_getElem? (i := 6) (by decide +kernel)) (by decide +kernel)
theorem wd_1207 : (Jvm.Cond.code ({ cls := "StrataBase$Indexes", name := "seek", desc := "(IIJ)I" } : Jvm.MethodName) prog_5_method_6_code (8 : Nat) (Option.some Jvm.ClassFile.FieldType.int)) ∈ tblG := rn_6 (List.mem_of_getElem? (i := 7) (by decide +kernel)) (by decide +kernel)
theorem wd_1208 : (Jvm.Cond.methodLink "StrataBase$Join" (224 : Nat) ({ cls := "StrataBase$Indexes", name := "at", desc := "(I)J" } : Jvm.MethodName)) ∈ tblG := rn_6 (List.mem_of_getElem? (i := 8) (by decide +kernel)) (by decide +kernel)
theorem wd_1209 : (Jvm.Cond.instanceMethod ({ cls := "StrataBase$Indexes", name := "at", desc := "(I)J" } : Jvm.MethodName)) ∈ tblG := rn_6 (List.mem_of_getElem? (i := 9) (by decide +kernel)) (by decide +kernel)
theorem wd_1210 : (Jvm.Cond.selects "StrataBase$Indexes" ({ cls := "StrataBase$Indexes", name := "at", desc := "(I)J" } : Jvm.MethodName) ({ cls := "StrataBase$Indexes", name := "at", desc := "(I)J" } : Jvm.MethodName)) ∈ tblG := rn_6 (List.mem_of_getElem? (i := 10) (by decide +kernel)) (by decide +kernel)
theorem wd_1211 : (Jvm.Cond.code ({ cls := "StrataBase$Indexes", name := "at", desc := "(I)J" } : Jvm.MethodName) prog_5_method_5_code (2 : Nat) (Option.some Jvm.ClassFile.FieldType.long)) ∈ tblG := rn_6 (List.mem_of_getElem? (i := 11) (by decide +kernel)) (by decide +kernel)
theorem wd_1212 : (Jvm.Cond.methodLink "StrataBase$Join" (228 : Nat) ({ cls := "StrataBase$Step", name := "give", desc := "(J[I)V" } : Jvm.MethodName)) ∈ tblG := rn_6 (List.mem_of_getElem? (i := 12) (by decide +kernel)) (by decide +kernel)
theorem wd_1213 : (Jvm.Cond.instanceMethod ({ cls := "StrataBase$Step", name := "give", desc := "(J[I)V" } : Jvm.MethodName)) ∈ tblG := rn_6 (List.mem_of_getElem? (i := 13) (by decide +kernel)) (by decide +kernel)
theorem wd_1214 : (Jvm.Cond.selects "StrataBase$Step" ({ cls := "StrataBase$Step", name := "give", desc := "(J[I)V" } : Jvm.MethodName) ({ cls := "StrataBase$Step", name := "give", desc := "(J[I)V" } : Jvm.MethodName)) ∈ tblG := rn_6 (List.mem_of_getElem? (i := 14) (by decide +kernel)) (by decide +kernel)
theorem wd_1215 : (Jvm.Cond.code ({ cls := "StrataBase$Step", name := "give", desc := "(J[I)V" } : Jvm.MethodName) prog_11_method_5_code (5 : Nat) (Option.none : Option Jvm.ClassFile.FieldType)) ∈ tblG := rn_6 (List.mem_of_getElem? (i := 15) (by decide +kernel)) (by decide +kernel)
theorem wd_1216 : (Jvm.Cond.methodLink "StrataBase$Join" (201 : Nat) ({ cls := "StrataBase$Join", name := "emit", desc := "()V" } : Jvm.MethodName)) ∈ tblG := rn_6 (List.mem_of_getElem? (i := 16) (by decide +kernel)) (by decide +kernel)
theorem wd_1218 : (Jvm.Cond.instanceMethod ({ cls := "StrataBase$Join", name := "emit", desc := "()V" } : Jvm.MethodName)) ∈ tblG := rn_6 (List.mem_of_getElem? (i := 18) (by decide +kernel)) (by decide +kernel)
theorem wd_1219 : (Jvm.Cond.code ({ cls := "StrataBase$Join", name := "emit", desc := "()V" } : Jvm.MethodName) prog_6_method_16_code (1 : Nat) (Option.none : Option Jvm.ClassFile.FieldType)) ∈ tblG := rn_6 (List.mem_of_getElem? (i := 19) (by decide +kernel)) (by decide +kernel)
theorem wd_1220 : (Jvm.Cond.methodLink "StrataBase$Join" (243 : Nat) ({ cls := "StrataBase$Rows", name := "add", desc := "([I)V" } : Jvm.MethodName)) ∈ tblG := rn_6 (List.mem_of_getElem? (i := 20) (by decide +kernel)) (by decide +kernel)
theorem wd_1221 : (Jvm.Cond.instanceMethod ({ cls := "StrataBase$Rows", name := "add", desc := "([I)V" } : Jvm.MethodName)) ∈ tblG := rn_6 (List.mem_of_getElem? (i := 21) (by decide +kernel)) (by decide +kernel)
theorem wd_1222 : (Jvm.Cond.selects "StrataBase$Rows" ({ cls := "StrataBase$Rows", name := "add", desc := "([I)V" } : Jvm.MethodName) ({ cls := "StrataBase$Rows", name := "add", desc := "([I)V" } : Jvm.MethodName)) ∈ tblG := rn_6 (List.mem_of_getElem? (i := 22) (by decide +kernel)) (by decide +kernel)
theorem wd_1223 : (Jvm.Cond.code ({ cls := "StrataBase$Rows", name := "add", desc := "([I)V" } : Jvm.MethodName) prog_10_method_6_code (2 : Nat) (Option.none : Option Jvm.ClassFile.FieldType)) ∈ tblG := rn_6 (List.mem_of_getElem? (i := 23) (by decide +kernel)) (by decide +kernel)
theorem wd_1224 : (Jvm.Cond.methodLink "StrataBase$Rows" (39 : Nat) ({ cls := "StrataBase$Rows", name := "keyOf", desc := "([II)J" } : Jvm.MethodName)) ∈ tblG := rn_6 (List.mem_of_getElem? (i := 24) (by decide +kernel)) (by decide +kernel)
theorem wd_1226 : (Jvm.Cond.instanceMethod ({ cls := "StrataBase$Rows", name := "keyOf", desc := "([II)J" } : Jvm.MethodName)) ∈ tblG := rn_6 (List.mem_of_getElem? (i := 26) (by decide +kernel)) (by decide +kernel)
theorem wd_1227 : (Jvm.Cond.code ({ cls := "StrataBase$Rows", name := "keyOf", desc := "([II)J" } : Jvm.MethodName) prog_10_method_10_code (6 : Nat) (Option.some Jvm.ClassFile.FieldType.long)) ∈ tblG := rn_6 (List.mem_of_getElem? (i := 27) (by decide +kernel)) (by decide +kernel)
theorem wd_1228 : (Jvm.Cond.methodLink "StrataBaseLaw" (80 : Nat) ({ cls := "StrataBaseLaw", name := "ask", desc := "(LStrataBase;[J)I" } : Jvm.MethodName)) ∈ tblG := rn_6 (List.mem_of_getElem? (i := 28) (by decide +kernel)) (by decide +kernel)
theorem wd_1229 : (Jvm.Cond.static ({ cls := "StrataBaseLaw", name := "ask", desc := "(LStrataBase;[J)I" } : Jvm.MethodName)) ∈ tblG := rn_6 (List.mem_of_getElem? (i := 29) (by decide +kernel)) (by decide +kernel)
theorem wd_1230 : (Jvm.Cond.codeWith ({ cls := "StrataBaseLaw", name := "ask", desc := "(LStrataBase;[J)I" } : Jvm.MethodName) method_6_code (3 : Nat) (Option.some Jvm.ClassFile.FieldType.int) [((0 : Nat), (8 : Nat), (11 : Nat), (28 : Nat)), ((0 : Nat), (8 : Nat), (14 : Nat), (13 : Nat))]) ∈ tblG := rn_6 (List.mem_of_getElem? (i := 30) (by decide +kernel)) (by decide +kernel)
theorem wd_1231 : (Jvm.Cond.classLink "StrataBaseLaw" (28 : Nat) "java/lang/IllegalStateException") ∈ tblG := rn_6 (List.mem_of_getElem? (i := 31) (by decide +kernel)) (by decide +kernel)
theorem wd_1232 : (Jvm.Cond.methodLink "StrataBaseLaw" (25 : Nat) ({ cls := "StrataBase", name := "ask", desc := "()I" } : Jvm.MethodName)) ∈ tblG := rn_6 (List.mem_of_getElem? (i := 32) (by decide +kernel)) (by decide +kernel)
theorem wd_1233 : (Jvm.Cond.instanceMethod ({ cls := "StrataBase", name := "ask", desc := "()I" } : Jvm.MethodName)) ∈ tblG := rn_6 (List.mem_of_getElem? (i := 33) (by decide +kernel)) (by decide +kernel)
theorem wd_1234 : (Jvm.Cond.selects "StrataBase" ({ cls := "StrataBase", name := "ask", desc := "()I" } : Jvm.MethodName) ({ cls := "StrataBase", name := "ask", desc := "()I" } : Jvm.MethodName)) ∈ tblG := rn_6 (List.mem_of_getElem? (i := 34) (by decide +kernel)) (by decide +kernel)
theorem wd_1235 : (Jvm.Cond.code ({ cls := "StrataBase", name := "ask", desc := "()I" } : Jvm.MethodName) prog_1_method_7_code (2 : Nat) (Option.some Jvm.ClassFile.FieldType.int)) ∈ tblG := rn_6 (List.mem_of_getElem? (i := 35) (by decide +kernel)) (by decide +kernel)
theorem wd_1236 : (Jvm.Cond.classLink "StrataBase" (131 : Nat) "java/lang/IllegalStateException") ∈ tblG := rn_6 (List.mem_of_getElem? (i := 36) (by decide +kernel)) (by decide +kernel)
theorem wd_1237 : (Jvm.Cond.instantiable "java/lang/IllegalStateException" (6 : Nat)) ∈ tblG := rn_6 (List.mem_of_getElem? (i := 37) (by decide +kernel)) (by decide +kernel)
theorem wd_1239 : (Jvm.Cond.selects "java/lang/IllegalStateException" ({ cls := "java/lang/Throwable", name := "fillInStackTrace", desc := "(I)Ljava/lang/Throwable;" } : Jvm.MethodName) ({ cls := "java/lang/Throwable", name := "fillInStackTrace", desc := "(I)Ljava/lang/Throwable;" } : Jvm.MethodName)) ∈ tblG := rn_6 (List.mem_of_getElem? (i := 39) (by decide +kernel)) (by decide +kernel)
theorem wd_1240 : (Jvm.Cond.lays "java/lang/IllegalStateException" "java/lang/Throwable" "cause" "Ljava/lang/Throwable;") ∈ tblG := rn_6 (List.mem_of_getElem? (i := 40) (by decide +kernel)) (by decide +kernel)
theorem wd_1241 : (Jvm.Cond.lays "java/lang/IllegalStateException" "java/lang/Throwable" "stackTrace" "[Ljava/lang/StackTraceElement;") ∈ tblG := rn_6 (List.mem_of_getElem? (i := 41) (by decide +kernel)) (by decide +kernel)
theorem wd_1242 : (Jvm.Cond.lays "java/lang/IllegalStateException" "java/lang/Throwable" "suppressedExceptions" "Ljava/util/List;") ∈ tblG := rn_6 (List.mem_of_getElem? (i := 42) (by decide +kernel)) (by decide +kernel)
theorem wd_1243 : (Jvm.Cond.lays "java/lang/IllegalStateException" "java/lang/Throwable" "detailMessage" "Ljava/lang/String;") ∈ tblG := rn_6 (List.mem_of_getElem? (i := 43) (by decide +kernel)) (by decide +kernel)
theorem wd_1244 : (Jvm.Cond.lays "java/lang/IllegalStateException" "java/lang/Throwable" "backtrace" "Ljava/lang/Object;") ∈ tblG := rn_6 (List.mem_of_getElem? (i := 44) (by decide +kernel)) (by decide +kernel)
theorem wd_1245 : (Jvm.Cond.methodLink "StrataBase" (133 : Nat) ({ cls := "java/lang/IllegalStateException", name := "<init>", desc := "()V" } : Jvm.MethodName)) ∈ tblG := rn_6 (List.mem_of_getElem? (i := 45) (by decide +kernel)) (by decide +kernel)
theorem wd_1246 : (Jvm.Cond.instanceMethod ({ cls := "java/lang/IllegalStateException", name := "<init>", desc := "()V" } : Jvm.MethodName)) ∈ tblG := rn_6 (List.mem_of_getElem? (i := 46) (by decide +kernel)) (by decide +kernel)
theorem wd_1247 : (Jvm.Cond.code ({ cls := "java/lang/IllegalStateException", name := "<init>", desc := "()V" } : Jvm.MethodName) prog_18_method_1_code (1 : Nat) (Option.none : Option Jvm.ClassFile.FieldType)) ∈ tblG := rn_6 (List.mem_of_getElem? (i := 47) (by decide +kernel)) (by decide +kernel)
theorem wd_1248 : (Jvm.Cond.methodLink "java/lang/IllegalStateException" (1 : Nat) ({ cls := "java/lang/RuntimeException", name := "<init>", desc := "()V" } : Jvm.MethodName)) ∈ tblG := rn_6 (List.mem_of_getElem? (i := 48) (by decide +kernel)) (by decide +kernel)
theorem wd_1249 : (Jvm.Cond.lays "java/lang/IllegalStateException" "java/lang/Throwable" "depth" "I") ∈ tblG := rn_6 (List.mem_of_getElem? (i := 49) (by decide +kernel)) (by decide +kernel)
theorem wd_1251 : (Jvm.Cond.methodLink "StrataBase" (147 : Nat) ({ cls := "StrataBase$Join", name := "answer", desc := "(LStrataBase$Clauses;LStrataBase$Rows;)V" } : Jvm.MethodName)) ∈ tblG := rn_6 (List.mem_of_getElem? (i := 51) (by decide +kernel)) (by decide +kernel)
theorem wd_1252 : (Jvm.Cond.instanceMethod ({ cls := "StrataBase$Join", name := "answer", desc := "(LStrataBase$Clauses;LStrataBase$Rows;)V" } : Jvm.MethodName)) ∈ tblG := rn_6 (List.mem_of_getElem? (i := 52) (by decide +kernel)) (by decide +kernel)
theorem wd_1253 : (Jvm.Cond.selects "StrataBase$Join" ({ cls := "StrataBase$Join", name := "answer", desc := "(LStrataBase$Clauses;LStrataBase$Rows;)V" } : Jvm.MethodName) ({ cls := "StrataBase$Join", name := "answer", desc := "(LStrataBase$Clauses;LStrataBase$Rows;)V" } : Jvm.MethodName)) ∈ tblG := rn_6 (List.mem_of_getElem? (i := 53) (by decide +kernel)) (by decide +kernel)
theorem wd_1254 : (Jvm.Cond.code ({ cls := "StrataBase$Join", name := "answer", desc := "(LStrataBase$Clauses;LStrataBase$Rows;)V" } : Jvm.MethodName) prog_6_method_3_code (3 : Nat) (Option.none : Option Jvm.ClassFile.FieldType)) ∈ tblG := rn_6 (List.mem_of_getElem? (i := 54) (by decide +kernel)) (by decide +kernel)
theorem wd_1255 : (Jvm.Cond.methodLink "StrataBase$Join" (50 : Nat) ({ cls := "StrataBase$Rows", name := "usedVariables", desc := "()I" } : Jvm.MethodName)) ∈ tblG := rn_6 (List.mem_of_getElem? (i := 55) (by decide +kernel)) (by decide +kernel)
theorem wd_1256 : (Jvm.Cond.instanceMethod ({ cls := "StrataBase$Rows", name := "usedVariables", desc := "()I" } : Jvm.MethodName)) ∈ tblG := rn_6 (List.mem_of_getElem? (i := 56) (by decide +kernel)) (by decide +kernel)
theorem wd_1257 : (Jvm.Cond.selects "StrataBase$Rows" ({ cls := "StrataBase$Rows", name := "usedVariables", desc := "()I" } : Jvm.MethodName) ({ cls := "StrataBase$Rows", name := "usedVariables", desc := "()I" } : Jvm.MethodName)) ∈ tblG := rn_6 (List.mem_of_getElem? (i := 57) (by decide +kernel)) (by decide +kernel)
theorem wd_1258 : (Jvm.Cond.code ({ cls := "StrataBase$Rows", name := "usedVariables", desc := "()I" } : Jvm.MethodName) prog_10_method_5_code (3 : Nat) (Option.some Jvm.ClassFile.FieldType.int)) ∈ tblG := rn_6 (List.mem_of_getElem? (i := 58) (by decide +kernel)) (by decide +kernel)
theorem wd_1259 : (Jvm.Cond.methodLink "StrataBase" (152 : Nat) ({ cls := "StrataBase$Rows", name := "sort", desc := "()V" } : Jvm.MethodName)) ∈ tblG := rn_6 (List.mem_of_getElem? (i := 59) (by decide +kernel)) (by decide +kernel)
theorem wd_1260 : (Jvm.Cond.instanceMethod ({ cls := "StrataBase$Rows", name := "sort", desc := "()V" } : Jvm.MethodName)) ∈ tblG := rn_6 (List.mem_of_getElem? (i := 60) (by decide +kernel)) (by decide +kernel)
theorem wd_1261 : (Jvm.Cond.selects "StrataBase$Rows" ({ cls := "StrataBase$Rows", name := "sort", desc := "()V" } : Jvm.MethodName) ({ cls := "StrataBase$Rows", name := "sort", desc := "()V" } : Jvm.MethodName)) ∈ tblG := rn_6 (List.mem_of_getElem? (i := 61) (by decide +kernel)) (by decide +kernel)
theorem wd_1262 : (Jvm.Cond.code ({ cls := "StrataBase$Rows", name := "sort", desc := "()V" } : Jvm.MethodName) prog_10_method_7_code (6 : Nat) (Option.none : Option Jvm.ClassFile.FieldType)) ∈ tblG := rn_6 (List.mem_of_getElem? (i := 62) (by decide +kernel)) (by decide +kernel)
theorem wd_1263 : (Jvm.Cond.fieldLink "StrataBase$Rows" (43 : Nat) "StrataBase$Rows" "GAPS" "[I") ∈ tblG := rn_6 (List.mem_of_getElem? (i := 63) (by decide +kernel)) (by decide +kernel)
theorem wd_1265 : (Jvm.Cond.methodLink "StrataBase$Rows" (46 : Nat) ({ cls := "StrataBase$Rows", name := "sink", desc := "(II)V" } : Jvm.MethodName)) ∈ tblG := rn_6 (List.mem_of_getElem? (i := 65) (by decide +kernel)) (by decide +kernel)
theorem wd_1267 : (Jvm.Cond.instanceMethod ({ cls := "StrataBase$Rows", name := "sink", desc := "(II)V" } : Jvm.MethodName)) ∈ tblG := rn_6 (List.mem_of_getElem? (i := 67) (by decide +kernel)) (by decide +kernel)
theorem wd_1268 : (Jvm.Cond.code ({ cls := "StrataBase$Rows", name := "sink", desc := "(II)V" } : Jvm.MethodName) prog_10_method_8_code (8 : Nat) (Option.none : Option Jvm.ClassFile.FieldType)) ∈ tblG := rn_6 (List.mem_of_getElem? (i := 68) (by decide +kernel)) (by decide +kernel)
theorem wd_1269 : (Jvm.Cond.methodLink "StrataBase$Rows" (50 : Nat) ({ cls := "StrataBase$Rows", name := "isAbove", desc := "(IJJ)Z" } : Jvm.MethodName)) ∈ tblG := rn_6 (List.mem_of_getElem? (i := 69) (by decide +kernel)) (by decide +kernel)
theorem wd_1271 : (Jvm.Cond.instanceMethod ({ cls := "StrataBase$Rows", name := "isAbove", desc := "(IJJ)Z" } : Jvm.MethodName)) ∈ tblG := rn_6 (List.mem_of_getElem? (i := 71) (by decide +kernel)) (by decide +kernel)
theorem wd_1272 : (Jvm.Cond.code ({ cls := "StrataBase$Rows", name := "isAbove", desc := "(IJJ)Z" } : Jvm.MethodName) prog_10_method_9_code (6 : Nat) (Option.some Jvm.ClassFile.FieldType.boolean)) ∈ tblG := rn_6 (List.mem_of_getElem? (i := 72) (by decide +kernel)) (by decide +kernel)
theorem wd_1273 : (Jvm.Cond.methodLink "StrataBaseLaw" (87 : Nat) ({ cls := "StrataBaseLaw", name := "isNumber", desc := "(LStrataBase;II[J)I" } : Jvm.MethodName)) ∈ tblG := rn_6 (List.mem_of_getElem? (i := 73) (by decide +kernel)) (by decide +kernel)
theorem wd_1274 : (Jvm.Cond.static ({ cls := "StrataBaseLaw", name := "isNumber", desc := "(LStrataBase;II[J)I" } : Jvm.MethodName)) ∈ tblG := rn_6 (List.mem_of_getElem? (i := 74) (by decide +kernel)) (by decide +kernel)
theorem wd_1275 : (Jvm.Cond.codeWith ({ cls := "StrataBaseLaw", name := "isNumber", desc := "(LStrataBase;II[J)I" } : Jvm.MethodName) method_7_code (5 : Nat) (Option.some Jvm.ClassFile.FieldType.int) [((0 : Nat), (17 : Nat), (20 : Nat), (34 : Nat))]) ∈ tblG := rn_6 (List.mem_of_getElem? (i := 75) (by decide +kernel)) (by decide +kernel)
theorem wd_1276 : (Jvm.Cond.classLink "StrataBaseLaw" (34 : Nat) "java/lang/IndexOutOfBoundsException") ∈ tblG := rn_6 (List.mem_of_getElem? (i := 76) (by decide +kernel)) (by decide +kernel)
theorem wd_1277 : (Jvm.Cond.methodLink "StrataBaseLaw" (30 : Nat) ({ cls := "StrataBase", name := "isNumber", desc := "(II)Z" } : Jvm.MethodName)) ∈ tblG := rn_6 (List.mem_of_getElem? (i := 77) (by decide +kernel)) (by decide +kernel)
theorem wd_1278 : (Jvm.Cond.instanceMethod ({ cls := "StrataBase", name := "isNumber", desc := "(II)Z" } : Jvm.MethodName)) ∈ tblG := rn_6 (List.mem_of_getElem? (i := 78) (by decide +kernel)) (by decide +kernel)
theorem wd_1279 : (Jvm.Cond.selects "StrataBase" ({ cls := "StrataBase", name := "isNumber", desc := "(II)Z" } : Jvm.MethodName) ({ cls := "StrataBase", name := "isNumber", desc := "(II)Z" } : Jvm.MethodName)) ∈ tblG := rn_6 (List.mem_of_getElem? (i := 79) (by decide +kernel)) (by decide +kernel)
theorem wd_1280 : (Jvm.Cond.code ({ cls := "StrataBase", name := "isNumber", desc := "(II)Z" } : Jvm.MethodName) prog_1_method_9_code (3 : Nat) (Option.some Jvm.ClassFile.FieldType.boolean)) ∈ tblG := rn_6 (List.mem_of_getElem? (i := 80) (by decide +kernel)) (by decide +kernel)
theorem wd_1281 : (Jvm.Cond.methodLink "StrataBase" (159 : Nat) ({ cls := "StrataBase$Rows", name := "has", desc := "(II)Z" } : Jvm.MethodName)) ∈ tblG := rn_6 (List.mem_of_getElem? (i := 81) (by decide +kernel)) (by decide +kernel)
theorem wd_1282 : (Jvm.Cond.instanceMethod ({ cls := "StrataBase$Rows", name := "has", desc := "(II)Z" } : Jvm.MethodName)) ∈ tblG := rn_6 (List.mem_of_getElem? (i := 82) (by decide +kernel)) (by decide +kernel)
theorem wd_1283 : (Jvm.Cond.selects "StrataBase$Rows" ({ cls := "StrataBase$Rows", name := "has", desc := "(II)Z" } : Jvm.MethodName) ({ cls := "StrataBase$Rows", name := "has", desc := "(II)Z" } : Jvm.MethodName)) ∈ tblG := rn_6 (List.mem_of_getElem? (i := 83) (by decide +kernel)) (by decide +kernel)
theorem wd_1284 : (Jvm.Cond.code ({ cls := "StrataBase$Rows", name := "has", desc := "(II)Z" } : Jvm.MethodName) prog_10_method_3_code (3 : Nat) (Option.some Jvm.ClassFile.FieldType.boolean)) ∈ tblG := rn_6 (List.mem_of_getElem? (i := 84) (by decide +kernel)) (by decide +kernel)
theorem wd_1285 : (Jvm.Cond.classLink "StrataBase" (163 : Nat) "java/lang/IndexOutOfBoundsException") ∈ tblG := rn_6 (List.mem_of_getElem? (i := 85) (by decide +kernel)) (by decide +kernel)
theorem wd_1286 : (Jvm.Cond.instantiable "java/lang/IndexOutOfBoundsException" (6 : Nat)) ∈ tblG := rn_6 (List.mem_of_getElem? (i := 86) (by decide +kernel)) (by decide +kernel)
theorem wd_1288 : (Jvm.Cond.selects "java/lang/IndexOutOfBoundsException" ({ cls := "java/lang/Throwable", name := "fillInStackTrace", desc := "(I)Ljava/lang/Throwable;" } : Jvm.MethodName) ({ cls := "java/lang/Throwable", name := "fillInStackTrace", desc := "(I)Ljava/lang/Throwable;" } : Jvm.MethodName)) ∈ tblG := rn_6 (List.mem_of_getElem? (i := 88) (by decide +kernel)) (by decide +kernel)
theorem wd_1289 : (Jvm.Cond.lays "java/lang/IndexOutOfBoundsException" "java/lang/Throwable" "cause" "Ljava/lang/Throwable;") ∈ tblG := rn_6 (List.mem_of_getElem? (i := 89) (by decide +kernel)) (by decide +kernel)
theorem wd_1290 : (Jvm.Cond.lays "java/lang/IndexOutOfBoundsException" "java/lang/Throwable" "stackTrace" "[Ljava/lang/StackTraceElement;") ∈ tblG := rn_6 (List.mem_of_getElem? (i := 90) (by decide +kernel)) (by decide +kernel)
theorem wd_1291 : (Jvm.Cond.lays "java/lang/IndexOutOfBoundsException" "java/lang/Throwable" "suppressedExceptions" "Ljava/util/List;") ∈ tblG := rn_6 (List.mem_of_getElem? (i := 91) (by decide +kernel)) (by decide +kernel)
theorem wd_1292 : (Jvm.Cond.lays "java/lang/IndexOutOfBoundsException" "java/lang/Throwable" "detailMessage" "Ljava/lang/String;") ∈ tblG := rn_6 (List.mem_of_getElem? (i := 92) (by decide +kernel)) (by decide +kernel)
theorem wd_1293 : (Jvm.Cond.lays "java/lang/IndexOutOfBoundsException" "java/lang/Throwable" "backtrace" "Ljava/lang/Object;") ∈ tblG := rn_6 (List.mem_of_getElem? (i := 93) (by decide +kernel)) (by decide +kernel)
theorem wd_1294 : (Jvm.Cond.methodLink "StrataBase" (165 : Nat) ({ cls := "java/lang/IndexOutOfBoundsException", name := "<init>", desc := "()V" } : Jvm.MethodName)) ∈ tblG := rn_6 (List.mem_of_getElem? (i := 94) (by decide +kernel)) (by decide +kernel)
theorem wd_1295 : (Jvm.Cond.instanceMethod ({ cls := "java/lang/IndexOutOfBoundsException", name := "<init>", desc := "()V" } : Jvm.MethodName)) ∈ tblG := rn_6 (List.mem_of_getElem? (i := 95) (by decide +kernel)) (by decide +kernel)
theorem wd_1296 : (Jvm.Cond.code ({ cls := "java/lang/IndexOutOfBoundsException", name := "<init>", desc := "()V" } : Jvm.MethodName) prog_19_method_1_code (1 : Nat) (Option.none : Option Jvm.ClassFile.FieldType)) ∈ tblG := rn_6 (List.mem_of_getElem? (i := 96) (by decide +kernel)) (by decide +kernel)
theorem wd_1297 : (Jvm.Cond.methodLink "java/lang/IndexOutOfBoundsException" (1 : Nat) ({ cls := "java/lang/RuntimeException", name := "<init>", desc := "()V" } : Jvm.MethodName)) ∈ tblG := rn_6 (List.mem_of_getElem? (i := 97) (by decide +kernel)) (by decide +kernel)
theorem wd_1298 : (Jvm.Cond.lays "java/lang/IndexOutOfBoundsException" "java/lang/Throwable" "depth" "I") ∈ tblG := rn_6 (List.mem_of_getElem? (i := 98) (by decide +kernel)) (by decide +kernel)
theorem wd_1300 : (Jvm.Cond.methodLink "StrataBase" (170 : Nat) ({ cls := "StrataBase$Rows", name := "rankAt", desc := "(II)I" } : Jvm.MethodName)) ∈ tblG := rn_6 (List.mem_of_getElem? (i := 100) (by decide +kernel)) (by decide +kernel)
theorem wd_1301 : (Jvm.Cond.instanceMethod ({ cls := "StrataBase$Rows", name := "rankAt", desc := "(II)I" } : Jvm.MethodName)) ∈ tblG := rn_6 (List.mem_of_getElem? (i := 101) (by decide +kernel)) (by decide +kernel)
theorem wd_1302 : (Jvm.Cond.selects "StrataBase$Rows" ({ cls := "StrataBase$Rows", name := "rankAt", desc := "(II)I" } : Jvm.MethodName) ({ cls := "StrataBase$Rows", name := "rankAt", desc := "(II)I" } : Jvm.MethodName)) ∈ tblG := rn_6 (List.mem_of_getElem? (i := 102) (by decide +kernel)) (by decide +kernel)
theorem wd_1303 : (Jvm.Cond.code ({ cls := "StrataBase$Rows", name := "rankAt", desc := "(II)I" } : Jvm.MethodName) prog_10_method_4_code (3 : Nat) (Option.some Jvm.ClassFile.FieldType.int)) ∈ tblG := rn_6 (List.mem_of_getElem? (i := 103) (by decide +kernel)) (by decide +kernel)
theorem wd_1304 : (Jvm.Cond.methodLink "StrataBase$Rows" (33 : Nat) ({ cls := "StrataBase$Facts", name := "rankIn", desc := "(JI)I" } : Jvm.MethodName)) ∈ tblG := rn_6 (List.mem_of_getElem? (i := 104) (by decide +kernel)) (by decide +kernel)
theorem wd_1305 : (Jvm.Cond.methodLink "StrataBase" (174 : Nat) ({ cls := "StrataBase$Constants", name := "lengthAt", desc := "(I)I" } : Jvm.MethodName)) ∈ tblG := rn_6 (List.mem_of_getElem? (i := 105) (by decide +kernel)) (by decide +kernel)
theorem wd_1306 : (Jvm.Cond.instanceMethod ({ cls := "StrataBase$Constants", name := "lengthAt", desc := "(I)I" } : Jvm.MethodName)) ∈ tblG := rn_6 (List.mem_of_getElem? (i := 106) (by decide +kernel)) (by decide +kernel)
theorem wd_1307 : (Jvm.Cond.selects "StrataBase$Constants" ({ cls := "StrataBase$Constants", name := "lengthAt", desc := "(I)I" } : Jvm.MethodName) ({ cls := "StrataBase$Constants", name := "lengthAt", desc := "(I)I" } : Jvm.MethodName)) ∈ tblG := rn_6 (List.mem_of_getElem? (i := 107) (by decide +kernel)) (by decide +kernel)
theorem wd_1308 : (Jvm.Cond.code ({ cls := "StrataBase$Constants", name := "lengthAt", desc := "(I)I" } : Jvm.MethodName) prog_3_method_8_code (2 : Nat) (Option.some Jvm.ClassFile.FieldType.int)) ∈ tblG := rn_6 (List.mem_of_getElem? (i := 108) (by decide +kernel)) (by decide +kernel)
theorem wd_1309 : (Jvm.Cond.methodLink "StrataBase$Constants" (60 : Nat) ({ cls := "StrataBase$Names", name := "lengthOf", desc := "(I)I" } : Jvm.MethodName)) ∈ tblG := rn_6 (List.mem_of_getElem? (i := 109) (by decide +kernel)) (by decide +kernel)
theorem wd_1310 : (Jvm.Cond.instanceMethod ({ cls := "StrataBase$Names", name := "lengthOf", desc := "(I)I" } : Jvm.MethodName)) ∈ tblG := rn_6 (List.mem_of_getElem? (i := 110) (by decide +kernel)) (by decide +kernel)
theorem wd_1311 : (Jvm.Cond.selects "StrataBase$Names" ({ cls := "StrataBase$Names", name := "lengthOf", desc := "(I)I" } : Jvm.MethodName) ({ cls := "StrataBase$Names", name := "lengthOf", desc := "(I)I" } : Jvm.MethodName)) ∈ tblG := rn_6 (List.mem_of_getElem? (i := 111) (by decide +kernel)) (by decide +kernel)
theorem wd_1312 : (Jvm.Cond.code ({ cls := "StrataBase$Names", name := "lengthOf", desc := "(I)I" } : Jvm.MethodName) prog_7_method_5_code (2 : Nat) (Option.some Jvm.ClassFile.FieldType.int)) ∈ tblG := rn_6 (List.mem_of_getElem? (i := 112) (by decide +kernel)) (by decide +kernel)
theorem wd_1313 : (Jvm.Cond.methodLink "StrataBaseLaw" (91 : Nat) ({ cls := "StrataBaseLaw", name := "number", desc := "(LStrataBase;II[J)I" } : Jvm.MethodName)) ∈ tblG := rn_6 (List.mem_of_getElem? (i := 113) (by decide +kernel)) (by decide +kernel)
theorem wd_1314 : (Jvm.Cond.static ({ cls := "StrataBaseLaw", name := "number", desc := "(LStrataBase;II[J)I" } : Jvm.MethodName)) ∈ tblG := rn_6 (List.mem_of_getElem? (i := 114) (by decide +kernel)) (by decide +kernel)
theorem wd_1315 : (Jvm.Cond.codeWith ({ cls := "StrataBaseLaw", name := "number", desc := "(LStrataBase;II[J)I" } : Jvm.MethodName) method_8_code (5 : Nat) (Option.some Jvm.ClassFile.FieldType.int) [((0 : Nat), (10 : Nat), (13 : Nat), (34 : Nat))]) ∈ tblG := rn_6 (List.mem_of_getElem? (i := 115) (by decide +kernel)) (by decide +kernel)
theorem wd_1316 : (Jvm.Cond.methodLink "StrataBaseLaw" (36 : Nat) ({ cls := "StrataBase", name := "number", desc := "(II)I" } : Jvm.MethodName)) ∈ tblG := rn_6 (List.mem_of_getElem? (i := 116) (by decide +kernel)) (by decide +kernel)
theorem wd_1317 : (Jvm.Cond.instanceMethod ({ cls := "StrataBase", name := "number", desc := "(II)I" } : Jvm.MethodName)) ∈ tblG := rn_6 (List.mem_of_getElem? (i := 117) (by decide +kernel)) (by decide +kernel)
theorem wd_1318 : (Jvm.Cond.selects "StrataBase" ({ cls := "StrataBase", name := "number", desc := "(II)I" } : Jvm.MethodName) ({ cls := "StrataBase", name := "number", desc := "(II)I" } : Jvm.MethodName)) ∈ tblG := rn_6 (List.mem_of_getElem? (i := 118) (by decide +kernel)) (by decide +kernel)
theorem wd_1319 : (Jvm.Cond.code ({ cls := "StrataBase", name := "number", desc := "(II)I" } : Jvm.MethodName) prog_1_method_10_code (5 : Nat) (Option.some Jvm.ClassFile.FieldType.int)) ∈ tblG := rn_6 (List.mem_of_getElem? (i := 119) (by decide +kernel)) (by decide +kernel)
theorem wd_1320 : (Jvm.Cond.methodLink "StrataBase" (180 : Nat) ({ cls := "StrataBase$Constants", name := "valueAt", desc := "(I)I" } : Jvm.MethodName)) ∈ tblG := rn_6 (List.mem_of_getElem? (i := 120) (by decide +kernel)) (by decide +kernel)
theorem wd_1321 : (Jvm.Cond.instanceMethod ({ cls := "StrataBase$Constants", name := "valueAt", desc := "(I)I" } : Jvm.MethodName)) ∈ tblG := rn_6 (List.mem_of_getElem? (i := 121) (by decide +kernel)) (by decide +kernel)
theorem wd_1322 : (Jvm.Cond.selects "StrataBase$Constants" ({ cls := "StrataBase$Constants", name := "valueAt", desc := "(I)I" } : Jvm.MethodName) ({ cls := "StrataBase$Constants", name := "valueAt", desc := "(I)I" } : Jvm.MethodName)) ∈ tblG := rn_6 (List.mem_of_getElem? (i := 122) (by decide +kernel)) (by decide +kernel)
theorem wd_1323 : (Jvm.Cond.code ({ cls := "StrataBase$Constants", name := "valueAt", desc := "(I)I" } : Jvm.MethodName) prog_3_method_9_code (2 : Nat) (Option.some Jvm.ClassFile.FieldType.int)) ∈ tblG := rn_6 (List.mem_of_getElem? (i := 123) (by decide +kernel)) (by decide +kernel)
theorem wd_1324 : (Jvm.Cond.methodLink "StrataBaseLaw" (94 : Nat) ({ cls := "StrataBaseLaw", name := "letter", desc := "(LStrataBase;III[J)I" } : Jvm.MethodName)) ∈ tblG := rn_6 (List.mem_of_getElem? (i := 124) (by decide +kernel)) (by decide +kernel)
theorem wd_1325 : (Jvm.Cond.static ({ cls := "StrataBaseLaw", name := "letter", desc := "(LStrataBase;III[J)I" } : Jvm.MethodName)) ∈ tblG := rn_6 (List.mem_of_getElem? (i := 125) (by decide +kernel)) (by decide +kernel)
theorem wd_1326 : (Jvm.Cond.codeWith ({ cls := "StrataBaseLaw", name := "letter", desc := "(LStrataBase;III[J)I" } : Jvm.MethodName) method_9_code (6 : Nat) (Option.some Jvm.ClassFile.FieldType.int) [((0 : Nat), (12 : Nat), (15 : Nat), (34 : Nat))]) ∈ tblG := rn_6 (List.mem_of_getElem? (i := 126) (by decide +kernel)) (by decide +kernel)
theorem wd_1327 : (Jvm.Cond.methodLink "StrataBaseLaw" (40 : Nat) ({ cls := "StrataBase", name := "letter", desc := "(III)I" } : Jvm.MethodName)) ∈ tblG := rn_6 (List.mem_of_getElem? (i := 127) (by decide +kernel)) (by decide +kernel)
theorem wd_1328 : (Jvm.Cond.instanceMethod ({ cls := "StrataBase", name := "letter", desc := "(III)I" } : Jvm.MethodName)) ∈ tblG := rn_6 (List.mem_of_getElem? (i := 128) (by decide +kernel)) (by decide +kernel)
theorem wd_1329 : (Jvm.Cond.selects "StrataBase" ({ cls := "StrataBase", name := "letter", desc := "(III)I" } : Jvm.MethodName) ({ cls := "StrataBase", name := "letter", desc := "(III)I" } : Jvm.MethodName)) ∈ tblG := rn_6 (List.mem_of_getElem? (i := 129) (by decide +kernel)) (by decide +kernel)
theorem wd_1330 : (Jvm.Cond.code ({ cls := "StrataBase", name := "letter", desc := "(III)I" } : Jvm.MethodName) prog_1_method_11_code (5 : Nat) (Option.some Jvm.ClassFile.FieldType.int)) ∈ tblG := rn_6 (List.mem_of_getElem? (i := 130) (by decide +kernel)) (by decide +kernel)
theorem wd_1331 : (Jvm.Cond.methodLink "StrataBase" (183 : Nat) ({ cls := "StrataBase$Constants", name := "byteAt", desc := "(II)I" } : Jvm.MethodName)) ∈ tblG := rn_6 (List.mem_of_getElem? (i := 131) (by decide +kernel)) (by decide +kernel)
theorem wd_1332 : (Jvm.Cond.instanceMethod ({ cls := "StrataBase$Constants", name := "byteAt", desc := "(II)I" } : Jvm.MethodName)) ∈ tblG := rn_6 (List.mem_of_getElem? (i := 132) (by decide +kernel)) (by decide +kernel)
theorem wd_1333 : (Jvm.Cond.selects "StrataBase$Constants" ({ cls := "StrataBase$Constants", name := "byteAt", desc := "(II)I" } : Jvm.MethodName) ({ cls := "StrataBase$Constants", name := "byteAt", desc := "(II)I" } : Jvm.MethodName)) ∈ tblG := rn_6 (List.mem_of_getElem? (i := 133) (by decide +kernel)) (by decide +kernel)
theorem wd_1334 : (Jvm.Cond.code ({ cls := "StrataBase$Constants", name := "byteAt", desc := "(II)I" } : Jvm.MethodName) prog_3_method_10_code (3 : Nat) (Option.some Jvm.ClassFile.FieldType.int)) ∈ tblG := rn_6 (List.mem_of_getElem? (i := 134) (by decide +kernel)) (by decide +kernel)
theorem wd_1335 : (Jvm.Cond.methodLink "StrataBase$Constants" (64 : Nat) ({ cls := "StrataBase$Names", name := "byteOf", desc := "(II)I" } : Jvm.MethodName)) ∈ tblG := rn_6 (List.mem_of_getElem? (i := 135) (by decide +kernel)) (by decide +kernel)
theorem wd_1336 : (Jvm.Cond.instanceMethod ({ cls := "StrataBase$Names", name := "byteOf", desc := "(II)I" } : Jvm.MethodName)) ∈ tblG := rn_6 (List.mem_of_getElem? (i := 136) (by decide +kernel)) (by decide +kernel)
theorem wd_1337 : (Jvm.Cond.selects "StrataBase$Names" ({ cls := "StrataBase$Names", name := "byteOf", desc := "(II)I" } : Jvm.MethodName) ({ cls := "StrataBase$Names", name := "byteOf", desc := "(II)I" } : Jvm.MethodName)) ∈ tblG := rn_6 (List.mem_of_getElem? (i := 137) (by decide +kernel)) (by decide +kernel)
theorem wd_1338 : (Jvm.Cond.code ({ cls := "StrataBase$Names", name := "byteOf", desc := "(II)I" } : Jvm.MethodName) prog_7_method_6_code (3 : Nat) (Option.some Jvm.ClassFile.FieldType.int)) ∈ tblG := rn_6 (List.mem_of_getElem? (i := 138) (by decide +kernel)) (by decide +kernel)
theorem wd_1339 : (Jvm.Cond.methodLink "StrataBaseLaw" (98 : Nat) ({ cls := "StrataBaseLaw", name := "stage", desc := "(LStrataBase;[J)I" } : Jvm.MethodName)) ∈ tblG := rn_6 (List.mem_of_getElem? (i := 139) (by decide +kernel)) (by decide +kernel)
theorem wd_1340 : (Jvm.Cond.static ({ cls := "StrataBaseLaw", name := "stage", desc := "(LStrataBase;[J)I" } : Jvm.MethodName)) ∈ tblG := rn_6 (List.mem_of_getElem? (i := 140) (by decide +kernel)) (by decide +kernel)
theorem wd_1341 : (Jvm.Cond.codeWith ({ cls := "StrataBaseLaw", name := "stage", desc := "(LStrataBase;[J)I" } : Jvm.MethodName) method_10_code (3 : Nat) (Option.some Jvm.ClassFile.FieldType.int) [((0 : Nat), (8 : Nat), (11 : Nat), (28 : Nat))]) ∈ tblG := rn_6 (List.mem_of_getElem? (i := 141) (by decide +kernel)) (by decide +kernel)
theorem wd_1342 : (Jvm.Cond.methodLink "StrataBaseLaw" (44 : Nat) ({ cls := "StrataBase", name := "stage", desc := "()I" } : Jvm.MethodName)) ∈ tblG := rn_6 (List.mem_of_getElem? (i := 142) (by decide +kernel)) (by decide +kernel)
theorem wd_1343 : (Jvm.Cond.instanceMethod ({ cls := "StrataBase", name := "stage", desc := "()I" } : Jvm.MethodName)) ∈ tblG := rn_6 (List.mem_of_getElem? (i := 143) (by decide +kernel)) (by decide +kernel)
theorem wd_1344 : (Jvm.Cond.selects "StrataBase" ({ cls := "StrataBase", name := "stage", desc := "()I" } : Jvm.MethodName) ({ cls := "StrataBase", name := "stage", desc := "()I" } : Jvm.MethodName)) ∈ tblG := rn_6 (List.mem_of_getElem? (i := 144) (by decide +kernel)) (by decide +kernel)
theorem wd_1345 : (Jvm.Cond.code ({ cls := "StrataBase", name := "stage", desc := "()I" } : Jvm.MethodName) prog_1_method_12_code (3 : Nat) (Option.some Jvm.ClassFile.FieldType.int)) ∈ tblG := rn_6 (List.mem_of_getElem? (i := 145) (by decide +kernel)) (by decide +kernel)
theorem wd_1346 : (Jvm.Cond.methodLink "StrataBase" (193 : Nat) ({ cls := "StrataBase$Clauses", name := "keyOf", desc := "(I[I)J" } : Jvm.MethodName)) ∈ tblG := rn_6 (List.mem_of_getElem? (i := 146) (by decide +kernel)) (by decide +kernel)
theorem wd_1347 : (Jvm.Cond.methodLink "StrataBase" (197 : Nat) ({ cls := "StrataBase$Facts", name := "find", desc := "(IJ)I" } : Jvm.MethodName)) ∈ tblG := rn_6 (List.mem_of_getElem? (i := 147) (by decide +kernel)) (by decide +kernel)
theorem wd_1348 : (Jvm.Cond.instanceMethod ({ cls := "StrataBase$Facts", name := "find", desc := "(IJ)I" } : Jvm.MethodName)) ∈ tblG := rn_6 (List.mem_of_getElem? (i := 148) (by decide +kernel)) (by decide +kernel)
theorem wd_1349 : (Jvm.Cond.selects "StrataBase$Facts" ({ cls := "StrataBase$Facts", name := "find", desc := "(IJ)I" } : Jvm.MethodName) ({ cls := "StrataBase$Facts", name := "find", desc := "(IJ)I" } : Jvm.MethodName)) ∈ tblG := rn_6 (List.mem_of_getElem? (i := 149) (by decide +kernel)) (by decide +kernel)
theorem wd_1350 : (Jvm.Cond.code ({ cls := "StrataBase$Facts", name := "find", desc := "(IJ)I" } : Jvm.MethodName) prog_4_method_5_code (4 : Nat) (Option.some Jvm.ClassFile.FieldType.int)) ∈ tblG := rn_6 (List.mem_of_getElem? (i := 150) (by decide +kernel)) (by decide +kernel)
theorem wd_1351 : (Jvm.Cond.methodLink "StrataBaseLaw" (105 : Nat) ({ cls := "StrataBaseLaw", name := "count", desc := "(LStrataBase;I[J)I" } : Jvm.MethodName)) ∈ tblG := rn_6 (List.mem_of_getElem? (i := 151) (by decide +kernel)) (by decide +kernel)
theorem wd_1352 : (Jvm.Cond.static ({ cls := "StrataBaseLaw", name := "count", desc := "(LStrataBase;I[J)I" } : Jvm.MethodName)) ∈ tblG := rn_6 (List.mem_of_getElem? (i := 152) (by decide +kernel)) (by decide +kernel)
theorem wd_1353 : (Jvm.Cond.codeWith ({ cls := "StrataBaseLaw", name := "count", desc := "(LStrataBase;I[J)I" } : Jvm.MethodName) method_11_code (4 : Nat) (Option.some Jvm.ClassFile.FieldType.int) [((0 : Nat), (9 : Nat), (12 : Nat), (19 : Nat))]) ∈ tblG := rn_6 (List.mem_of_getElem? (i := 153) (by decide +kernel)) (by decide +kernel)
theorem wd_1354 : (Jvm.Cond.methodLink "StrataBaseLaw" (47 : Nat) ({ cls := "StrataBase", name := "count", desc := "(I)I" } : Jvm.MethodName)) ∈ tblG := rn_6 (List.mem_of_getElem? (i := 154) (by decide +kernel)) (by decide +kernel)
theorem wd_1355 : (Jvm.Cond.instanceMethod ({ cls := "StrataBase", name := "count", desc := "(I)I" } : Jvm.MethodName)) ∈ tblG := rn_6 (List.mem_of_getElem? (i := 155) (by decide +kernel)) (by decide +kernel)
theorem wd_1356 : (Jvm.Cond.selects "StrataBase" ({ cls := "StrataBase", name := "count", desc := "(I)I" } : Jvm.MethodName) ({ cls := "StrataBase", name := "count", desc := "(I)I" } : Jvm.MethodName)) ∈ tblG := rn_6 (List.mem_of_getElem? (i := 156) (by decide +kernel)) (by decide +kernel)
theorem wd_1357 : (Jvm.Cond.code ({ cls := "StrataBase", name := "count", desc := "(I)I" } : Jvm.MethodName) prog_1_method_14_code (2 : Nat) (Option.some Jvm.ClassFile.FieldType.int)) ∈ tblG := rn_6 (List.mem_of_getElem? (i := 157) (by decide +kernel)) (by decide +kernel)
theorem wd_1358 : (Jvm.Cond.methodLink "StrataBase" (210 : Nat) ({ cls := "StrataBase$Constants", name := "size", desc := "()I" } : Jvm.MethodName)) ∈ tblG := rn_6 (List.mem_of_getElem? (i := 158) (by decide +kernel)) (by decide +kernel)
theorem wd_1359 : (Jvm.Cond.classLink "StrataBaseLaw" (52 : Nat) "StrataBaseModel") ∈ tblG := rn_6 (List.mem_of_getElem? (i := 159) (by decide +kernel)) (by decide +kernel)
theorem wd_1360 : (Jvm.Cond.instantiable "StrataBaseModel" (64 : Nat)) ∈ tblG := rn_6 (List.mem_of_getElem? (i := 160) (by decide +kernel)) (by decide +kernel)
theorem wd_1361 : (Jvm.Cond.methodLink "StrataBaseLaw" (54 : Nat) ({ cls := "StrataBaseModel", name := "<init>", desc := "()V" } : Jvm.MethodName)) ∈ tblG := rn_6 (List.mem_of_getElem? (i := 161) (by decide +kernel)) (by decide +kernel)
theorem wd_1362 : (Jvm.Cond.instanceMethod ({ cls := "StrataBaseModel", name := "<init>", desc := "()V" } : Jvm.MethodName)) ∈ tblG := rn_6 (List.mem_of_getElem? (i := 162) (by decide +kernel)) (by decide +kernel)
theorem wd_1363 : (Jvm.Cond.code ({ cls := "StrataBaseModel", name := "<init>", desc := "()V" } : Jvm.MethodName) prog_14_method_1_code (1 : Nat) (Option.none : Option Jvm.ClassFile.FieldType)) ∈ tblG := rn_6 (List.mem_of_getElem? (i := 163) (by decide +kernel)) (by decide +kernel)
theorem wd_1364 : (Jvm.Cond.methodLink "StrataBaseModel" (1 : Nat) ({ cls := "java/lang/Object", name := "<init>", desc := "()V" } : Jvm.MethodName)) ∈ tblG := rn_6 (List.mem_of_getElem? (i := 164) (by decide +kernel)) (by decide +kernel)
theorem wd_1365 : (Jvm.Cond.constant "StrataBaseModel" (7 : Nat) (65536 : Int32)) ∈ tblG := rn_6 (List.mem_of_getElem? (i := 165) (by decide +kernel)) (by decide +kernel)
theorem wd_1366 : (Jvm.Cond.constant "StrataBaseModel" (14 : Nat) (196608 : Int32)) ∈ tblG := rn_6 (List.mem_of_getElem? (i := 166) (by decide +kernel)) (by decide +kernel)
theorem wd_1367 : (Jvm.Cond.constant "StrataBaseModel" (56 : Nat) (40092 : Int32)) ∈ tblG := rn_6 (List.mem_of_getElem? (i := 167) (by decide +kernel)) (by decide +kernel)
theorem wd_1368 : (Jvm.Cond.constant "StrataBaseModel" (90 : Nat) (120006 : Int32)) ∈ tblG := rn_6 (List.mem_of_getElem? (i := 168) (by decide +kernel)) (by decide +kernel)
theorem wd_1369 : (Jvm.Cond.constant "StrataBaseModel" (115 : Nat) (60012 : Int32)) ∈ tblG := rn_6 (List.mem_of_getElem? (i := 169) (by decide +kernel)) (by decide +kernel)
theorem wd_1370 : (Jvm.Cond.fieldLink "StrataBaseModel" (125 : Nat) "StrataBaseModel" "code" "I") ∈ tblG := rn_6 (List.mem_of_getElem? (i := 170) (by decide +kernel)) (by decide +kernel)
theorem wd_1371 : (Jvm.Cond.fieldLink "StrataBaseModel" (8 : Nat) "StrataBaseModel" "tape" "[B") ∈ tblG := rn_6 (List.mem_of_getElem? (i := 171) (by decide +kernel)) (by decide +kernel)
theorem wd_1372 : (Jvm.Cond.fieldLink "StrataBaseModel" (129 : Nat) "StrataBaseModel" "length" "I") ∈ tblG := rn_6 (List.mem_of_getElem? (i := 172) (by decide +kernel)) (by decide +kernel)
theorem wd_1373 : (Jvm.Cond.fieldLink "StrataBaseModel" (132 : Nat) "StrataBaseModel" "faultCode" "I") ∈ tblG := rn_6 (List.mem_of_getElem? (i := 173) (by decide +kernel)) (by decide +kernel)
theorem wd_1374 : (Jvm.Cond.fieldLink "StrataBaseModel" (138 : Nat) "StrataBaseModel" "faultPlace" "I") ∈ tblG := rn_6 (List.mem_of_getElem? (i := 174) (by decide +kernel)) (by decide +kernel)
theorem wd_1375 : (Jvm.Cond.fieldLink "StrataBaseModel" (15 : Nat) "StrataBaseModel" "text" "[B") ∈ tblG := rn_6 (List.mem_of_getElem? (i := 175) (by decide +kernel)) (by decide +kernel)
theorem wd_1376 : (Jvm.Cond.fieldLink "StrataBaseModel" (271 : Nat) "StrataBaseModel" "live" "I") ∈ tblG := rn_6 (List.mem_of_getElem? (i := 176) (by decide +kernel)) (by decide +kernel)
theorem wd_1377 : (Jvm.Cond.fieldLink "StrataBaseModel" (195 : Nat) "StrataBaseModel" "set" "I") ∈ tblG := rn_6 (List.mem_of_getElem? (i := 177) (by decide +kernel)) (by decide +kernel)
theorem wd_1378 : (Jvm.Cond.fieldLink "StrataBaseModel" (18 : Nat) "StrataBaseModel" "predFrom" "[I") ∈ tblG := rn_6 (List.mem_of_getElem? (i := 178) (by decide +kernel)) (by decide +kernel)
theorem wd_1379 : (Jvm.Cond.fieldLink "StrataBaseModel" (22 : Nat) "StrataBaseModel" "predLength" "[I") ∈ tblG := rn_6 (List.mem_of_getElem? (i := 179) (by decide +kernel)) (by decide +kernel)
theorem wd_1380 : (Jvm.Cond.fieldLink "StrataBaseModel" (25 : Nat) "StrataBaseModel" "predArity" "[I") ∈ tblG := rn_6 (List.mem_of_getElem? (i := 180) (by decide +kernel)) (by decide +kernel)
theorem wd_1381 : (Jvm.Cond.fieldLink "StrataBaseModel" (28 : Nat) "StrataBaseModel" "preds" "[I") ∈ tblG := rn_6 (List.mem_of_getElem? (i := 181) (by decide +kernel)) (by decide +kernel)
theorem wd_1382 : (Jvm.Cond.fieldLink "StrataBaseModel" (31 : Nat) "StrataBaseModel" "conNumber" "[Z") ∈ tblG := rn_6 (List.mem_of_getElem? (i := 182) (by decide +kernel)) (by decide +kernel)
theorem wd_1383 : (Jvm.Cond.fieldLink "StrataBaseModel" (35 : Nat) "StrataBaseModel" "conValue" "[I") ∈ tblG := rn_6 (List.mem_of_getElem? (i := 183) (by decide +kernel)) (by decide +kernel)
theorem wd_1384 : (Jvm.Cond.fieldLink "StrataBaseModel" (38 : Nat) "StrataBaseModel" "conFrom" "[I") ∈ tblG := rn_6 (List.mem_of_getElem? (i := 184) (by decide +kernel)) (by decide +kernel)
theorem wd_1385 : (Jvm.Cond.fieldLink "StrataBaseModel" (41 : Nat) "StrataBaseModel" "cons" "[I") ∈ tblG := rn_6 (List.mem_of_getElem? (i := 185) (by decide +kernel)) (by decide +kernel)
theorem wd_1386 : (Jvm.Cond.fieldLink "StrataBaseModel" (44 : Nat) "StrataBaseModel" "clauses" "[I") ∈ tblG := rn_6 (List.mem_of_getElem? (i := 186) (by decide +kernel)) (by decide +kernel)
theorem wd_1387 : (Jvm.Cond.fieldLink "StrataBaseModel" (47 : Nat) "StrataBaseModel" "litCount" "[I") ∈ tblG := rn_6 (List.mem_of_getElem? (i := 187) (by decide +kernel)) (by decide +kernel)
theorem wd_1388 : (Jvm.Cond.fieldLink "StrataBaseModel" (50 : Nat) "StrataBaseModel" "litKind" "[I") ∈ tblG := rn_6 (List.mem_of_getElem? (i := 188) (by decide +kernel)) (by decide +kernel)
theorem wd_1389 : (Jvm.Cond.fieldLink "StrataBaseModel" (53 : Nat) "StrataBaseModel" "litPred" "[I") ∈ tblG := rn_6 (List.mem_of_getElem? (i := 189) (by decide +kernel)) (by decide +kernel)
theorem wd_1390 : (Jvm.Cond.fieldLink "StrataBaseModel" (57 : Nat) "StrataBaseModel" "litTerms" "[I") ∈ tblG := rn_6 (List.mem_of_getElem? (i := 190) (by decide +kernel)) (by decide +kernel)
theorem wd_1391 : (Jvm.Cond.fieldLink "StrataBaseModel" (60 : Nat) "StrataBaseModel" "varCount" "[I") ∈ tblG := rn_6 (List.mem_of_getElem? (i := 191) (by decide +kernel)) (by decide +kernel)
theorem wd_1392 : (Jvm.Cond.fieldLink "StrataBaseModel" (63 : Nat) "StrataBaseModel" "litPlace" "[I") ∈ tblG := rn_6 (List.mem_of_getElem? (i := 192) (by decide +kernel)) (by decide +kernel)
theorem wd_1393 : (Jvm.Cond.fieldLink "StrataBaseModel" (66 : Nat) "StrataBaseModel" "notPlace" "[I") ∈ tblG := rn_6 (List.mem_of_getElem? (i := 193) (by decide +kernel)) (by decide +kernel)
theorem wd_1394 : (Jvm.Cond.fieldLink "StrataBaseModel" (69 : Nat) "StrataBaseModel" "termPlace" "[I") ∈ tblG := rn_6 (List.mem_of_getElem? (i := 194) (by decide +kernel)) (by decide +kernel)
theorem wd_1395 : (Jvm.Cond.fieldLink "StrataBaseModel" (72 : Nat) "StrataBaseModel" "litArity" "[I") ∈ tblG := rn_6 (List.mem_of_getElem? (i := 195) (by decide +kernel)) (by decide +kernel)
theorem wd_1396 : (Jvm.Cond.fieldLink "StrataBaseModel" (75 : Nat) "StrataBaseModel" "varFrom" "[I") ∈ tblG := rn_6 (List.mem_of_getElem? (i := 196) (by decide +kernel)) (by decide +kernel)
theorem wd_1397 : (Jvm.Cond.fieldLink "StrataBaseModel" (78 : Nat) "StrataBaseModel" "varLength" "[I") ∈ tblG := rn_6 (List.mem_of_getElem? (i := 197) (by decide +kernel)) (by decide +kernel)
theorem wd_1398 : (Jvm.Cond.fieldLink "StrataBaseModel" (135 : Nat) "StrataBaseModel" "base" "I") ∈ tblG := rn_6 (List.mem_of_getElem? (i := 198) (by decide +kernel)) (by decide +kernel)
theorem wd_1399 : (Jvm.Cond.fieldLink "StrataBaseModel" (141 : Nat) "StrataBaseModel" "stop" "I") ∈ tblG := rn_6 (List.mem_of_getElem? (i := 199) (by decide +kernel)) (by decide +kernel)
theorem wd_1400 : (Jvm.Cond.fieldLink "StrataBaseModel" (167 : Nat) "StrataBaseModel" "token" "I") ∈ tblG := rn_6 (List.mem_of_getElem? (i := 200) (by decide +kernel)) (by decide +kernel)
theorem wd_1401 : (Jvm.Cond.fieldLink "StrataBaseModel" (158 : Nat) "StrataBaseModel" "from" "I") ∈ tblG := rn_6 (List.mem_of_getElem? (i := 201) (by decide +kernel)) (by decide +kernel)
theorem wd_1402 : (Jvm.Cond.fieldLink "StrataBaseModel" (151 : Nat) "StrataBaseModel" "to" "I") ∈ tblG := rn_6 (List.mem_of_getElem? (i := 202) (by decide +kernel)) (by decide +kernel)
theorem wd_1403 : (Jvm.Cond.fieldLink "StrataBaseModel" (181 : Nat) "StrataBaseModel" "amount" "J") ∈ tblG := rn_6 (List.mem_of_getElem? (i := 203) (by decide +kernel)) (by decide +kernel)
theorem wd_1404 : (Jvm.Cond.fieldLink "StrataBaseModel" (202 : Nat) "StrataBaseModel" "clause" "I") ∈ tblG := rn_6 (List.mem_of_getElem? (i := 204) (by decide +kernel)) (by decide +kernel)
theorem wd_1405 : (Jvm.Cond.fieldLink "StrataBaseModel" (214 : Nat) "StrataBaseModel" "asks" "Z") ∈ tblG := rn_6 (List.mem_of_getElem? (i := 205) (by decide +kernel)) (by decide +kernel)
theorem wd_1406 : (Jvm.Cond.fieldLink "StrataBaseModel" (208 : Nat) "StrataBaseModel" "conAll" "I") ∈ tblG := rn_6 (List.mem_of_getElem? (i := 206) (by decide +kernel)) (by decide +kernel)
theorem wd_1407 : (Jvm.Cond.fieldLink "StrataBaseModel" (205 : Nat) "StrataBaseModel" "vars" "I") ∈ tblG := rn_6 (List.mem_of_getElem? (i := 207) (by decide +kernel)) (by decide +kernel)
theorem wd_1408 : (Jvm.Cond.fieldLink "StrataBaseModel" (255 : Nat) "StrataBaseModel" "wrongCode" "I") ∈ tblG := rn_6 (List.mem_of_getElem? (i := 208) (by decide +kernel)) (by decide +kernel)
theorem wd_1409 : (Jvm.Cond.fieldLink "StrataBaseModel" (252 : Nat) "StrataBaseModel" "wrongPlace" "I") ∈ tblG := rn_6 (List.mem_of_getElem? (i := 209) (by decide +kernel)) (by decide +kernel)
theorem wd_1410 : (Jvm.Cond.fieldLink "StrataBaseModel" (81 : Nat) "StrataBaseModel" "depends" "[Z") ∈ tblG := rn_6 (List.mem_of_getElem? (i := 210) (by decide +kernel)) (by decide +kernel)
theorem wd_1411 : (Jvm.Cond.fieldLink "StrataBaseModel" (84 : Nat) "StrataBaseModel" "strata" "[I") ∈ tblG := rn_6 (List.mem_of_getElem? (i := 211) (by decide +kernel)) (by decide +kernel)
theorem wd_1412 : (Jvm.Cond.fieldLink "StrataBaseModel" (268 : Nat) "StrataBaseModel" "highest" "I") ∈ tblG := rn_6 (List.mem_of_getElem? (i := 212) (by decide +kernel)) (by decide +kernel)
theorem wd_1413 : (Jvm.Cond.fieldLink "StrataBaseModel" (294 : Nat) "StrataBaseModel" "ran" "Z") ∈ tblG := rn_6 (List.mem_of_getElem? (i := 213) (by decide +kernel)) (by decide +kernel)
theorem wd_1414 : (Jvm.Cond.fieldLink "StrataBaseModel" (87 : Nat) "StrataBaseModel" "factPred" "[I") ∈ tblG := rn_6 (List.mem_of_getElem? (i := 214) (by decide +kernel)) (by decide +kernel)
theorem wd_1415 : (Jvm.Cond.fieldLink "StrataBaseModel" (91 : Nat) "StrataBaseModel" "factTerms" "[I") ∈ tblG := rn_6 (List.mem_of_getElem? (i := 215) (by decide +kernel)) (by decide +kernel)
theorem wd_1416 : (Jvm.Cond.fieldLink "StrataBaseModel" (94 : Nat) "StrataBaseModel" "factStage" "[I") ∈ tblG := rn_6 (List.mem_of_getElem? (i := 216) (by decide +kernel)) (by decide +kernel)
theorem wd_1417 : (Jvm.Cond.fieldLink "StrataBaseModel" (297 : Nat) "StrataBaseModel" "facts" "I") ∈ tblG := rn_6 (List.mem_of_getElem? (i := 217) (by decide +kernel)) (by decide +kernel)
theorem wd_1418 : (Jvm.Cond.fieldLink "StrataBaseModel" (342 : Nat) "StrataBaseModel" "lastStage" "I") ∈ tblG := rn_6 (List.mem_of_getElem? (i := 218) (by decide +kernel)) (by decide +kernel)
theorem wd_1419 : (Jvm.Cond.fieldLink "StrataBaseModel" (97 : Nat) "StrataBaseModel" "table" "[I") ∈ tblG := rn_6 (List.mem_of_getElem? (i := 219) (by decide +kernel)) (by decide +kernel)
theorem wd_1420 : (Jvm.Cond.fieldLink "StrataBaseModel" (100 : Nat) "StrataBaseModel" "sought" "[I") ∈ tblG := rn_6 (List.mem_of_getElem? (i := 220) (by decide +kernel)) (by decide +kernel)
theorem wd_1421 : (Jvm.Cond.fieldLink "StrataBaseModel" (308 : Nat) "StrataBaseModel" "place" "I") ∈ tblG := rn_6 (List.mem_of_getElem? (i := 221) (by decide +kernel)) (by decide +kernel)
theorem wd_1422 : (Jvm.Cond.fieldLink "StrataBaseModel" (103 : Nat) "StrataBaseModel" "values" "[I") ∈ tblG := rn_6 (List.mem_of_getElem? (i := 222) (by decide +kernel)) (by decide +kernel)
theorem wd_1423 : (Jvm.Cond.fieldLink "StrataBaseModel" (106 : Nat) "StrataBaseModel" "boundBy" "[I") ∈ tblG := rn_6 (List.mem_of_getElem? (i := 223) (by decide +kernel)) (by decide +kernel)
theorem wd_1424 : (Jvm.Cond.fieldLink "StrataBaseModel" (109 : Nat) "StrataBaseModel" "atoms" "[I") ∈ tblG := rn_6 (List.mem_of_getElem? (i := 224) (by decide +kernel)) (by decide +kernel)
theorem wd_1425 : (Jvm.Cond.fieldLink "StrataBaseModel" (112 : Nat) "StrataBaseModel" "at" "[I") ∈ tblG := rn_6 (List.mem_of_getElem? (i := 225) (by decide +kernel)) (by decide +kernel)
theorem wd_1426 : (Jvm.Cond.fieldLink "StrataBaseModel" (324 : Nat) "StrataBaseModel" "atomCount" "I") ∈ tblG := rn_6 (List.mem_of_getElem? (i := 226) (by decide +kernel)) (by decide +kernel)
theorem wd_1427 : (Jvm.Cond.fieldLink "StrataBaseModel" (116 : Nat) "StrataBaseModel" "rowCells" "[I") ∈ tblG := rn_6 (List.mem_of_getElem? (i := 227) (by decide +kernel)) (by decide +kernel)
theorem wd_1428 : (Jvm.Cond.fieldLink "StrataBaseModel" (300 : Nat) "StrataBaseModel" "rows" "I") ∈ tblG := rn_6 (List.mem_of_getElem? (i := 228) (by decide +kernel)) (by decide +kernel)
theorem wd_1429 : (Jvm.Cond.fieldLink "StrataBaseModel" (303 : Nat) "StrataBaseModel" "width" "I") ∈ tblG := rn_6 (List.mem_of_getElem? (i := 229) (by decide +kernel)) (by decide +kernel)
theorem wd_1430 : (Jvm.Cond.fieldLink "StrataBaseModel" (119 : Nat) "StrataBaseModel" "newCells" "[I") ∈ tblG := rn_6 (List.mem_of_getElem? (i := 230) (by decide +kernel)) (by decide +kernel)
theorem wd_1431 : (Jvm.Cond.fieldLink "StrataBaseModel" (352 : Nat) "StrataBaseModel" "newRows" "I") ∈ tblG := rn_6 (List.mem_of_getElem? (i := 231) (by decide +kernel)) (by decide +kernel)
theorem wd_1432 : (Jvm.Cond.fieldLink "StrataBaseModel" (355 : Nat) "StrataBaseModel" "newWidth" "I") ∈ tblG := rn_6 (List.mem_of_getElem? (i := 232) (by decide +kernel)) (by decide +kernel)
theorem wd_1433 : (Jvm.Cond.fieldLink "StrataBaseModel" (122 : Nat) "StrataBaseModel" "newColumns" "[I") ∈ tblG := rn_6 (List.mem_of_getElem? (i := 233) (by decide +kernel)) (by decide +kernel)
theorem wd_1434 : (Jvm.Cond.lays "StrataBaseModel" "StrataBaseModel" "code" "I") ∈ tblG := rn_6 (List.mem_of_getElem? (i := 234) (by decide +kernel)) (by decide +kernel)
theorem wd_1436 : (Jvm.Cond.laysFinal "StrataBaseModel" "StrataBaseModel" "tape" "[B") ∈ tblG := rn_6 (List.mem_of_getElem? (i := 236) (by decide +kernel)) (by decide +kernel)
theorem wd_1438 : (Jvm.Cond.lays "StrataBaseModel" "StrataBaseModel" "length" "I") ∈ tblG := rn_6 (List.mem_of_getElem? (i := 238) (by decide +kernel)) (by decide +kernel)
theorem wd_1440 : (Jvm.Cond.lays "StrataBaseModel" "StrataBaseModel" "faultCode" "I") ∈ tblG := rn_7 (List.mem_of_getElem? (i := 0) (by decide +kernel)) (by decide +kernel)
theorem wd_1442 : (Jvm.Cond.lays "StrataBaseModel" "StrataBaseModel" "faultPlace" "I") ∈ tblG := rn_7 (List.mem_of_getElem? (i := 2) (by decide +kernel)) (by decide +kernel)
theorem wd_1444 : (Jvm.Cond.laysFinal "StrataBaseModel" "StrataBaseModel" "text" "[B") ∈ tblG := rn_7 (List.mem_of_getElem? (i := 4) (by decide +kernel)) (by decide +kernel)
theorem wd_1446 : (Jvm.Cond.lays "StrataBaseModel" "StrataBaseModel" "live" "I") ∈ tblG := rn_7 (List.mem_of_getElem? (i := 6) (by decide +kernel)) (by decide +kernel)
theorem wd_1448 : (Jvm.Cond.lays "StrataBaseModel" "StrataBaseModel" "set" "I") ∈ tblG := rn_7 (List.mem_of_getElem? (i := 8) (by decide +kernel)) (by decide +kernel)
theorem wd_1450 : (Jvm.Cond.laysFinal "StrataBaseModel" "StrataBaseModel" "predFrom" "[I") ∈ tblG := rn_7 (List.mem_of_getElem? (i := 10) (by decide +kernel)) (by decide +kernel)
theorem wd_1452 : (Jvm.Cond.laysFinal "StrataBaseModel" "StrataBaseModel" "predLength" "[I") ∈ tblG := rn_7 (List.mem_of_getElem? (i := 12) (by decide +kernel)) (by decide +kernel)
theorem wd_1454 : (Jvm.Cond.laysFinal "StrataBaseModel" "StrataBaseModel" "predArity" "[I") ∈ tblG := rn_7 (List.mem_of_getElem? (i := 14) (by decide +kernel)) (by decide +kernel)
theorem wd_1456 : (Jvm.Cond.laysFinal "StrataBaseModel" "StrataBaseModel" "preds" "[I") ∈ tblG := rn_7 (List.mem_of_getElem? (i := 16) (by decide +kernel)) (by decide +kernel)
theorem wd_1458 : (Jvm.Cond.laysFinal "StrataBaseModel" "StrataBaseModel" "conNumber" "[Z") ∈ tblG := rn_7 (List.mem_of_getElem? (i := 18) (by decide +kernel)) (by decide +kernel)
theorem wd_1460 : (Jvm.Cond.laysFinal "StrataBaseModel" "StrataBaseModel" "conValue" "[I") ∈ tblG := rn_7 (List.mem_of_getElem? (i := 20) (by decide +kernel)) (by decide +kernel)
theorem wd_1462 : (Jvm.Cond.laysFinal "StrataBaseModel" "StrataBaseModel" "conFrom" "[I") ∈ tblG := rn_7 (List.mem_of_getElem? (i := 22) (by decide +kernel)) (by decide +kernel)
theorem wd_1464 : (Jvm.Cond.laysFinal "StrataBaseModel" "StrataBaseModel" "cons" "[I") ∈ tblG := rn_7 (List.mem_of_getElem? (i := 24) (by decide +kernel)) (by decide +kernel)
theorem wd_1466 : (Jvm.Cond.laysFinal "StrataBaseModel" "StrataBaseModel" "clauses" "[I") ∈ tblG := rn_7 (List.mem_of_getElem? (i := 26) (by decide +kernel)) (by decide +kernel)
theorem wd_1468 : (Jvm.Cond.laysFinal "StrataBaseModel" "StrataBaseModel" "litCount" "[I") ∈ tblG := rn_7 (List.mem_of_getElem? (i := 28) (by decide +kernel)) (by decide +kernel)
theorem wd_1470 : (Jvm.Cond.laysFinal "StrataBaseModel" "StrataBaseModel" "litKind" "[I") ∈ tblG := rn_7 (List.mem_of_getElem? (i := 30) (by decide +kernel)) (by decide +kernel)
theorem wd_1472 : (Jvm.Cond.laysFinal "StrataBaseModel" "StrataBaseModel" "litPred" "[I") ∈ tblG := rn_7 (List.mem_of_getElem? (i := 32) (by decide +kernel)) (by decide +kernel)
theorem wd_1474 : (Jvm.Cond.laysFinal "StrataBaseModel" "StrataBaseModel" "litTerms" "[I") ∈ tblG := rn_7 (List.mem_of_getElem? (i := 34) (by decide +kernel)) (by decide +kernel)
theorem wd_1476 : (Jvm.Cond.laysFinal "StrataBaseModel" "StrataBaseModel" "varCount" "[I") ∈ tblG := rn_7 (List.mem_of_getElem? (i := 36) (by decide +kernel)) (by decide +kernel)
theorem wd_1478 : (Jvm.Cond.laysFinal "StrataBaseModel" "StrataBaseModel" "litPlace" "[I") ∈ tblG := rn_7 (List.mem_of_getElem? (i := 38) (by decide +kernel)) (by decide +kernel)
theorem wd_1480 : (Jvm.Cond.laysFinal "StrataBaseModel" "StrataBaseModel" "notPlace" "[I") ∈ tblG := rn_7 (List.mem_of_getElem? (i := 40) (by decide +kernel)) (by decide +kernel)
theorem wd_1482 : (Jvm.Cond.laysFinal "StrataBaseModel" "StrataBaseModel" "termPlace" "[I") ∈ tblG := rn_7 (List.mem_of_getElem? (i := 42) (by decide +kernel)) (by decide +kernel)
theorem wd_1484 : (Jvm.Cond.laysFinal "StrataBaseModel" "StrataBaseModel" "litArity" "[I") ∈ tblG := rn_7 (List.mem_of_getElem? (i := 44) (by decide +kernel)) (by decide +kernel)
theorem wd_1486 : (Jvm.Cond.laysFinal "StrataBaseModel" "StrataBaseModel" "varFrom" "[I") ∈ tblG := rn_7 (List.mem_of_getElem? (i := 46) (by decide +kernel)) (by decide +kernel)
theorem wd_1488 : (Jvm.Cond.laysFinal "StrataBaseModel" "StrataBaseModel" "varLength" "[I") ∈ tblG := rn_7 (List.mem_of_getElem? (i := 48) (by decide +kernel)) (by decide +kernel)
theorem wd_1490 : (Jvm.Cond.lays "StrataBaseModel" "StrataBaseModel" "base" "I") ∈ tblG := rn_7 (List.mem_of_getElem? (i := 50) (by decide +kernel)) (by decide +kernel)
theorem wd_1492 : (Jvm.Cond.lays "StrataBaseModel" "StrataBaseModel" "stop" "I") ∈ tblG := rn_7 (List.mem_of_getElem? (i := 52) (by decide +kernel)) (by decide +kernel)
theorem wd_1494 : (Jvm.Cond.lays "StrataBaseModel" "StrataBaseModel" "token" "I") ∈ tblG := rn_7 (List.mem_of_getElem? (i := 54) (by decide +kernel)) (by decide +kernel)
theorem wd_1496 : (Jvm.Cond.lays "StrataBaseModel" "StrataBaseModel" "from" "I") ∈ tblG := rn_7 (List.mem_of_getElem? (i := 56) (by decide +kernel)) (by decide +kernel)
theorem wd_1498 : (Jvm.Cond.lays "StrataBaseModel" "StrataBaseModel" "to" "I") ∈ tblG := rn_7 (List.mem_of_getElem? (i := 58) (by decide +kernel)) (by decide +kernel)
theorem wd_1500 : (Jvm.Cond.lays "StrataBaseModel" "StrataBaseModel" "amount" "J") ∈ tblG := rn_7 (List.mem_of_getElem? (i := 60) (by decide +kernel)) (by decide +kernel)
theorem wd_1502 : (Jvm.Cond.lays "StrataBaseModel" "StrataBaseModel" "clause" "I") ∈ tblG := rn_7 (List.mem_of_getElem? (i := 62) (by decide +kernel)) (by decide +kernel)
theorem wd_1504 : (Jvm.Cond.lays "StrataBaseModel" "StrataBaseModel" "asks" "Z") ∈ tblG := rn_7 (List.mem_of_getElem? (i := 64) (by decide +kernel)) (by decide +kernel)
theorem wd_1506 : (Jvm.Cond.lays "StrataBaseModel" "StrataBaseModel" "conAll" "I") ∈ tblG := rn_7 (List.mem_of_getElem? (i := 66) (by decide +kernel)) (by decide +kernel)
theorem wd_1508 : (Jvm.Cond.lays "StrataBaseModel" "StrataBaseModel" "vars" "I") ∈ tblG := rn_7 (List.mem_of_getElem? (i := 68) (by decide +kernel)) (by decide +kernel)
theorem wd_1510 : (Jvm.Cond.lays "StrataBaseModel" "StrataBaseModel" "wrongCode" "I") ∈ tblG := rn_7 (List.mem_of_getElem? (i := 70) (by decide +kernel)) (by decide +kernel)
theorem wd_1512 : (Jvm.Cond.lays "StrataBaseModel" "StrataBaseModel" "wrongPlace" "I") ∈ tblG := rn_7 (List.mem_of_getElem? (i := 72) (by decide +kernel)) (by decide +kernel)
theorem wd_1514 : (Jvm.Cond.laysFinal "StrataBaseModel" "StrataBaseModel" "depends" "[Z") ∈ tblG := rn_7 (List.mem_of_getElem? (i := 74) (by decide +kernel)) (by decide +kernel)
theorem wd_1516 : (Jvm.Cond.laysFinal "StrataBaseModel" "StrataBaseModel" "strata" "[I") ∈ tblG := rn_7 (List.mem_of_getElem? (i := 76) (by decide +kernel)) (by decide +kernel)
theorem wd_1518 : (Jvm.Cond.lays "StrataBaseModel" "StrataBaseModel" "highest" "I") ∈ tblG := rn_7 (List.mem_of_getElem? (i := 78) (by decide +kernel)) (by decide +kernel)
theorem wd_1520 : (Jvm.Cond.lays "StrataBaseModel" "StrataBaseModel" "ran" "Z") ∈ tblG := rn_7 (List.mem_of_getElem? (i := 80) (by decide +kernel)) (by decide +kernel)
theorem wd_1522 : (Jvm.Cond.laysFinal "StrataBaseModel" "StrataBaseModel" "factPred" "[I") ∈ tblG := rn_7 (List.mem_of_getElem? (i := 82) (by decide +kernel)) (by decide +kernel)
theorem wd_1524 : (Jvm.Cond.laysFinal "StrataBaseModel" "StrataBaseModel" "factTerms" "[I") ∈ tblG := rn_7 (List.mem_of_getElem? (i := 84) (by decide +kernel)) (by decide +kernel)
theorem wd_1526 : (Jvm.Cond.laysFinal "StrataBaseModel" "StrataBaseModel" "factStage" "[I") ∈ tblG := rn_7 (List.mem_of_getElem? (i := 86) (by decide +kernel)) (by decide +kernel)
theorem wd_1528 : (Jvm.Cond.lays "StrataBaseModel" "StrataBaseModel" "facts" "I") ∈ tblG := rn_7 (List.mem_of_getElem? (i := 88) (by decide +kernel)) (by decide +kernel)
theorem wd_1530 : (Jvm.Cond.lays "StrataBaseModel" "StrataBaseModel" "lastStage" "I") ∈ tblG := rn_7 (List.mem_of_getElem? (i := 90) (by decide +kernel)) (by decide +kernel)
theorem wd_1532 : (Jvm.Cond.laysFinal "StrataBaseModel" "StrataBaseModel" "table" "[I") ∈ tblG := rn_7 (List.mem_of_getElem? (i := 92) (by decide +kernel)) (by decide +kernel)
theorem wd_1534 : (Jvm.Cond.laysFinal "StrataBaseModel" "StrataBaseModel" "sought" "[I") ∈ tblG := rn_7 (List.mem_of_getElem? (i := 94) (by decide +kernel)) (by decide +kernel)
theorem wd_1536 : (Jvm.Cond.lays "StrataBaseModel" "StrataBaseModel" "place" "I") ∈ tblG := rn_7 (List.mem_of_getElem? (i := 96) (by decide +kernel)) (by decide +kernel)
theorem wd_1538 : (Jvm.Cond.laysFinal "StrataBaseModel" "StrataBaseModel" "values" "[I") ∈ tblG := rn_7 (List.mem_of_getElem? (i := 98) (by decide +kernel)) (by decide +kernel)
theorem wd_1540 : (Jvm.Cond.laysFinal "StrataBaseModel" "StrataBaseModel" "boundBy" "[I") ∈ tblG := rn_7 (List.mem_of_getElem? (i := 100) (by decide +kernel)) (by decide +kernel)
theorem wd_1542 : (Jvm.Cond.laysFinal "StrataBaseModel" "StrataBaseModel" "atoms" "[I") ∈ tblG := rn_7 (List.mem_of_getElem? (i := 102) (by decide +kernel)) (by decide +kernel)
theorem wd_1544 : (Jvm.Cond.laysFinal "StrataBaseModel" "StrataBaseModel" "at" "[I") ∈ tblG := rn_7 (List.mem_of_getElem? (i := 104) (by decide +kernel)) (by decide +kernel)
theorem wd_1546 : (Jvm.Cond.lays "StrataBaseModel" "StrataBaseModel" "atomCount" "I") ∈ tblG := rn_7 (List.mem_of_getElem? (i := 106) (by decide +kernel)) (by decide +kernel)
theorem wd_1548 : (Jvm.Cond.laysFinal "StrataBaseModel" "StrataBaseModel" "rowCells" "[I") ∈ tblG := rn_7 (List.mem_of_getElem? (i := 108) (by decide +kernel)) (by decide +kernel)
theorem wd_1550 : (Jvm.Cond.lays "StrataBaseModel" "StrataBaseModel" "rows" "I") ∈ tblG := rn_7 (List.mem_of_getElem? (i := 110) (by decide +kernel)) (by decide +kernel)
theorem wd_1552 : (Jvm.Cond.lays "StrataBaseModel" "StrataBaseModel" "width" "I") ∈ tblG := rn_7 (List.mem_of_getElem? (i := 112) (by decide +kernel)) (by decide +kernel)
theorem wd_1554 : (Jvm.Cond.laysFinal "StrataBaseModel" "StrataBaseModel" "newCells" "[I") ∈ tblG := rn_7 (List.mem_of_getElem? (i := 114) (by decide +kernel)) (by decide +kernel)
theorem wd_1556 : (Jvm.Cond.lays "StrataBaseModel" "StrataBaseModel" "newRows" "I") ∈ tblG := rn_7 (List.mem_of_getElem? (i := 116) (by decide +kernel)) (by decide +kernel)
theorem wd_1558 : (Jvm.Cond.lays "StrataBaseModel" "StrataBaseModel" "newWidth" "I") ∈ tblG := rn_7 (List.mem_of_getElem? (i := 118) (by decide +kernel)) (by decide +kernel)
theorem wd_1560 : (Jvm.Cond.laysFinal "StrataBaseModel" "StrataBaseModel" "newColumns" "[I") ∈ tblG := rn_7 (List.mem_of_getElem? (i := 120) (by decide +kernel)) (by decide +kernel)
theorem wd_1563 : (Jvm.Cond.arrayClass Jvm.ClassFile.FieldType.boolean) ∈ tblG := rn_7 (List.mem_of_getElem? (i := 123) (by decide +kernel)) (by decide +kernel)
theorem wd_1564 : (Jvm.Cond.methodLink "StrataBaseLaw" (61 : Nat) ({ cls := "StrataBaseModel", name := "thrown", desc := "()I" } : Jvm.MethodName)) ∈ tblG := rn_7 (List.mem_of_getElem? (i := 124) (by decide +kernel)) (by decide +kernel)
theorem wd_1565 : (Jvm.Cond.instanceMethod ({ cls := "StrataBaseModel", name := "thrown", desc := "()I" } : Jvm.MethodName)) ∈ tblG := rn_7 (List.mem_of_getElem? (i := 125) (by decide +kernel)) (by decide +kernel)
theorem wd_1566 : (Jvm.Cond.selects "StrataBaseModel" ({ cls := "StrataBaseModel", name := "thrown", desc := "()I" } : Jvm.MethodName) ({ cls := "StrataBaseModel", name := "thrown", desc := "()I" } : Jvm.MethodName)) ∈ tblG := rn_7 (List.mem_of_getElem? (i := 126) (by decide +kernel)) (by decide +kernel)
theorem wd_1567 : (Jvm.Cond.code ({ cls := "StrataBaseModel", name := "thrown", desc := "()I" } : Jvm.MethodName) prog_14_method_2_code (1 : Nat) (Option.some Jvm.ClassFile.FieldType.int)) ∈ tblG := rn_7 (List.mem_of_getElem? (i := 127) (by decide +kernel)) (by decide +kernel)
theorem wd_1568 : (Jvm.Cond.methodLink "StrataBaseLaw" (60 : Nat) ({ cls := "StrataBaseModel", name := "feed", desc := "(IIIII)I" } : Jvm.MethodName)) ∈ tblG := rn_7 (List.mem_of_getElem? (i := 128) (by decide +kernel)) (by decide +kernel)
theorem wd_1569 : (Jvm.Cond.instanceMethod ({ cls := "StrataBaseModel", name := "feed", desc := "(IIIII)I" } : Jvm.MethodName)) ∈ tblG := rn_7 (List.mem_of_getElem? (i := 129) (by decide +kernel)) (by decide +kernel)
theorem wd_1570 : (Jvm.Cond.selects "StrataBaseModel" ({ cls := "StrataBaseModel", name := "feed", desc := "(IIIII)I" } : Jvm.MethodName) ({ cls := "StrataBaseModel", name := "feed", desc := "(IIIII)I" } : Jvm.MethodName)) ∈ tblG := rn_7 (List.mem_of_getElem? (i := 130) (by decide +kernel)) (by decide +kernel)
theorem wd_1571 : (Jvm.Cond.code ({ cls := "StrataBaseModel", name := "feed", desc := "(IIIII)I" } : Jvm.MethodName) prog_14_method_3_code (8 : Nat) (Option.some Jvm.ClassFile.FieldType.int)) ∈ tblG := rn_7 (List.mem_of_getElem? (i := 131) (by decide +kernel)) (by decide +kernel)
theorem wd_1572 : (Jvm.Cond.methodLink "StrataBaseLaw" (67 : Nat) ({ cls := "StrataBaseModel", name := "end", desc := "(I)V" } : Jvm.MethodName)) ∈ tblG := rn_7 (List.mem_of_getElem? (i := 132) (by decide +kernel)) (by decide +kernel)
theorem wd_1573 : (Jvm.Cond.instanceMethod ({ cls := "StrataBaseModel", name := "end", desc := "(I)V" } : Jvm.MethodName)) ∈ tblG := rn_7 (List.mem_of_getElem? (i := 133) (by decide +kernel)) (by decide +kernel)
theorem wd_1574 : (Jvm.Cond.selects "StrataBaseModel" ({ cls := "StrataBaseModel", name := "end", desc := "(I)V" } : Jvm.MethodName) ({ cls := "StrataBaseModel", name := "end", desc := "(I)V" } : Jvm.MethodName)) ∈ tblG := rn_7 (List.mem_of_getElem? (i := 134) (by decide +kernel)) (by decide +kernel)
theorem wd_1575 : (Jvm.Cond.code ({ cls := "StrataBaseModel", name := "end", desc := "(I)V" } : Jvm.MethodName) prog_14_method_4_code (2 : Nat) (Option.none : Option Jvm.ClassFile.FieldType)) ∈ tblG := rn_7 (List.mem_of_getElem? (i := 135) (by decide +kernel)) (by decide +kernel)
theorem wd_1576 : (Jvm.Cond.methodLink "StrataBaseLaw" (75 : Nat) ({ cls := "StrataBaseModel", name := "fault", desc := "()I" } : Jvm.MethodName)) ∈ tblG := rn_7 (List.mem_of_getElem? (i := 136) (by decide +kernel)) (by decide +kernel)
theorem wd_1577 : (Jvm.Cond.instanceMethod ({ cls := "StrataBaseModel", name := "fault", desc := "()I" } : Jvm.MethodName)) ∈ tblG := rn_7 (List.mem_of_getElem? (i := 137) (by decide +kernel)) (by decide +kernel)
theorem wd_1578 : (Jvm.Cond.selects "StrataBaseModel" ({ cls := "StrataBaseModel", name := "fault", desc := "()I" } : Jvm.MethodName) ({ cls := "StrataBaseModel", name := "fault", desc := "()I" } : Jvm.MethodName)) ∈ tblG := rn_7 (List.mem_of_getElem? (i := 138) (by decide +kernel)) (by decide +kernel)
theorem wd_1579 : (Jvm.Cond.code ({ cls := "StrataBaseModel", name := "fault", desc := "()I" } : Jvm.MethodName) prog_14_method_5_code (1 : Nat) (Option.some Jvm.ClassFile.FieldType.int)) ∈ tblG := rn_7 (List.mem_of_getElem? (i := 139) (by decide +kernel)) (by decide +kernel)
theorem wd_1580 : (Jvm.Cond.methodLink "StrataBaseLaw" (71 : Nat) ({ cls := "StrataBaseModel", name := "load", desc := "()I" } : Jvm.MethodName)) ∈ tblG := rn_7 (List.mem_of_getElem? (i := 140) (by decide +kernel)) (by decide +kernel)
theorem wd_1581 : (Jvm.Cond.instanceMethod ({ cls := "StrataBaseModel", name := "load", desc := "()I" } : Jvm.MethodName)) ∈ tblG := rn_7 (List.mem_of_getElem? (i := 141) (by decide +kernel)) (by decide +kernel)
theorem wd_1582 : (Jvm.Cond.selects "StrataBaseModel" ({ cls := "StrataBaseModel", name := "load", desc := "()I" } : Jvm.MethodName) ({ cls := "StrataBaseModel", name := "load", desc := "()I" } : Jvm.MethodName)) ∈ tblG := rn_7 (List.mem_of_getElem? (i := 142) (by decide +kernel)) (by decide +kernel)
theorem wd_1583 : (Jvm.Cond.code ({ cls := "StrataBaseModel", name := "load", desc := "()I" } : Jvm.MethodName) prog_14_method_36_code (2 : Nat) (Option.some Jvm.ClassFile.FieldType.int)) ∈ tblG := rn_7 (List.mem_of_getElem? (i := 143) (by decide +kernel)) (by decide +kernel)
theorem wd_1584 : (Jvm.Cond.methodLink "StrataBaseModel" (274 : Nat) ({ cls := "StrataBaseModel", name := "starts", desc := "(I)Z" } : Jvm.MethodName)) ∈ tblG := rn_7 (List.mem_of_getElem? (i := 144) (by decide +kernel)) (by decide +kernel)
theorem wd_1586 : (Jvm.Cond.instanceMethod ({ cls := "StrataBaseModel", name := "starts", desc := "(I)Z" } : Jvm.MethodName)) ∈ tblG := rn_7 (List.mem_of_getElem? (i := 146) (by decide +kernel)) (by decide +kernel)
theorem wd_1587 : (Jvm.Cond.code ({ cls := "StrataBaseModel", name := "starts", desc := "(I)Z" } : Jvm.MethodName) prog_14_method_12_code (4 : Nat) (Option.some Jvm.ClassFile.FieldType.boolean)) ∈ tblG := rn_7 (List.mem_of_getElem? (i := 147) (by decide +kernel)) (by decide +kernel)
theorem wd_1588 : (Jvm.Cond.methodLink "StrataBaseModel" (154 : Nat) ({ cls := "StrataBaseModel", name := "next", desc := "()Z" } : Jvm.MethodName)) ∈ tblG := rn_7 (List.mem_of_getElem? (i := 148) (by decide +kernel)) (by decide +kernel)
theorem wd_1590 : (Jvm.Cond.instanceMethod ({ cls := "StrataBaseModel", name := "next", desc := "()Z" } : Jvm.MethodName)) ∈ tblG := rn_7 (List.mem_of_getElem? (i := 150) (by decide +kernel)) (by decide +kernel)
theorem wd_1591 : (Jvm.Cond.code ({ cls := "StrataBaseModel", name := "next", desc := "()Z" } : Jvm.MethodName) prog_14_method_13_code (5 : Nat) (Option.some Jvm.ClassFile.FieldType.boolean)) ∈ tblG := rn_7 (List.mem_of_getElem? (i := 151) (by decide +kernel)) (by decide +kernel)
theorem wd_1592 : (Jvm.Cond.methodLink "StrataBaseModel" (161 : Nat) ({ cls := "StrataBaseModel", name := "at", desc := "(I)I" } : Jvm.MethodName)) ∈ tblG := rn_7 (List.mem_of_getElem? (i := 152) (by decide +kernel)) (by decide +kernel)
theorem wd_1594 : (Jvm.Cond.instanceMethod ({ cls := "StrataBaseModel", name := "at", desc := "(I)I" } : Jvm.MethodName)) ∈ tblG := rn_7 (List.mem_of_getElem? (i := 154) (by decide +kernel)) (by decide +kernel)
theorem wd_1595 : (Jvm.Cond.code ({ cls := "StrataBaseModel", name := "at", desc := "(I)I" } : Jvm.MethodName) prog_14_method_7_code (2 : Nat) (Option.some Jvm.ClassFile.FieldType.int)) ∈ tblG := rn_7 (List.mem_of_getElem? (i := 155) (by decide +kernel)) (by decide +kernel)
theorem wd_1596 : (Jvm.Cond.methodLink "StrataBaseModel" (164 : Nat) ({ cls := "StrataBaseModel", name := "isBlank", desc := "(I)Z" } : Jvm.MethodName)) ∈ tblG := rn_7 (List.mem_of_getElem? (i := 156) (by decide +kernel)) (by decide +kernel)
theorem wd_1597 : (Jvm.Cond.static ({ cls := "StrataBaseModel", name := "isBlank", desc := "(I)Z" } : Jvm.MethodName)) ∈ tblG := rn_7 (List.mem_of_getElem? (i := 157) (by decide +kernel)) (by decide +kernel)
theorem wd_1598 : (Jvm.Cond.code ({ cls := "StrataBaseModel", name := "isBlank", desc := "(I)Z" } : Jvm.MethodName) prog_14_method_11_code (1 : Nat) (Option.some Jvm.ClassFile.FieldType.boolean)) ∈ tblG := rn_7 (List.mem_of_getElem? (i := 158) (by decide +kernel)) (by decide +kernel)
theorem wd_1599 : (Jvm.Cond.methodLink "StrataBaseModel" (170 : Nat) ({ cls := "StrataBaseModel", name := "isWord", desc := "(I)Z" } : Jvm.MethodName)) ∈ tblG := rn_7 (List.mem_of_getElem? (i := 159) (by decide +kernel)) (by decide +kernel)
theorem wd_1600 : (Jvm.Cond.static ({ cls := "StrataBaseModel", name := "isWord", desc := "(I)Z" } : Jvm.MethodName)) ∈ tblG := rn_7 (List.mem_of_getElem? (i := 160) (by decide +kernel)) (by decide +kernel)
theorem wd_1601 : (Jvm.Cond.code ({ cls := "StrataBaseModel", name := "isWord", desc := "(I)Z" } : Jvm.MethodName) prog_14_method_10_code (1 : Nat) (Option.some Jvm.ClassFile.FieldType.boolean)) ∈ tblG := rn_7 (List.mem_of_getElem? (i := 161) (by decide +kernel)) (by decide +kernel)
theorem wd_1602 : (Jvm.Cond.methodLink "StrataBaseModel" (144 : Nat) ({ cls := "StrataBaseModel", name := "isDigit", desc := "(I)Z" } : Jvm.MethodName)) ∈ tblG := rn_7 (List.mem_of_getElem? (i := 162) (by decide +kernel)) (by decide +kernel)
theorem wd_1603 : (Jvm.Cond.static ({ cls := "StrataBaseModel", name := "isDigit", desc := "(I)Z" } : Jvm.MethodName)) ∈ tblG := rn_7 (List.mem_of_getElem? (i := 163) (by decide +kernel)) (by decide +kernel)
theorem wd_1604 : (Jvm.Cond.code ({ cls := "StrataBaseModel", name := "isDigit", desc := "(I)Z" } : Jvm.MethodName) prog_14_method_8_code (1 : Nat) (Option.some Jvm.ClassFile.FieldType.boolean)) ∈ tblG := rn_7 (List.mem_of_getElem? (i := 164) (by decide +kernel)) (by decide +kernel)
theorem wd_1605 : (Jvm.Cond.methodLink "StrataBaseModel" (148 : Nat) ({ cls := "StrataBaseModel", name := "isSmall", desc := "(I)Z" } : Jvm.MethodName)) ∈ tblG := rn_7 (List.mem_of_getElem? (i := 165) (by decide +kernel)) (by decide +kernel)
theorem wd_1606 : (Jvm.Cond.static ({ cls := "StrataBaseModel", name := "isSmall", desc := "(I)Z" } : Jvm.MethodName)) ∈ tblG := rn_7 (List.mem_of_getElem? (i := 166) (by decide +kernel)) (by decide +kernel)
theorem wd_1607 : (Jvm.Cond.code ({ cls := "StrataBaseModel", name := "isSmall", desc := "(I)Z" } : Jvm.MethodName) prog_14_method_9_code (1 : Nat) (Option.some Jvm.ClassFile.FieldType.boolean)) ∈ tblG := rn_7 (List.mem_of_getElem? (i := 167) (by decide +kernel)) (by decide +kernel)
theorem wd_1608 : (Jvm.Cond.methodLink "StrataBaseModel" (173 : Nat) ({ cls := "StrataBaseModel", name := "figure", desc := "(Z)Z" } : Jvm.MethodName)) ∈ tblG := rn_7 (List.mem_of_getElem? (i := 168) (by decide +kernel)) (by decide +kernel)
theorem wd_1610 : (Jvm.Cond.instanceMethod ({ cls := "StrataBaseModel", name := "figure", desc := "(Z)Z" } : Jvm.MethodName)) ∈ tblG := rn_7 (List.mem_of_getElem? (i := 170) (by decide +kernel)) (by decide +kernel)
theorem wd_1611 : (Jvm.Cond.code ({ cls := "StrataBaseModel", name := "figure", desc := "(Z)Z" } : Jvm.MethodName) prog_14_method_14_code (2 : Nat) (Option.some Jvm.ClassFile.FieldType.boolean)) ∈ tblG := rn_7 (List.mem_of_getElem? (i := 171) (by decide +kernel)) (by decide +kernel)
theorem wd_1612 : (Jvm.Cond.constantLong "StrataBaseModel" (185 : Nat) (3000000000 : Int64)) ∈ tblG := rn_7 (List.mem_of_getElem? (i := 172) (by decide +kernel)) (by decide +kernel)
theorem wd_1613 : (Jvm.Cond.constantLong "StrataBaseModel" (187 : Nat) (10 : Int64)) ∈ tblG := rn_7 (List.mem_of_getElem? (i := 173) (by decide +kernel)) (by decide +kernel)
theorem wd_1614 : (Jvm.Cond.constantLong "StrataBaseModel" (189 : Nat) (48 : Int64)) ∈ tblG := rn_7 (List.mem_of_getElem? (i := 174) (by decide +kernel)) (by decide +kernel)
theorem wd_1615 : (Jvm.Cond.constantLong "StrataBaseModel" (191 : Nat) (-2147483648 : Int64)) ∈ tblG := rn_7 (List.mem_of_getElem? (i := 175) (by decide +kernel)) (by decide +kernel)
theorem wd_1616 : (Jvm.Cond.constantLong "StrataBaseModel" (193 : Nat) (2147483647 : Int64)) ∈ tblG := rn_7 (List.mem_of_getElem? (i := 176) (by decide +kernel)) (by decide +kernel)
theorem wd_1617 : (Jvm.Cond.methodLink "StrataBaseModel" (177 : Nat) ({ cls := "StrataBaseModel", name := "flaw", desc := "(II)Z" } : Jvm.MethodName)) ∈ tblG := rn_7 (List.mem_of_getElem? (i := 177) (by decide +kernel)) (by decide +kernel)
theorem wd_1619 : (Jvm.Cond.instanceMethod ({ cls := "StrataBaseModel", name := "flaw", desc := "(II)Z" } : Jvm.MethodName)) ∈ tblG := rn_7 (List.mem_of_getElem? (i := 179) (by decide +kernel)) (by decide +kernel)
theorem wd_1620 : (Jvm.Cond.code ({ cls := "StrataBaseModel", name := "flaw", desc := "(II)Z" } : Jvm.MethodName) prog_14_method_6_code (3 : Nat) (Option.some Jvm.ClassFile.FieldType.boolean)) ∈ tblG := rn_7 (List.mem_of_getElem? (i := 180) (by decide +kernel)) (by decide +kernel)
theorem wd_1621 : (Jvm.Cond.methodLink "StrataBaseModel" (277 : Nat) ({ cls := "StrataBaseModel", name := "readClauses", desc := "()Z" } : Jvm.MethodName)) ∈ tblG := rn_7 (List.mem_of_getElem? (i := 181) (by decide +kernel)) (by decide +kernel)
theorem wd_1623 : (Jvm.Cond.instanceMethod ({ cls := "StrataBaseModel", name := "readClauses", desc := "()Z" } : Jvm.MethodName)) ∈ tblG := rn_7 (List.mem_of_getElem? (i := 183) (by decide +kernel)) (by decide +kernel)
theorem wd_1624 : (Jvm.Cond.code ({ cls := "StrataBaseModel", name := "readClauses", desc := "()Z" } : Jvm.MethodName) prog_14_method_28_code (1 : Nat) (Option.some Jvm.ClassFile.FieldType.boolean)) ∈ tblG := rn_7 (List.mem_of_getElem? (i := 184) (by decide +kernel)) (by decide +kernel)
theorem wd_1625 : (Jvm.Cond.methodLink "StrataBaseModel" (224 : Nat) ({ cls := "StrataBaseModel", name := "cannot", desc := "()Z" } : Jvm.MethodName)) ∈ tblG := rn_7 (List.mem_of_getElem? (i := 185) (by decide +kernel)) (by decide +kernel)
theorem wd_1627 : (Jvm.Cond.instanceMethod ({ cls := "StrataBaseModel", name := "cannot", desc := "()Z" } : Jvm.MethodName)) ∈ tblG := rn_7 (List.mem_of_getElem? (i := 187) (by decide +kernel)) (by decide +kernel)
theorem wd_1628 : (Jvm.Cond.code ({ cls := "StrataBaseModel", name := "cannot", desc := "()Z" } : Jvm.MethodName) prog_14_method_21_code (1 : Nat) (Option.some Jvm.ClassFile.FieldType.boolean)) ∈ tblG := rn_7 (List.mem_of_getElem? (i := 188) (by decide +kernel)) (by decide +kernel)
theorem wd_1629 : (Jvm.Cond.methodLink "StrataBaseModel" (240 : Nat) ({ cls := "StrataBaseModel", name := "atom", desc := "(II)Z" } : Jvm.MethodName)) ∈ tblG := rn_7 (List.mem_of_getElem? (i := 189) (by decide +kernel)) (by decide +kernel)
theorem wd_1631 : (Jvm.Cond.instanceMethod ({ cls := "StrataBaseModel", name := "atom", desc := "(II)Z" } : Jvm.MethodName)) ∈ tblG := rn_7 (List.mem_of_getElem? (i := 191) (by decide +kernel)) (by decide +kernel)
theorem wd_1632 : (Jvm.Cond.code ({ cls := "StrataBaseModel", name := "atom", desc := "(II)Z" } : Jvm.MethodName) prog_14_method_24_code (3 : Nat) (Option.some Jvm.ClassFile.FieldType.boolean)) ∈ tblG := rn_7 (List.mem_of_getElem? (i := 192) (by decide +kernel)) (by decide +kernel)
theorem wd_1633 : (Jvm.Cond.methodLink "StrataBaseModel" (234 : Nat) ({ cls := "StrataBaseModel", name := "name", desc := "(II)Z" } : Jvm.MethodName)) ∈ tblG := rn_7 (List.mem_of_getElem? (i := 193) (by decide +kernel)) (by decide +kernel)
theorem wd_1635 : (Jvm.Cond.instanceMethod ({ cls := "StrataBaseModel", name := "name", desc := "(II)Z" } : Jvm.MethodName)) ∈ tblG := rn_7 (List.mem_of_getElem? (i := 195) (by decide +kernel)) (by decide +kernel)
theorem wd_1636 : (Jvm.Cond.code ({ cls := "StrataBaseModel", name := "name", desc := "(II)Z" } : Jvm.MethodName) prog_14_method_23_code (4 : Nat) (Option.some Jvm.ClassFile.FieldType.boolean)) ∈ tblG := rn_7 (List.mem_of_getElem? (i := 196) (by decide +kernel)) (by decide +kernel)
theorem wd_1637 : (Jvm.Cond.methodLink "StrataBaseModel" (230 : Nat) ({ cls := "StrataBaseModel", name := "predicate", desc := "()I" } : Jvm.MethodName)) ∈ tblG := rn_7 (List.mem_of_getElem? (i := 197) (by decide +kernel)) (by decide +kernel)
theorem wd_1639 : (Jvm.Cond.instanceMethod ({ cls := "StrataBaseModel", name := "predicate", desc := "()I" } : Jvm.MethodName)) ∈ tblG := rn_7 (List.mem_of_getElem? (i := 199) (by decide +kernel)) (by decide +kernel)
theorem wd_1640 : (Jvm.Cond.code ({ cls := "StrataBaseModel", name := "predicate", desc := "()I" } : Jvm.MethodName) prog_14_method_16_code (3 : Nat) (Option.some Jvm.ClassFile.FieldType.int)) ∈ tblG := rn_7 (List.mem_of_getElem? (i := 200) (by decide +kernel)) (by decide +kernel)
theorem wd_1641 : (Jvm.Cond.methodLink "StrataBaseModel" (198 : Nat) ({ cls := "StrataBaseModel", name := "isSame", desc := "(III)Z" } : Jvm.MethodName)) ∈ tblG := rn_7 (List.mem_of_getElem? (i := 201) (by decide +kernel)) (by decide +kernel)
theorem wd_1643 : (Jvm.Cond.instanceMethod ({ cls := "StrataBaseModel", name := "isSame", desc := "(III)Z" } : Jvm.MethodName)) ∈ tblG := rn_7 (List.mem_of_getElem? (i := 203) (by decide +kernel)) (by decide +kernel)
theorem wd_1644 : (Jvm.Cond.code ({ cls := "StrataBaseModel", name := "isSame", desc := "(III)Z" } : Jvm.MethodName) prog_14_method_15_code (5 : Nat) (Option.some Jvm.ClassFile.FieldType.boolean)) ∈ tblG := rn_7 (List.mem_of_getElem? (i := 204) (by decide +kernel)) (by decide +kernel)
theorem wd_1645 : (Jvm.Cond.methodLink "StrataBaseModel" (218 : Nat) ({ cls := "StrataBaseModel", name := "literal", desc := "(I)I" } : Jvm.MethodName)) ∈ tblG := rn_7 (List.mem_of_getElem? (i := 205) (by decide +kernel)) (by decide +kernel)
theorem wd_1647 : (Jvm.Cond.instanceMethod ({ cls := "StrataBaseModel", name := "literal", desc := "(I)I" } : Jvm.MethodName)) ∈ tblG := rn_7 (List.mem_of_getElem? (i := 207) (by decide +kernel)) (by decide +kernel)
theorem wd_1648 : (Jvm.Cond.code ({ cls := "StrataBaseModel", name := "literal", desc := "(I)I" } : Jvm.MethodName) prog_14_method_18_code (2 : Nat) (Option.some Jvm.ClassFile.FieldType.int)) ∈ tblG := rn_7 (List.mem_of_getElem? (i := 208) (by decide +kernel)) (by decide +kernel)
theorem wd_1649 : (Jvm.Cond.methodLink "StrataBaseModel" (237 : Nat) ({ cls := "StrataBaseModel", name := "terms", desc := "(I)Z" } : Jvm.MethodName)) ∈ tblG := rn_7 (List.mem_of_getElem? (i := 209) (by decide +kernel)) (by decide +kernel)
theorem wd_1651 : (Jvm.Cond.instanceMethod ({ cls := "StrataBaseModel", name := "terms", desc := "(I)Z" } : Jvm.MethodName)) ∈ tblG := rn_7 (List.mem_of_getElem? (i := 211) (by decide +kernel)) (by decide +kernel)
theorem wd_1652 : (Jvm.Cond.code ({ cls := "StrataBaseModel", name := "terms", desc := "(I)Z" } : Jvm.MethodName) prog_14_method_22_code (4 : Nat) (Option.some Jvm.ClassFile.FieldType.boolean)) ∈ tblG := rn_7 (List.mem_of_getElem? (i := 212) (by decide +kernel)) (by decide +kernel)
theorem wd_1653 : (Jvm.Cond.methodLink "StrataBaseModel" (221 : Nat) ({ cls := "StrataBaseModel", name := "isTerm", desc := "()Z" } : Jvm.MethodName)) ∈ tblG := rn_7 (List.mem_of_getElem? (i := 213) (by decide +kernel)) (by decide +kernel)
theorem wd_1655 : (Jvm.Cond.instanceMethod ({ cls := "StrataBaseModel", name := "isTerm", desc := "()Z" } : Jvm.MethodName)) ∈ tblG := rn_7 (List.mem_of_getElem? (i := 215) (by decide +kernel)) (by decide +kernel)
theorem wd_1656 : (Jvm.Cond.code ({ cls := "StrataBaseModel", name := "isTerm", desc := "()Z" } : Jvm.MethodName) prog_14_method_20_code (1 : Nat) (Option.some Jvm.ClassFile.FieldType.boolean)) ∈ tblG := rn_7 (List.mem_of_getElem? (i := 216) (by decide +kernel)) (by decide +kernel)
theorem wd_1657 : (Jvm.Cond.methodLink "StrataBaseModel" (227 : Nat) ({ cls := "StrataBaseModel", name := "term", desc := "(II)Z" } : Jvm.MethodName)) ∈ tblG := rn_7 (List.mem_of_getElem? (i := 217) (by decide +kernel)) (by decide +kernel)
theorem wd_1659 : (Jvm.Cond.instanceMethod ({ cls := "StrataBaseModel", name := "term", desc := "(II)Z" } : Jvm.MethodName)) ∈ tblG := rn_7 (List.mem_of_getElem? (i := 219) (by decide +kernel)) (by decide +kernel)
theorem wd_1660 : (Jvm.Cond.code ({ cls := "StrataBaseModel", name := "term", desc := "(II)Z" } : Jvm.MethodName) prog_14_method_19_code (6 : Nat) (Option.some Jvm.ClassFile.FieldType.boolean)) ∈ tblG := rn_7 (List.mem_of_getElem? (i := 220) (by decide +kernel)) (by decide +kernel)
theorem wd_1661 : (Jvm.Cond.methodLink "StrataBaseModel" (211 : Nat) ({ cls := "StrataBaseModel", name := "constant", desc := "(I)I" } : Jvm.MethodName)) ∈ tblG := rn_7 (List.mem_of_getElem? (i := 221) (by decide +kernel)) (by decide +kernel)
theorem wd_1663 : (Jvm.Cond.instanceMethod ({ cls := "StrataBaseModel", name := "constant", desc := "(I)I" } : Jvm.MethodName)) ∈ tblG := rn_7 (List.mem_of_getElem? (i := 223) (by decide +kernel)) (by decide +kernel)
theorem wd_1664 : (Jvm.Cond.code ({ cls := "StrataBaseModel", name := "constant", desc := "(I)I" } : Jvm.MethodName) prog_14_method_17_code (5 : Nat) (Option.some Jvm.ClassFile.FieldType.int)) ∈ tblG := rn_7 (List.mem_of_getElem? (i := 224) (by decide +kernel)) (by decide +kernel)
theorem wd_1665 : (Jvm.Cond.methodLink "StrataBaseModel" (249 : Nat) ({ cls := "StrataBaseModel", name := "body", desc := "()Z" } : Jvm.MethodName)) ∈ tblG := rn_7 (List.mem_of_getElem? (i := 225) (by decide +kernel)) (by decide +kernel)
theorem wd_1667 : (Jvm.Cond.instanceMethod ({ cls := "StrataBaseModel", name := "body", desc := "()Z" } : Jvm.MethodName)) ∈ tblG := rn_7 (List.mem_of_getElem? (i := 227) (by decide +kernel)) (by decide +kernel)
theorem wd_1668 : (Jvm.Cond.code ({ cls := "StrataBaseModel", name := "body", desc := "()Z" } : Jvm.MethodName) prog_14_method_27_code (3 : Nat) (Option.some Jvm.ClassFile.FieldType.boolean)) ∈ tblG := rn_7 (List.mem_of_getElem? (i := 228) (by decide +kernel)) (by decide +kernel)
theorem wd_1669 : (Jvm.Cond.methodLink "StrataBaseModel" (246 : Nat) ({ cls := "StrataBaseModel", name := "bodyLiteral", desc := "(I)Z" } : Jvm.MethodName)) ∈ tblG := rn_7 (List.mem_of_getElem? (i := 229) (by decide +kernel)) (by decide +kernel)
theorem wd_1671 : (Jvm.Cond.instanceMethod ({ cls := "StrataBaseModel", name := "bodyLiteral", desc := "(I)Z" } : Jvm.MethodName)) ∈ tblG := rn_7 (List.mem_of_getElem? (i := 231) (by decide +kernel)) (by decide +kernel)
theorem wd_1672 : (Jvm.Cond.code ({ cls := "StrataBaseModel", name := "bodyLiteral", desc := "(I)Z" } : Jvm.MethodName) prog_14_method_26_code (6 : Nat) (Option.some Jvm.ClassFile.FieldType.boolean)) ∈ tblG := rn_7 (List.mem_of_getElem? (i := 232) (by decide +kernel)) (by decide +kernel)
theorem wd_1673 : (Jvm.Cond.methodLink "StrataBaseModel" (243 : Nat) ({ cls := "StrataBaseModel", name := "isSign", desc := "()Z" } : Jvm.MethodName)) ∈ tblG := rn_7 (List.mem_of_getElem? (i := 233) (by decide +kernel)) (by decide +kernel)
theorem wd_1675 : (Jvm.Cond.instanceMethod ({ cls := "StrataBaseModel", name := "isSign", desc := "()Z" } : Jvm.MethodName)) ∈ tblG := rn_7 (List.mem_of_getElem? (i := 235) (by decide +kernel)) (by decide +kernel)
theorem wd_1676 : (Jvm.Cond.code ({ cls := "StrataBaseModel", name := "isSign", desc := "()Z" } : Jvm.MethodName) prog_14_method_25_code (1 : Nat) (Option.some Jvm.ClassFile.FieldType.boolean)) ∈ tblG := rn_7 (List.mem_of_getElem? (i := 236) (by decide +kernel)) (by decide +kernel)
theorem wd_1677 : (Jvm.Cond.constant "StrataBaseModel" (280 : Nat) (2147483647 : Int32)) ∈ tblG := rn_7 (List.mem_of_getElem? (i := 237) (by decide +kernel)) (by decide +kernel)
theorem wd_1678 : (Jvm.Cond.methodLink "StrataBaseModel" (281 : Nat) ({ cls := "StrataBaseModel", name := "arities", desc := "()V" } : Jvm.MethodName)) ∈ tblG := rn_7 (List.mem_of_getElem? (i := 238) (by decide +kernel)) (by decide +kernel)
theorem wd_1680 : (Jvm.Cond.instanceMethod ({ cls := "StrataBaseModel", name := "arities", desc := "()V" } : Jvm.MethodName)) ∈ tblG := rn_8 (List.mem_of_getElem? (i := 0) (by decide +kernel)) (by decide +kernel)
theorem wd_1681 : (Jvm.Cond.code ({ cls := "StrataBaseModel", name := "arities", desc := "()V" } : Jvm.MethodName) prog_14_method_32_code (4 : Nat) (Option.none : Option Jvm.ClassFile.FieldType)) ∈ tblG := rn_8 (List.mem_of_getElem? (i := 1) (by decide +kernel)) (by decide +kernel)
theorem wd_1682 : (Jvm.Cond.methodLink "StrataBaseModel" (261 : Nat) ({ cls := "StrataBaseModel", name := "wrong", desc := "(II)V" } : Jvm.MethodName)) ∈ tblG := rn_8 (List.mem_of_getElem? (i := 2) (by decide +kernel)) (by decide +kernel)
theorem wd_1684 : (Jvm.Cond.instanceMethod ({ cls := "StrataBaseModel", name := "wrong", desc := "(II)V" } : Jvm.MethodName)) ∈ tblG := rn_8 (List.mem_of_getElem? (i := 4) (by decide +kernel)) (by decide +kernel)
theorem wd_1685 : (Jvm.Cond.code ({ cls := "StrataBaseModel", name := "wrong", desc := "(II)V" } : Jvm.MethodName) prog_14_method_29_code (3 : Nat) (Option.none : Option Jvm.ClassFile.FieldType)) ∈ tblG := rn_8 (List.mem_of_getElem? (i := 5) (by decide +kernel)) (by decide +kernel)
theorem wd_1686 : (Jvm.Cond.methodLink "StrataBaseModel" (284 : Nat) ({ cls := "StrataBaseModel", name := "look", desc := "(I)V" } : Jvm.MethodName)) ∈ tblG := rn_8 (List.mem_of_getElem? (i := 6) (by decide +kernel)) (by decide +kernel)
theorem wd_1688 : (Jvm.Cond.instanceMethod ({ cls := "StrataBaseModel", name := "look", desc := "(I)V" } : Jvm.MethodName)) ∈ tblG := rn_8 (List.mem_of_getElem? (i := 8) (by decide +kernel)) (by decide +kernel)
theorem wd_1689 : (Jvm.Cond.code ({ cls := "StrataBaseModel", name := "look", desc := "(I)V" } : Jvm.MethodName) prog_14_method_31_code (7 : Nat) (Option.none : Option Jvm.ClassFile.FieldType)) ∈ tblG := rn_8 (List.mem_of_getElem? (i := 9) (by decide +kernel)) (by decide +kernel)
theorem wd_1690 : (Jvm.Cond.methodLink "StrataBaseModel" (258 : Nat) ({ cls := "StrataBaseModel", name := "isBound", desc := "(I)Z" } : Jvm.MethodName)) ∈ tblG := rn_8 (List.mem_of_getElem? (i := 10) (by decide +kernel)) (by decide +kernel)
theorem wd_1692 : (Jvm.Cond.instanceMethod ({ cls := "StrataBaseModel", name := "isBound", desc := "(I)Z" } : Jvm.MethodName)) ∈ tblG := rn_8 (List.mem_of_getElem? (i := 12) (by decide +kernel)) (by decide +kernel)
theorem wd_1693 : (Jvm.Cond.code ({ cls := "StrataBaseModel", name := "isBound", desc := "(I)Z" } : Jvm.MethodName) prog_14_method_30_code (4 : Nat) (Option.some Jvm.ClassFile.FieldType.boolean)) ∈ tblG := rn_8 (List.mem_of_getElem? (i := 13) (by decide +kernel)) (by decide +kernel)
theorem wd_1694 : (Jvm.Cond.methodLink "StrataBaseModel" (288 : Nat) ({ cls := "StrataBaseModel", name := "isStrata", desc := "()Z" } : Jvm.MethodName)) ∈ tblG := rn_8 (List.mem_of_getElem? (i := 14) (by decide +kernel)) (by decide +kernel)
theorem wd_1696 : (Jvm.Cond.instanceMethod ({ cls := "StrataBaseModel", name := "isStrata", desc := "()Z" } : Jvm.MethodName)) ∈ tblG := rn_8 (List.mem_of_getElem? (i := 16) (by decide +kernel)) (by decide +kernel)
theorem wd_1697 : (Jvm.Cond.code ({ cls := "StrataBaseModel", name := "isStrata", desc := "()Z" } : Jvm.MethodName) prog_14_method_34_code (2 : Nat) (Option.some Jvm.ClassFile.FieldType.boolean)) ∈ tblG := rn_8 (List.mem_of_getElem? (i := 17) (by decide +kernel)) (by decide +kernel)
theorem wd_1698 : (Jvm.Cond.methodLink "StrataBaseModel" (265 : Nat) ({ cls := "StrataBaseModel", name := "dependencies", desc := "()V" } : Jvm.MethodName)) ∈ tblG := rn_8 (List.mem_of_getElem? (i := 18) (by decide +kernel)) (by decide +kernel)
theorem wd_1700 : (Jvm.Cond.instanceMethod ({ cls := "StrataBaseModel", name := "dependencies", desc := "()V" } : Jvm.MethodName)) ∈ tblG := rn_8 (List.mem_of_getElem? (i := 20) (by decide +kernel)) (by decide +kernel)
theorem wd_1701 : (Jvm.Cond.code ({ cls := "StrataBaseModel", name := "dependencies", desc := "()V" } : Jvm.MethodName) prog_14_method_33_code (4 : Nat) (Option.none : Option Jvm.ClassFile.FieldType)) ∈ tblG := rn_8 (List.mem_of_getElem? (i := 21) (by decide +kernel)) (by decide +kernel)
theorem wd_1702 : (Jvm.Cond.methodLink "StrataBaseModel" (291 : Nat) ({ cls := "StrataBaseModel", name := "layStrata", desc := "()V" } : Jvm.MethodName)) ∈ tblG := rn_8 (List.mem_of_getElem? (i := 22) (by decide +kernel)) (by decide +kernel)
theorem wd_1704 : (Jvm.Cond.instanceMethod ({ cls := "StrataBaseModel", name := "layStrata", desc := "()V" } : Jvm.MethodName)) ∈ tblG := rn_8 (List.mem_of_getElem? (i := 24) (by decide +kernel)) (by decide +kernel)
theorem wd_1705 : (Jvm.Cond.code ({ cls := "StrataBaseModel", name := "layStrata", desc := "()V" } : Jvm.MethodName) prog_14_method_35_code (6 : Nat) (Option.none : Option Jvm.ClassFile.FieldType)) ∈ tblG := rn_8 (List.mem_of_getElem? (i := 25) (by decide +kernel)) (by decide +kernel)
theorem wd_1706 : (Jvm.Cond.methodLink "StrataBaseLaw" (79 : Nat) ({ cls := "StrataBaseModel", name := "run", desc := "()I" } : Jvm.MethodName)) ∈ tblG := rn_8 (List.mem_of_getElem? (i := 26) (by decide +kernel)) (by decide +kernel)
theorem wd_1707 : (Jvm.Cond.instanceMethod ({ cls := "StrataBaseModel", name := "run", desc := "()I" } : Jvm.MethodName)) ∈ tblG := rn_8 (List.mem_of_getElem? (i := 27) (by decide +kernel)) (by decide +kernel)
theorem wd_1708 : (Jvm.Cond.selects "StrataBaseModel" ({ cls := "StrataBaseModel", name := "run", desc := "()I" } : Jvm.MethodName) ({ cls := "StrataBaseModel", name := "run", desc := "()I" } : Jvm.MethodName)) ∈ tblG := rn_8 (List.mem_of_getElem? (i := 28) (by decide +kernel)) (by decide +kernel)
theorem wd_1709 : (Jvm.Cond.code ({ cls := "StrataBaseModel", name := "run", desc := "()I" } : Jvm.MethodName) prog_14_method_47_code (3 : Nat) (Option.some Jvm.ClassFile.FieldType.int)) ∈ tblG := rn_8 (List.mem_of_getElem? (i := 29) (by decide +kernel)) (by decide +kernel)
theorem wd_1710 : (Jvm.Cond.methodLink "StrataBaseModel" (349 : Nat) ({ cls := "StrataBaseModel", name := "follow", desc := "(I)Z" } : Jvm.MethodName)) ∈ tblG := rn_8 (List.mem_of_getElem? (i := 30) (by decide +kernel)) (by decide +kernel)
theorem wd_1712 : (Jvm.Cond.instanceMethod ({ cls := "StrataBaseModel", name := "follow", desc := "(I)Z" } : Jvm.MethodName)) ∈ tblG := rn_8 (List.mem_of_getElem? (i := 32) (by decide +kernel)) (by decide +kernel)
theorem wd_1713 : (Jvm.Cond.code ({ cls := "StrataBaseModel", name := "follow", desc := "(I)Z" } : Jvm.MethodName) prog_14_method_46_code (6 : Nat) (Option.some Jvm.ClassFile.FieldType.boolean)) ∈ tblG := rn_8 (List.mem_of_getElem? (i := 33) (by decide +kernel)) (by decide +kernel)
theorem wd_1714 : (Jvm.Cond.methodLink "StrataBaseModel" (345 : Nat) ({ cls := "StrataBaseModel", name := "join", desc := "(IIZ)Z" } : Jvm.MethodName)) ∈ tblG := rn_8 (List.mem_of_getElem? (i := 34) (by decide +kernel)) (by decide +kernel)
theorem wd_1716 : (Jvm.Cond.instanceMethod ({ cls := "StrataBaseModel", name := "join", desc := "(IIZ)Z" } : Jvm.MethodName)) ∈ tblG := rn_8 (List.mem_of_getElem? (i := 36) (by decide +kernel)) (by decide +kernel)
theorem wd_1717 : (Jvm.Cond.code ({ cls := "StrataBaseModel", name := "join", desc := "(IIZ)Z" } : Jvm.MethodName) prog_14_method_44_code (6 : Nat) (Option.some Jvm.ClassFile.FieldType.boolean)) ∈ tblG := rn_8 (List.mem_of_getElem? (i := 37) (by decide +kernel)) (by decide +kernel)
theorem wd_1718 : (Jvm.Cond.methodLink "StrataBaseModel" (327 : Nat) ({ cls := "StrataBaseModel", name := "free", desc := "(I)V" } : Jvm.MethodName)) ∈ tblG := rn_8 (List.mem_of_getElem? (i := 38) (by decide +kernel)) (by decide +kernel)
theorem wd_1720 : (Jvm.Cond.instanceMethod ({ cls := "StrataBaseModel", name := "free", desc := "(I)V" } : Jvm.MethodName)) ∈ tblG := rn_8 (List.mem_of_getElem? (i := 40) (by decide +kernel)) (by decide +kernel)
theorem wd_1721 : (Jvm.Cond.code ({ cls := "StrataBaseModel", name := "free", desc := "(I)V" } : Jvm.MethodName) prog_14_method_40_code (3 : Nat) (Option.none : Option Jvm.ClassFile.FieldType)) ∈ tblG := rn_8 (List.mem_of_getElem? (i := 41) (by decide +kernel)) (by decide +kernel)
theorem wd_1722 : (Jvm.Cond.methodLink "StrataBaseModel" (330 : Nat) ({ cls := "StrataBaseModel", name := "holds", desc := "()Z" } : Jvm.MethodName)) ∈ tblG := rn_8 (List.mem_of_getElem? (i := 42) (by decide +kernel)) (by decide +kernel)
theorem wd_1724 : (Jvm.Cond.instanceMethod ({ cls := "StrataBaseModel", name := "holds", desc := "()Z" } : Jvm.MethodName)) ∈ tblG := rn_8 (List.mem_of_getElem? (i := 44) (by decide +kernel)) (by decide +kernel)
theorem wd_1725 : (Jvm.Cond.code ({ cls := "StrataBaseModel", name := "holds", desc := "()Z" } : Jvm.MethodName) prog_14_method_43_code (9 : Nat) (Option.some Jvm.ClassFile.FieldType.boolean)) ∈ tblG := rn_8 (List.mem_of_getElem? (i := 45) (by decide +kernel)) (by decide +kernel)
theorem wd_1726 : (Jvm.Cond.methodLink "StrataBaseModel" (314 : Nat) ({ cls := "StrataBaseModel", name := "value", desc := "(I)I" } : Jvm.MethodName)) ∈ tblG := rn_8 (List.mem_of_getElem? (i := 46) (by decide +kernel)) (by decide +kernel)
theorem wd_1728 : (Jvm.Cond.instanceMethod ({ cls := "StrataBaseModel", name := "value", desc := "(I)I" } : Jvm.MethodName)) ∈ tblG := rn_8 (List.mem_of_getElem? (i := 48) (by decide +kernel)) (by decide +kernel)
theorem wd_1729 : (Jvm.Cond.code ({ cls := "StrataBaseModel", name := "value", desc := "(I)I" } : Jvm.MethodName) prog_14_method_39_code (2 : Nat) (Option.some Jvm.ClassFile.FieldType.int)) ∈ tblG := rn_8 (List.mem_of_getElem? (i := 49) (by decide +kernel)) (by decide +kernel)
theorem wd_1730 : (Jvm.Cond.methodLink "StrataBaseModel" (317 : Nat) ({ cls := "StrataBaseModel", name := "order", desc := "(II)I" } : Jvm.MethodName)) ∈ tblG := rn_8 (List.mem_of_getElem? (i := 50) (by decide +kernel)) (by decide +kernel)
theorem wd_1732 : (Jvm.Cond.instanceMethod ({ cls := "StrataBaseModel", name := "order", desc := "(II)I" } : Jvm.MethodName)) ∈ tblG := rn_8 (List.mem_of_getElem? (i := 52) (by decide +kernel)) (by decide +kernel)
theorem wd_1733 : (Jvm.Cond.code ({ cls := "StrataBaseModel", name := "order", desc := "(II)I" } : Jvm.MethodName) prog_14_method_42_code (8 : Nat) (Option.some Jvm.ClassFile.FieldType.int)) ∈ tblG := rn_8 (List.mem_of_getElem? (i := 53) (by decide +kernel)) (by decide +kernel)
theorem wd_1734 : (Jvm.Cond.methodLink "StrataBaseModel" (311 : Nat) ({ cls := "StrataBaseModel", name := "arity", desc := "(I)I" } : Jvm.MethodName)) ∈ tblG := rn_8 (List.mem_of_getElem? (i := 54) (by decide +kernel)) (by decide +kernel)
theorem wd_1736 : (Jvm.Cond.instanceMethod ({ cls := "StrataBaseModel", name := "arity", desc := "(I)I" } : Jvm.MethodName)) ∈ tblG := rn_8 (List.mem_of_getElem? (i := 56) (by decide +kernel)) (by decide +kernel)
theorem wd_1737 : (Jvm.Cond.code ({ cls := "StrataBaseModel", name := "arity", desc := "(I)I" } : Jvm.MethodName) prog_14_method_38_code (2 : Nat) (Option.some Jvm.ClassFile.FieldType.int)) ∈ tblG := rn_8 (List.mem_of_getElem? (i := 57) (by decide +kernel)) (by decide +kernel)
theorem wd_1738 : (Jvm.Cond.methodLink "StrataBaseModel" (321 : Nat) ({ cls := "StrataBaseModel", name := "find", desc := "(II)I" } : Jvm.MethodName)) ∈ tblG := rn_8 (List.mem_of_getElem? (i := 58) (by decide +kernel)) (by decide +kernel)
theorem wd_1740 : (Jvm.Cond.instanceMethod ({ cls := "StrataBaseModel", name := "find", desc := "(II)I" } : Jvm.MethodName)) ∈ tblG := rn_8 (List.mem_of_getElem? (i := 60) (by decide +kernel)) (by decide +kernel)
theorem wd_1741 : (Jvm.Cond.code ({ cls := "StrataBaseModel", name := "find", desc := "(II)I" } : Jvm.MethodName) prog_14_method_37_code (7 : Nat) (Option.some Jvm.ClassFile.FieldType.int)) ∈ tblG := rn_8 (List.mem_of_getElem? (i := 61) (by decide +kernel)) (by decide +kernel)
theorem wd_1742 : (Jvm.Cond.constant "StrataBaseModel" (306 : Nat) (40503 : Int32)) ∈ tblG := rn_8 (List.mem_of_getElem? (i := 62) (by decide +kernel)) (by decide +kernel)
theorem wd_1743 : (Jvm.Cond.constant "StrataBaseModel" (307 : Nat) (65535 : Int32)) ∈ tblG := rn_8 (List.mem_of_getElem? (i := 63) (by decide +kernel)) (by decide +kernel)
theorem wd_1744 : (Jvm.Cond.methodLink "StrataBaseModel" (333 : Nat) ({ cls := "StrataBaseModel", name := "row", desc := "()Z" } : Jvm.MethodName)) ∈ tblG := rn_8 (List.mem_of_getElem? (i := 64) (by decide +kernel)) (by decide +kernel)
theorem wd_1746 : (Jvm.Cond.instanceMethod ({ cls := "StrataBaseModel", name := "row", desc := "()Z" } : Jvm.MethodName)) ∈ tblG := rn_8 (List.mem_of_getElem? (i := 66) (by decide +kernel)) (by decide +kernel)
theorem wd_1747 : (Jvm.Cond.code ({ cls := "StrataBaseModel", name := "row", desc := "()Z" } : Jvm.MethodName) prog_14_method_48_code (4 : Nat) (Option.some Jvm.ClassFile.FieldType.boolean)) ∈ tblG := rn_8 (List.mem_of_getElem? (i := 67) (by decide +kernel)) (by decide +kernel)
theorem wd_1748 : (Jvm.Cond.methodLink "StrataBaseModel" (336 : Nat) ({ cls := "StrataBaseModel", name := "fact", desc := "(I)Z" } : Jvm.MethodName)) ∈ tblG := rn_8 (List.mem_of_getElem? (i := 68) (by decide +kernel)) (by decide +kernel)
theorem wd_1750 : (Jvm.Cond.instanceMethod ({ cls := "StrataBaseModel", name := "fact", desc := "(I)Z" } : Jvm.MethodName)) ∈ tblG := rn_8 (List.mem_of_getElem? (i := 70) (by decide +kernel)) (by decide +kernel)
theorem wd_1751 : (Jvm.Cond.code ({ cls := "StrataBaseModel", name := "fact", desc := "(I)Z" } : Jvm.MethodName) prog_14_method_45_code (4 : Nat) (Option.some Jvm.ClassFile.FieldType.boolean)) ∈ tblG := rn_8 (List.mem_of_getElem? (i := 71) (by decide +kernel)) (by decide +kernel)
theorem wd_1752 : (Jvm.Cond.methodLink "StrataBaseModel" (339 : Nat) ({ cls := "StrataBaseModel", name := "isFact", desc := "(III)Z" } : Jvm.MethodName)) ∈ tblG := rn_8 (List.mem_of_getElem? (i := 72) (by decide +kernel)) (by decide +kernel)
theorem wd_1754 : (Jvm.Cond.instanceMethod ({ cls := "StrataBaseModel", name := "isFact", desc := "(III)Z" } : Jvm.MethodName)) ∈ tblG := rn_8 (List.mem_of_getElem? (i := 74) (by decide +kernel)) (by decide +kernel)
theorem wd_1755 : (Jvm.Cond.code ({ cls := "StrataBaseModel", name := "isFact", desc := "(III)Z" } : Jvm.MethodName) prog_14_method_41_code (7 : Nat) (Option.some Jvm.ClassFile.FieldType.boolean)) ∈ tblG := rn_8 (List.mem_of_getElem? (i := 75) (by decide +kernel)) (by decide +kernel)
theorem wd_1756 : (Jvm.Cond.methodLink "StrataBaseLaw" (82 : Nat) ({ cls := "StrataBaseModel", name := "ask", desc := "()I" } : Jvm.MethodName)) ∈ tblG := rn_8 (List.mem_of_getElem? (i := 76) (by decide +kernel)) (by decide +kernel)
theorem wd_1757 : (Jvm.Cond.instanceMethod ({ cls := "StrataBaseModel", name := "ask", desc := "()I" } : Jvm.MethodName)) ∈ tblG := rn_8 (List.mem_of_getElem? (i := 77) (by decide +kernel)) (by decide +kernel)
theorem wd_1758 : (Jvm.Cond.selects "StrataBaseModel" ({ cls := "StrataBaseModel", name := "ask", desc := "()I" } : Jvm.MethodName) ({ cls := "StrataBaseModel", name := "ask", desc := "()I" } : Jvm.MethodName)) ∈ tblG := rn_8 (List.mem_of_getElem? (i := 78) (by decide +kernel)) (by decide +kernel)
theorem wd_1759 : (Jvm.Cond.code ({ cls := "StrataBaseModel", name := "ask", desc := "()I" } : Jvm.MethodName) prog_14_method_53_code (3 : Nat) (Option.some Jvm.ClassFile.FieldType.int)) ∈ tblG := rn_8 (List.mem_of_getElem? (i := 79) (by decide +kernel)) (by decide +kernel)
theorem wd_1760 : (Jvm.Cond.methodLink "StrataBaseModel" (364 : Nat) ({ cls := "StrataBaseModel", name := "beginQuestion", desc := "()V" } : Jvm.MethodName)) ∈ tblG := rn_8 (List.mem_of_getElem? (i := 80) (by decide +kernel)) (by decide +kernel)
theorem wd_1762 : (Jvm.Cond.instanceMethod ({ cls := "StrataBaseModel", name := "beginQuestion", desc := "()V" } : Jvm.MethodName)) ∈ tblG := rn_8 (List.mem_of_getElem? (i := 82) (by decide +kernel)) (by decide +kernel)
theorem wd_1763 : (Jvm.Cond.code ({ cls := "StrataBaseModel", name := "beginQuestion", desc := "()V" } : Jvm.MethodName) prog_14_method_52_code (1 : Nat) (Option.none : Option Jvm.ClassFile.FieldType)) ∈ tblG := rn_8 (List.mem_of_getElem? (i := 83) (by decide +kernel)) (by decide +kernel)
theorem wd_1764 : (Jvm.Cond.constant "StrataBaseModel" (367 : Nat) (131072 : Int32)) ∈ tblG := rn_8 (List.mem_of_getElem? (i := 84) (by decide +kernel)) (by decide +kernel)
theorem wd_1765 : (Jvm.Cond.methodLink "StrataBaseModel" (368 : Nat) ({ cls := "StrataBaseModel", name := "readQuestion", desc := "()Z" } : Jvm.MethodName)) ∈ tblG := rn_8 (List.mem_of_getElem? (i := 85) (by decide +kernel)) (by decide +kernel)
theorem wd_1767 : (Jvm.Cond.instanceMethod ({ cls := "StrataBaseModel", name := "readQuestion", desc := "()Z" } : Jvm.MethodName)) ∈ tblG := rn_8 (List.mem_of_getElem? (i := 87) (by decide +kernel)) (by decide +kernel)
theorem wd_1768 : (Jvm.Cond.code ({ cls := "StrataBaseModel", name := "readQuestion", desc := "()Z" } : Jvm.MethodName) prog_14_method_51_code (1 : Nat) (Option.some Jvm.ClassFile.FieldType.boolean)) ∈ tblG := rn_8 (List.mem_of_getElem? (i := 88) (by decide +kernel)) (by decide +kernel)
theorem wd_1769 : (Jvm.Cond.methodLink "StrataBaseModel" (361 : Nat) ({ cls := "StrataBaseModel", name := "ownArities", desc := "()V" } : Jvm.MethodName)) ∈ tblG := rn_8 (List.mem_of_getElem? (i := 89) (by decide +kernel)) (by decide +kernel)
theorem wd_1771 : (Jvm.Cond.instanceMethod ({ cls := "StrataBaseModel", name := "ownArities", desc := "()V" } : Jvm.MethodName)) ∈ tblG := rn_8 (List.mem_of_getElem? (i := 91) (by decide +kernel)) (by decide +kernel)
theorem wd_1772 : (Jvm.Cond.code ({ cls := "StrataBaseModel", name := "ownArities", desc := "()V" } : Jvm.MethodName) prog_14_method_49_code (6 : Nat) (Option.none : Option Jvm.ClassFile.FieldType)) ∈ tblG := rn_8 (List.mem_of_getElem? (i := 92) (by decide +kernel)) (by decide +kernel)
theorem wd_1773 : (Jvm.Cond.methodLink "StrataBaseModel" (358 : Nat) ({ cls := "StrataBaseModel", name := "isName", desc := "(II)Z" } : Jvm.MethodName)) ∈ tblG := rn_8 (List.mem_of_getElem? (i := 93) (by decide +kernel)) (by decide +kernel)
theorem wd_1775 : (Jvm.Cond.instanceMethod ({ cls := "StrataBaseModel", name := "isName", desc := "(II)Z" } : Jvm.MethodName)) ∈ tblG := rn_8 (List.mem_of_getElem? (i := 95) (by decide +kernel)) (by decide +kernel)
theorem wd_1776 : (Jvm.Cond.code ({ cls := "StrataBaseModel", name := "isName", desc := "(II)Z" } : Jvm.MethodName) prog_14_method_50_code (4 : Nat) (Option.some Jvm.ClassFile.FieldType.boolean)) ∈ tblG := rn_8 (List.mem_of_getElem? (i := 96) (by decide +kernel)) (by decide +kernel)
theorem wd_1777 : (Jvm.Cond.methodLink "StrataBaseModel" (371 : Nat) ({ cls := "StrataBaseModel", name := "sort", desc := "()V" } : Jvm.MethodName)) ∈ tblG := rn_8 (List.mem_of_getElem? (i := 97) (by decide +kernel)) (by decide +kernel)
theorem wd_1779 : (Jvm.Cond.instanceMethod ({ cls := "StrataBaseModel", name := "sort", desc := "()V" } : Jvm.MethodName)) ∈ tblG := rn_8 (List.mem_of_getElem? (i := 99) (by decide +kernel)) (by decide +kernel)
theorem wd_1780 : (Jvm.Cond.code ({ cls := "StrataBaseModel", name := "sort", desc := "()V" } : Jvm.MethodName) prog_14_method_54_code (4 : Nat) (Option.none : Option Jvm.ClassFile.FieldType)) ∈ tblG := rn_8 (List.mem_of_getElem? (i := 100) (by decide +kernel)) (by decide +kernel)
theorem wd_1781 : (Jvm.Cond.methodLink "StrataBaseModel" (374 : Nat) ({ cls := "StrataBaseModel", name := "isBehind", desc := "(II)Z" } : Jvm.MethodName)) ∈ tblG := rn_8 (List.mem_of_getElem? (i := 101) (by decide +kernel)) (by decide +kernel)
theorem wd_1783 : (Jvm.Cond.instanceMethod ({ cls := "StrataBaseModel", name := "isBehind", desc := "(II)Z" } : Jvm.MethodName)) ∈ tblG := rn_8 (List.mem_of_getElem? (i := 103) (by decide +kernel)) (by decide +kernel)
theorem wd_1784 : (Jvm.Cond.code ({ cls := "StrataBaseModel", name := "isBehind", desc := "(II)Z" } : Jvm.MethodName) prog_14_method_55_code (5 : Nat) (Option.some Jvm.ClassFile.FieldType.boolean)) ∈ tblG := rn_8 (List.mem_of_getElem? (i := 104) (by decide +kernel)) (by decide +kernel)
theorem wd_1785 : (Jvm.Cond.methodLink "StrataBaseLaw" (86 : Nat) ({ cls := "StrataBaseModel", name := "columns", desc := "()I" } : Jvm.MethodName)) ∈ tblG := rn_8 (List.mem_of_getElem? (i := 105) (by decide +kernel)) (by decide +kernel)
theorem wd_1786 : (Jvm.Cond.instanceMethod ({ cls := "StrataBaseModel", name := "columns", desc := "()I" } : Jvm.MethodName)) ∈ tblG := rn_8 (List.mem_of_getElem? (i := 106) (by decide +kernel)) (by decide +kernel)
theorem wd_1787 : (Jvm.Cond.selects "StrataBaseModel" ({ cls := "StrataBaseModel", name := "columns", desc := "()I" } : Jvm.MethodName) ({ cls := "StrataBaseModel", name := "columns", desc := "()I" } : Jvm.MethodName)) ∈ tblG := rn_8 (List.mem_of_getElem? (i := 107) (by decide +kernel)) (by decide +kernel)
theorem wd_1788 : (Jvm.Cond.code ({ cls := "StrataBaseModel", name := "columns", desc := "()I" } : Jvm.MethodName) prog_14_method_56_code (1 : Nat) (Option.some Jvm.ClassFile.FieldType.int)) ∈ tblG := rn_8 (List.mem_of_getElem? (i := 108) (by decide +kernel)) (by decide +kernel)
theorem wd_1789 : (Jvm.Cond.methodLink "StrataBaseLaw" (90 : Nat) ({ cls := "StrataBaseModel", name := "isNumber", desc := "(II)Z" } : Jvm.MethodName)) ∈ tblG := rn_8 (List.mem_of_getElem? (i := 109) (by decide +kernel)) (by decide +kernel)
theorem wd_1790 : (Jvm.Cond.instanceMethod ({ cls := "StrataBaseModel", name := "isNumber", desc := "(II)Z" } : Jvm.MethodName)) ∈ tblG := rn_8 (List.mem_of_getElem? (i := 110) (by decide +kernel)) (by decide +kernel)
theorem wd_1791 : (Jvm.Cond.selects "StrataBaseModel" ({ cls := "StrataBaseModel", name := "isNumber", desc := "(II)Z" } : Jvm.MethodName) ({ cls := "StrataBaseModel", name := "isNumber", desc := "(II)Z" } : Jvm.MethodName)) ∈ tblG := rn_8 (List.mem_of_getElem? (i := 111) (by decide +kernel)) (by decide +kernel)
theorem wd_1792 : (Jvm.Cond.code ({ cls := "StrataBaseModel", name := "isNumber", desc := "(II)Z" } : Jvm.MethodName) prog_14_method_58_code (4 : Nat) (Option.some Jvm.ClassFile.FieldType.boolean)) ∈ tblG := rn_8 (List.mem_of_getElem? (i := 112) (by decide +kernel)) (by decide +kernel)
theorem wd_1793 : (Jvm.Cond.methodLink "StrataBaseModel" (377 : Nat) ({ cls := "StrataBaseModel", name := "cell", desc := "(II)I" } : Jvm.MethodName)) ∈ tblG := rn_8 (List.mem_of_getElem? (i := 113) (by decide +kernel)) (by decide +kernel)
theorem wd_1795 : (Jvm.Cond.instanceMethod ({ cls := "StrataBaseModel", name := "cell", desc := "(II)I" } : Jvm.MethodName)) ∈ tblG := rn_8 (List.mem_of_getElem? (i := 115) (by decide +kernel)) (by decide +kernel)
theorem wd_1796 : (Jvm.Cond.code ({ cls := "StrataBaseModel", name := "cell", desc := "(II)I" } : Jvm.MethodName) prog_14_method_57_code (3 : Nat) (Option.some Jvm.ClassFile.FieldType.int)) ∈ tblG := rn_8 (List.mem_of_getElem? (i := 116) (by decide +kernel)) (by decide +kernel)
theorem wd_1797 : (Jvm.Cond.methodLink "StrataBaseLaw" (93 : Nat) ({ cls := "StrataBaseModel", name := "number", desc := "(II)I" } : Jvm.MethodName)) ∈ tblG := rn_8 (List.mem_of_getElem? (i := 117) (by decide +kernel)) (by decide +kernel)
theorem wd_1798 : (Jvm.Cond.instanceMethod ({ cls := "StrataBaseModel", name := "number", desc := "(II)I" } : Jvm.MethodName)) ∈ tblG := rn_8 (List.mem_of_getElem? (i := 118) (by decide +kernel)) (by decide +kernel)
theorem wd_1799 : (Jvm.Cond.selects "StrataBaseModel" ({ cls := "StrataBaseModel", name := "number", desc := "(II)I" } : Jvm.MethodName) ({ cls := "StrataBaseModel", name := "number", desc := "(II)I" } : Jvm.MethodName)) ∈ tblG := rn_8 (List.mem_of_getElem? (i := 119) (by decide +kernel)) (by decide +kernel)
theorem wd_1800 : (Jvm.Cond.code ({ cls := "StrataBaseModel", name := "number", desc := "(II)I" } : Jvm.MethodName) prog_14_method_59_code (4 : Nat) (Option.some Jvm.ClassFile.FieldType.int)) ∈ tblG := rn_8 (List.mem_of_getElem? (i := 120) (by decide +kernel)) (by decide +kernel)
theorem wd_1801 : (Jvm.Cond.methodLink "StrataBaseLaw" (97 : Nat) ({ cls := "StrataBaseModel", name := "letter", desc := "(III)I" } : Jvm.MethodName)) ∈ tblG := rn_8 (List.mem_of_getElem? (i := 121) (by decide +kernel)) (by decide +kernel)
theorem wd_1802 : (Jvm.Cond.instanceMethod ({ cls := "StrataBaseModel", name := "letter", desc := "(III)I" } : Jvm.MethodName)) ∈ tblG := rn_8 (List.mem_of_getElem? (i := 122) (by decide +kernel)) (by decide +kernel)
theorem wd_1803 : (Jvm.Cond.selects "StrataBaseModel" ({ cls := "StrataBaseModel", name := "letter", desc := "(III)I" } : Jvm.MethodName) ({ cls := "StrataBaseModel", name := "letter", desc := "(III)I" } : Jvm.MethodName)) ∈ tblG := rn_8 (List.mem_of_getElem? (i := 123) (by decide +kernel)) (by decide +kernel)
theorem wd_1804 : (Jvm.Cond.code ({ cls := "StrataBaseModel", name := "letter", desc := "(III)I" } : Jvm.MethodName) prog_14_method_60_code (5 : Nat) (Option.some Jvm.ClassFile.FieldType.int)) ∈ tblG := rn_8 (List.mem_of_getElem? (i := 124) (by decide +kernel)) (by decide +kernel)
theorem wd_1805 : (Jvm.Cond.methodLink "StrataBaseLaw" (100 : Nat) ({ cls := "StrataBaseModel", name := "stage", desc := "()I" } : Jvm.MethodName)) ∈ tblG := rn_8 (List.mem_of_getElem? (i := 125) (by decide +kernel)) (by decide +kernel)
theorem wd_1806 : (Jvm.Cond.instanceMethod ({ cls := "StrataBaseModel", name := "stage", desc := "()I" } : Jvm.MethodName)) ∈ tblG := rn_8 (List.mem_of_getElem? (i := 126) (by decide +kernel)) (by decide +kernel)
theorem wd_1807 : (Jvm.Cond.selects "StrataBaseModel" ({ cls := "StrataBaseModel", name := "stage", desc := "()I" } : Jvm.MethodName) ({ cls := "StrataBaseModel", name := "stage", desc := "()I" } : Jvm.MethodName)) ∈ tblG := rn_8 (List.mem_of_getElem? (i := 127) (by decide +kernel)) (by decide +kernel)
theorem wd_1808 : (Jvm.Cond.code ({ cls := "StrataBaseModel", name := "stage", desc := "()I" } : Jvm.MethodName) prog_14_method_61_code (5 : Nat) (Option.some Jvm.ClassFile.FieldType.int)) ∈ tblG := rn_8 (List.mem_of_getElem? (i := 128) (by decide +kernel)) (by decide +kernel)
theorem wd_1809 : (Jvm.Cond.methodLink "StrataBaseModel" (380 : Nat) ({ cls := "StrataBaseModel", name := "ground", desc := "()Z" } : Jvm.MethodName)) ∈ tblG := rn_8 (List.mem_of_getElem? (i := 129) (by decide +kernel)) (by decide +kernel)
theorem wd_1811 : (Jvm.Cond.instanceMethod ({ cls := "StrataBaseModel", name := "ground", desc := "()Z" } : Jvm.MethodName)) ∈ tblG := rn_8 (List.mem_of_getElem? (i := 131) (by decide +kernel)) (by decide +kernel)
theorem wd_1812 : (Jvm.Cond.code ({ cls := "StrataBaseModel", name := "ground", desc := "()Z" } : Jvm.MethodName) prog_14_method_62_code (4 : Nat) (Option.some Jvm.ClassFile.FieldType.boolean)) ∈ tblG := rn_8 (List.mem_of_getElem? (i := 132) (by decide +kernel)) (by decide +kernel)
theorem wd_1813 : (Jvm.Cond.methodLink "StrataBaseLaw" (104 : Nat) ({ cls := "StrataBaseModel", name := "stratum", desc := "()I" } : Jvm.MethodName)) ∈ tblG := rn_8 (List.mem_of_getElem? (i := 133) (by decide +kernel)) (by decide +kernel)
theorem wd_1814 : (Jvm.Cond.instanceMethod ({ cls := "StrataBaseModel", name := "stratum", desc := "()I" } : Jvm.MethodName)) ∈ tblG := rn_8 (List.mem_of_getElem? (i := 134) (by decide +kernel)) (by decide +kernel)
theorem wd_1815 : (Jvm.Cond.selects "StrataBaseModel" ({ cls := "StrataBaseModel", name := "stratum", desc := "()I" } : Jvm.MethodName) ({ cls := "StrataBaseModel", name := "stratum", desc := "()I" } : Jvm.MethodName)) ∈ tblG := rn_8 (List.mem_of_getElem? (i := 135) (by decide +kernel)) (by decide +kernel)
theorem wd_1816 : (Jvm.Cond.code ({ cls := "StrataBaseModel", name := "stratum", desc := "()I" } : Jvm.MethodName) prog_14_method_63_code (3 : Nat) (Option.some Jvm.ClassFile.FieldType.int)) ∈ tblG := rn_8 (List.mem_of_getElem? (i := 136) (by decide +kernel)) (by decide +kernel)
theorem wd_1817 : (Jvm.Cond.methodLink "StrataBaseLaw" (108 : Nat) ({ cls := "StrataBaseModel", name := "count", desc := "(I)I" } : Jvm.MethodName)) ∈ tblG := rn_8 (List.mem_of_getElem? (i := 137) (by decide +kernel)) (by decide +kernel)
theorem wd_1818 : (Jvm.Cond.instanceMethod ({ cls := "StrataBaseModel", name := "count", desc := "(I)I" } : Jvm.MethodName)) ∈ tblG := rn_8 (List.mem_of_getElem? (i := 138) (by decide +kernel)) (by decide +kernel)
theorem wd_1819 : (Jvm.Cond.selects "StrataBaseModel" ({ cls := "StrataBaseModel", name := "count", desc := "(I)I" } : Jvm.MethodName) ({ cls := "StrataBaseModel", name := "count", desc := "(I)I" } : Jvm.MethodName)) ∈ tblG := rn_8 (List.mem_of_getElem? (i := 139) (by decide +kernel)) (by decide +kernel)
theorem wd_1820 : (Jvm.Cond.code ({ cls := "StrataBaseModel", name := "count", desc := "(I)I" } : Jvm.MethodName) prog_14_method_64_code (2 : Nat) (Option.some Jvm.ClassFile.FieldType.int)) ∈ tblG := rn_8 (List.mem_of_getElem? (i := 140) (by decide +kernel)) (by decide +kernel)
theorem sl_Re_begin : Cond.selects "StrataBase$Reader" my_Re_begin my_Re_begin ∈ tblG := tg_sel (List.mem_of_getElem? (i := 0) (by decide +kernel)) (by decide +kernel)
theorem sl_Re_beginBody : Cond.selects "StrataBase$Reader" my_Re_beginBody my_Re_beginBody ∈ tblG := tg_sel (List.mem_of_getElem? (i := 1) (by decide +kernel)) (by decide +kernel)
theorem sl_To_skipBlanks : Cond.selects "StrataBase$Tokens" my_To_skipBlanks my_To_skipBlanks ∈ tblG := tg_sel (List.mem_of_getElem? (i := 2) (by decide +kernel)) (by decide +kernel)
theorem sl_To_readWord : Cond.selects "StrataBase$Tokens" my_To_readWord my_To_readWord ∈ tblG := tg_sel (List.mem_of_getElem? (i := 3) (by decide +kernel)) (by decide +kernel)
theorem sl_To_isNot : Cond.selects "StrataBase$Tokens" my_To_isNot my_To_isNot ∈ tblG := tg_sel (List.mem_of_getElem? (i := 4) (by decide +kernel)) (by decide +kernel)
theorem sl_To_readNumber : Cond.selects "StrataBase$Tokens" my_To_readNumber my_To_readNumber ∈ tblG := tg_sel (List.mem_of_getElem? (i := 5) (by decide +kernel)) (by decide +kernel)
theorem sl_To_readSign : Cond.selects "StrataBase$Tokens" my_To_readSign my_To_readSign ∈ tblG := tg_sel (List.mem_of_getElem? (i := 6) (by decide +kernel)) (by decide +kernel)
theorem sl_To_takes : Cond.selects "StrataBase$Tokens" my_To_takes my_To_takes ∈ tblG := tg_sel (List.mem_of_getElem? (i := 7) (by decide +kernel)) (by decide +kernel)
theorem sl_Re_settleBefore : Cond.selects "StrataBase$Reader" my_Re_settleBefore my_Re_settleBefore ∈ tblG := tg_sel (List.mem_of_getElem? (i := 8) (by decide +kernel)) (by decide +kernel)
theorem sl_Re_decideName : Cond.selects "StrataBase$Reader" my_Re_decideName my_Re_decideName ∈ tblG := tg_sel (List.mem_of_getElem? (i := 9) (by decide +kernel)) (by decide +kernel)
theorem sl_Re_openComparison : Cond.selects "StrataBase$Reader" my_Re_openComparison my_Re_openComparison ∈ tblG := tg_sel (List.mem_of_getElem? (i := 10) (by decide +kernel)) (by decide +kernel)
theorem sl_Re_addSideConstant : Cond.selects "StrataBase$Reader" my_Re_addSideConstant my_Re_addSideConstant ∈ tblG := tg_sel (List.mem_of_getElem? (i := 11) (by decide +kernel)) (by decide +kernel)
theorem sl_Re_addConstant : Cond.selects "StrataBase$Reader" my_Re_addConstant my_Re_addConstant ∈ tblG := tg_sel (List.mem_of_getElem? (i := 12) (by decide +kernel)) (by decide +kernel)
theorem sl_Re_stop : Cond.selects "StrataBase$Reader" my_Re_stop my_Re_stop ∈ tblG := tg_sel (List.mem_of_getElem? (i := 13) (by decide +kernel)) (by decide +kernel)
theorem sl_Re_namePredicate : Cond.selects "StrataBase$Reader" my_Re_namePredicate my_Re_namePredicate ∈ tblG := tg_sel (List.mem_of_getElem? (i := 14) (by decide +kernel)) (by decide +kernel)
theorem sl_Re_closeAtom : Cond.selects "StrataBase$Reader" my_Re_closeAtom my_Re_closeAtom ∈ tblG := tg_sel (List.mem_of_getElem? (i := 15) (by decide +kernel)) (by decide +kernel)
theorem sl_Re_checkSize : Cond.selects "StrataBase$Reader" my_Re_checkSize my_Re_checkSize ∈ tblG := tg_sel (List.mem_of_getElem? (i := 16) (by decide +kernel)) (by decide +kernel)
theorem sl_Re_checkOwnSize : Cond.selects "StrataBase$Reader" my_Re_checkOwnSize my_Re_checkOwnSize ∈ tblG := tg_sel (List.mem_of_getElem? (i := 17) (by decide +kernel)) (by decide +kernel)
theorem sl_Re_note : Cond.selects "StrataBase$Reader" my_Re_note my_Re_note ∈ tblG := tg_sel (List.mem_of_getElem? (i := 18) (by decide +kernel)) (by decide +kernel)
theorem sl_Re_beginClause : Cond.selects "StrataBase$Reader" my_Re_beginClause my_Re_beginClause ∈ tblG := tg_sel (List.mem_of_getElem? (i := 19) (by decide +kernel)) (by decide +kernel)
theorem sl_Re_refuse : Cond.selects "StrataBase$Reader" my_Re_refuse my_Re_refuse ∈ tblG := tg_sel (List.mem_of_getElem? (i := 20) (by decide +kernel)) (by decide +kernel)
theorem sl_Re_readPredicate : Cond.selects "StrataBase$Reader" my_Re_readPredicate my_Re_readPredicate ∈ tblG := tg_sel (List.mem_of_getElem? (i := 21) (by decide +kernel)) (by decide +kernel)
theorem sl_Re_markName : Cond.selects "StrataBase$Reader" my_Re_markName my_Re_markName ∈ tblG := tg_sel (List.mem_of_getElem? (i := 22) (by decide +kernel)) (by decide +kernel)
theorem sl_Re_readTerm : Cond.selects "StrataBase$Reader" my_Re_readTerm my_Re_readTerm ∈ tblG := tg_sel (List.mem_of_getElem? (i := 23) (by decide +kernel)) (by decide +kernel)
theorem sl_Re_addVariable : Cond.selects "StrataBase$Reader" my_Re_addVariable my_Re_addVariable ∈ tblG := tg_sel (List.mem_of_getElem? (i := 24) (by decide +kernel)) (by decide +kernel)
theorem sl_Re_addAtomConstant : Cond.selects "StrataBase$Reader" my_Re_addAtomConstant my_Re_addAtomConstant ∈ tblG := tg_sel (List.mem_of_getElem? (i := 25) (by decide +kernel)) (by decide +kernel)
theorem sl_Re_readTermEnd : Cond.selects "StrataBase$Reader" my_Re_readTermEnd my_Re_readTermEnd ∈ tblG := tg_sel (List.mem_of_getElem? (i := 26) (by decide +kernel)) (by decide +kernel)
theorem sl_Re_readHeadEnd : Cond.selects "StrataBase$Reader" my_Re_readHeadEnd my_Re_readHeadEnd ∈ tblG := tg_sel (List.mem_of_getElem? (i := 27) (by decide +kernel)) (by decide +kernel)
theorem sl_Re_closeClause : Cond.selects "StrataBase$Reader" my_Re_closeClause my_Re_closeClause ∈ tblG := tg_sel (List.mem_of_getElem? (i := 28) (by decide +kernel)) (by decide +kernel)
theorem sl_Re_beginLiteral : Cond.selects "StrataBase$Reader" my_Re_beginLiteral my_Re_beginLiteral ∈ tblG := tg_sel (List.mem_of_getElem? (i := 29) (by decide +kernel)) (by decide +kernel)
theorem sl_Re_addSide : Cond.selects "StrataBase$Reader" my_Re_addSide my_Re_addSide ∈ tblG := tg_sel (List.mem_of_getElem? (i := 30) (by decide +kernel)) (by decide +kernel)
theorem sl_Re_readComparison : Cond.selects "StrataBase$Reader" my_Re_readComparison my_Re_readComparison ∈ tblG := tg_sel (List.mem_of_getElem? (i := 31) (by decide +kernel)) (by decide +kernel)
theorem sl_Re_readRightSide : Cond.selects "StrataBase$Reader" my_Re_readRightSide my_Re_readRightSide ∈ tblG := tg_sel (List.mem_of_getElem? (i := 32) (by decide +kernel)) (by decide +kernel)
theorem sl_Re_compareSides : Cond.selects "StrataBase$Reader" my_Re_compareSides my_Re_compareSides ∈ tblG := tg_sel (List.mem_of_getElem? (i := 33) (by decide +kernel)) (by decide +kernel)
theorem sl_Re_readLiteralEnd : Cond.selects "StrataBase$Reader" my_Re_readLiteralEnd my_Re_readLiteralEnd ∈ tblG := tg_sel (List.mem_of_getElem? (i := 34) (by decide +kernel)) (by decide +kernel)
theorem sl_Re_expectEnd : Cond.selects "StrataBase$Reader" my_Re_expectEnd my_Re_expectEnd ∈ tblG := tg_sel (List.mem_of_getElem? (i := 35) (by decide +kernel)) (by decide +kernel)
theorem sl_Pr_findReached : Cond.selects "StrataBase$Program" my_Pr_findReached my_Pr_findReached ∈ tblG := tg_sel (List.mem_of_getElem? (i := 36) (by decide +kernel)) (by decide +kernel)
theorem sl_SB_forgetTape : Cond.selects "StrataBase" my_SB_forgetTape my_SB_forgetTape ∈ tblG := tg_sel (List.mem_of_getElem? (i := 37) (by decide +kernel)) (by decide +kernel)
theorem sl_Pr_settleTerms : Cond.selects "StrataBase$Program" my_Pr_settleTerms my_Pr_settleTerms ∈ tblG := tg_sel (List.mem_of_getElem? (i := 38) (by decide +kernel)) (by decide +kernel)
theorem sl_Pr_raiseStrata : Cond.selects "StrataBase$Program" my_Pr_raiseStrata my_Pr_raiseStrata ∈ tblG := tg_sel (List.mem_of_getElem? (i := 39) (by decide +kernel)) (by decide +kernel)
theorem sl_SB_putBytes : Cond.selects "StrataBase" my_SB_putBytes my_SB_putBytes ∈ tblG := tg_sel (List.mem_of_getElem? (i := 41) (by decide +kernel)) (by decide +kernel)
theorem sl_Jo_addPlainFacts : Cond.selects "StrataBase$Join" my_Jo_addPlainFacts my_Jo_addPlainFacts ∈ tblG := tg_sel (List.mem_of_getElem? (i := 42) (by decide +kernel)) (by decide +kernel)
theorem sl_Fa_slotOf : Cond.selects "StrataBase$Facts" my_Fa_slotOf my_Fa_slotOf ∈ tblG := tg_sel (List.mem_of_getElem? (i := 43) (by decide +kernel)) (by decide +kernel)
theorem sl_Jo_startsWork : Cond.selects "StrataBase$Join" my_Jo_startsWork my_Jo_startsWork ∈ tblG := tg_sel (List.mem_of_getElem? (i := 44) (by decide +kernel)) (by decide +kernel)
theorem sl_Jo_work : Cond.selects "StrataBase$Join" my_Jo_work my_Jo_work ∈ tblG := tg_sel (List.mem_of_getElem? (i := 45) (by decide +kernel)) (by decide +kernel)
theorem sl_Jo_lacksFacts : Cond.selects "StrataBase$Join" my_Jo_lacksFacts my_Jo_lacksFacts ∈ tblG := tg_sel (List.mem_of_getElem? (i := 46) (by decide +kernel)) (by decide +kernel)
theorem sl_Jo_arrange : Cond.selects "StrataBase$Join" my_Jo_arrange my_Jo_arrange ∈ tblG := tg_sel (List.mem_of_getElem? (i := 47) (by decide +kernel)) (by decide +kernel)
theorem sl_Jo_nextLiteral : Cond.selects "StrataBase$Join" my_Jo_nextLiteral my_Jo_nextLiteral ∈ tblG := tg_sel (List.mem_of_getElem? (i := 48) (by decide +kernel)) (by decide +kernel)
theorem sl_Jo_costOf : Cond.selects "StrataBase$Join" my_Jo_costOf my_Jo_costOf ∈ tblG := tg_sel (List.mem_of_getElem? (i := 49) (by decide +kernel)) (by decide +kernel)
theorem sl_Jo_prepare : Cond.selects "StrataBase$Join" my_Jo_prepare my_Jo_prepare ∈ tblG := tg_sel (List.mem_of_getElem? (i := 50) (by decide +kernel)) (by decide +kernel)
theorem sl_St_givePositions : Cond.selects "StrataBase$Step" my_St_givePositions my_St_givePositions ∈ tblG := tg_sel (List.mem_of_getElem? (i := 51) (by decide +kernel)) (by decide +kernel)
theorem sl_St_firstColumnOf : Cond.selects "StrataBase$Step" my_St_firstColumnOf my_St_firstColumnOf ∈ tblG := tg_sel (List.mem_of_getElem? (i := 52) (by decide +kernel)) (by decide +kernel)
theorem sl_St_setOtherRole : Cond.selects "StrataBase$Step" my_St_setOtherRole my_St_setOtherRole ∈ tblG := tg_sel (List.mem_of_getElem? (i := 53) (by decide +kernel)) (by decide +kernel)
theorem sl_St_setIndex : Cond.selects "StrataBase$Step" my_St_setIndex my_St_setIndex ∈ tblG := tg_sel (List.mem_of_getElem? (i := 54) (by decide +kernel)) (by decide +kernel)
theorem sl_Ix_collect : Cond.selects "StrataBase$Indexes" my_Ix_collect my_Ix_collect ∈ tblG := tg_sel (List.mem_of_getElem? (i := 55) (by decide +kernel)) (by decide +kernel)
theorem sl_Ix_sort : Cond.selects "StrataBase$Indexes" my_Ix_sort my_Ix_sort ∈ tblG := tg_sel (List.mem_of_getElem? (i := 56) (by decide +kernel)) (by decide +kernel)
theorem sl_Ix_dropEquals : Cond.selects "StrataBase$Indexes" my_Ix_dropEquals my_Ix_dropEquals ∈ tblG := tg_sel (List.mem_of_getElem? (i := 57) (by decide +kernel)) (by decide +kernel)
theorem sl_Jo_solve : Cond.selects "StrataBase$Join" my_Jo_solve my_Jo_solve ∈ tblG := tg_sel (List.mem_of_getElem? (i := 58) (by decide +kernel)) (by decide +kernel)
theorem sl_Jo_holds : Cond.selects "StrataBase$Join" my_Jo_holds my_Jo_holds ∈ tblG := tg_sel (List.mem_of_getElem? (i := 59) (by decide +kernel)) (by decide +kernel)
theorem sl_Cl_orderCode : Cond.selects "StrataBase$Clauses" my_Cl_orderCode my_Cl_orderCode ∈ tblG := tg_sel (List.mem_of_getElem? (i := 60) (by decide +kernel)) (by decide +kernel)
theorem sl_Jo_scan : Cond.selects "StrataBase$Join" my_Jo_scan my_Jo_scan ∈ tblG := tg_sel (List.mem_of_getElem? (i := 61) (by decide +kernel)) (by decide +kernel)
theorem sl_Jo_emit : Cond.selects "StrataBase$Join" my_Jo_emit my_Jo_emit ∈ tblG := tg_sel (List.mem_of_getElem? (i := 62) (by decide +kernel)) (by decide +kernel)
theorem sl_Ro_keyOf : Cond.selects "StrataBase$Rows" my_Ro_keyOf my_Ro_keyOf ∈ tblG := tg_sel (List.mem_of_getElem? (i := 63) (by decide +kernel)) (by decide +kernel)
theorem sl_Ro_sink : Cond.selects "StrataBase$Rows" my_Ro_sink my_Ro_sink ∈ tblG := tg_sel (List.mem_of_getElem? (i := 64) (by decide +kernel)) (by decide +kernel)
theorem sl_Ro_isAbove : Cond.selects "StrataBase$Rows" my_Ro_isAbove my_Ro_isAbove ∈ tblG := tg_sel (List.mem_of_getElem? (i := 65) (by decide +kernel)) (by decide +kernel)
theorem sl_Mo_starts : Cond.selects "StrataBaseModel" my_Mo_starts my_Mo_starts ∈ tblG := tg_sel (List.mem_of_getElem? (i := 66) (by decide +kernel)) (by decide +kernel)
theorem sl_Mo_next : Cond.selects "StrataBaseModel" my_Mo_next my_Mo_next ∈ tblG := tg_sel (List.mem_of_getElem? (i := 67) (by decide +kernel)) (by decide +kernel)
theorem sl_Mo_at : Cond.selects "StrataBaseModel" my_Mo_at my_Mo_at ∈ tblG := tg_sel (List.mem_of_getElem? (i := 68) (by decide +kernel)) (by decide +kernel)
theorem sl_Mo_figure : Cond.selects "StrataBaseModel" my_Mo_figure my_Mo_figure ∈ tblG := tg_sel (List.mem_of_getElem? (i := 69) (by decide +kernel)) (by decide +kernel)
theorem sl_Mo_flaw : Cond.selects "StrataBaseModel" my_Mo_flaw my_Mo_flaw ∈ tblG := tg_sel (List.mem_of_getElem? (i := 70) (by decide +kernel)) (by decide +kernel)
theorem sl_Mo_readClauses : Cond.selects "StrataBaseModel" my_Mo_readClauses my_Mo_readClauses ∈ tblG := tg_sel (List.mem_of_getElem? (i := 71) (by decide +kernel)) (by decide +kernel)
theorem sl_Mo_cannot : Cond.selects "StrataBaseModel" my_Mo_cannot my_Mo_cannot ∈ tblG := tg_sel (List.mem_of_getElem? (i := 72) (by decide +kernel)) (by decide +kernel)
theorem sl_Mo_atom : Cond.selects "StrataBaseModel" my_Mo_atom my_Mo_atom ∈ tblG := tg_sel (List.mem_of_getElem? (i := 73) (by decide +kernel)) (by decide +kernel)
theorem sl_Mo_name : Cond.selects "StrataBaseModel" my_Mo_name my_Mo_name ∈ tblG := tg_sel (List.mem_of_getElem? (i := 74) (by decide +kernel)) (by decide +kernel)
theorem sl_Mo_predicate : Cond.selects "StrataBaseModel" my_Mo_predicate my_Mo_predicate ∈ tblG := tg_sel (List.mem_of_getElem? (i := 75) (by decide +kernel)) (by decide +kernel)
theorem sl_Mo_isSame : Cond.selects "StrataBaseModel" my_Mo_isSame my_Mo_isSame ∈ tblG := tg_sel (List.mem_of_getElem? (i := 76) (by decide +kernel)) (by decide +kernel)
theorem sl_Mo_literal : Cond.selects "StrataBaseModel" my_Mo_literal my_Mo_literal ∈ tblG := tg_sel (List.mem_of_getElem? (i := 77) (by decide +kernel)) (by decide +kernel)
theorem sl_Mo_terms : Cond.selects "StrataBaseModel" my_Mo_terms my_Mo_terms ∈ tblG := tg_sel (List.mem_of_getElem? (i := 78) (by decide +kernel)) (by decide +kernel)
theorem sl_Mo_isTerm : Cond.selects "StrataBaseModel" my_Mo_isTerm my_Mo_isTerm ∈ tblG := tg_sel (List.mem_of_getElem? (i := 79) (by decide +kernel)) (by decide +kernel)
theorem sl_Mo_term : Cond.selects "StrataBaseModel" my_Mo_term my_Mo_term ∈ tblG := tg_sel (List.mem_of_getElem? (i := 80) (by decide +kernel)) (by decide +kernel)
theorem sl_Mo_constant : Cond.selects "StrataBaseModel" my_Mo_constant my_Mo_constant ∈ tblG := tg_sel (List.mem_of_getElem? (i := 81) (by decide +kernel)) (by decide +kernel)
theorem sl_Mo_body : Cond.selects "StrataBaseModel" my_Mo_body my_Mo_body ∈ tblG := tg_sel (List.mem_of_getElem? (i := 82) (by decide +kernel)) (by decide +kernel)
theorem sl_Mo_bodyLiteral : Cond.selects "StrataBaseModel" my_Mo_bodyLiteral my_Mo_bodyLiteral ∈ tblG := tg_sel (List.mem_of_getElem? (i := 83) (by decide +kernel)) (by decide +kernel)
theorem sl_Mo_isSign : Cond.selects "StrataBaseModel" my_Mo_isSign my_Mo_isSign ∈ tblG := tg_sel (List.mem_of_getElem? (i := 84) (by decide +kernel)) (by decide +kernel)
theorem sl_Mo_arities : Cond.selects "StrataBaseModel" my_Mo_arities my_Mo_arities ∈ tblG := tg_sel (List.mem_of_getElem? (i := 85) (by decide +kernel)) (by decide +kernel)
theorem sl_Mo_wrong : Cond.selects "StrataBaseModel" my_Mo_wrong my_Mo_wrong ∈ tblG := tg_sel (List.mem_of_getElem? (i := 86) (by decide +kernel)) (by decide +kernel)
theorem sl_Mo_look : Cond.selects "StrataBaseModel" my_Mo_look my_Mo_look ∈ tblG := tg_sel (List.mem_of_getElem? (i := 87) (by decide +kernel)) (by decide +kernel)
theorem sl_Mo_isBound : Cond.selects "StrataBaseModel" my_Mo_isBound my_Mo_isBound ∈ tblG := tg_sel (List.mem_of_getElem? (i := 88) (by decide +kernel)) (by decide +kernel)
theorem sl_Mo_isStrata : Cond.selects "StrataBaseModel" my_Mo_isStrata my_Mo_isStrata ∈ tblG := tg_sel (List.mem_of_getElem? (i := 89) (by decide +kernel)) (by decide +kernel)
theorem sl_Mo_dependencies : Cond.selects "StrataBaseModel" my_Mo_dependencies my_Mo_dependencies ∈ tblG := tg_sel (List.mem_of_getElem? (i := 90) (by decide +kernel)) (by decide +kernel)
theorem sl_Mo_layStrata : Cond.selects "StrataBaseModel" my_Mo_layStrata my_Mo_layStrata ∈ tblG := tg_sel (List.mem_of_getElem? (i := 91) (by decide +kernel)) (by decide +kernel)
theorem sl_Mo_follow : Cond.selects "StrataBaseModel" my_Mo_follow my_Mo_follow ∈ tblG := tg_sel (List.mem_of_getElem? (i := 92) (by decide +kernel)) (by decide +kernel)
theorem sl_Mo_join : Cond.selects "StrataBaseModel" my_Mo_join my_Mo_join ∈ tblG := tg_sel (List.mem_of_getElem? (i := 93) (by decide +kernel)) (by decide +kernel)
theorem sl_Mo_free : Cond.selects "StrataBaseModel" my_Mo_free my_Mo_free ∈ tblG := tg_sel (List.mem_of_getElem? (i := 94) (by decide +kernel)) (by decide +kernel)
theorem sl_Mo_holds : Cond.selects "StrataBaseModel" my_Mo_holds my_Mo_holds ∈ tblG := tg_sel (List.mem_of_getElem? (i := 95) (by decide +kernel)) (by decide +kernel)
theorem sl_Mo_value : Cond.selects "StrataBaseModel" my_Mo_value my_Mo_value ∈ tblG := tg_sel (List.mem_of_getElem? (i := 96) (by decide +kernel)) (by decide +kernel)
theorem sl_Mo_order : Cond.selects "StrataBaseModel" my_Mo_order my_Mo_order ∈ tblG := tg_sel (List.mem_of_getElem? (i := 97) (by decide +kernel)) (by decide +kernel)
theorem sl_Mo_arity : Cond.selects "StrataBaseModel" my_Mo_arity my_Mo_arity ∈ tblG := tg_sel (List.mem_of_getElem? (i := 98) (by decide +kernel)) (by decide +kernel)
theorem sl_Mo_find : Cond.selects "StrataBaseModel" my_Mo_find my_Mo_find ∈ tblG := tg_sel (List.mem_of_getElem? (i := 99) (by decide +kernel)) (by decide +kernel)
theorem sl_Mo_row : Cond.selects "StrataBaseModel" my_Mo_row my_Mo_row ∈ tblG := tg_sel (List.mem_of_getElem? (i := 100) (by decide +kernel)) (by decide +kernel)
theorem sl_Mo_fact : Cond.selects "StrataBaseModel" my_Mo_fact my_Mo_fact ∈ tblG := tg_sel (List.mem_of_getElem? (i := 101) (by decide +kernel)) (by decide +kernel)
theorem sl_Mo_isFact : Cond.selects "StrataBaseModel" my_Mo_isFact my_Mo_isFact ∈ tblG := tg_sel (List.mem_of_getElem? (i := 102) (by decide +kernel)) (by decide +kernel)
theorem sl_Mo_beginQuestion : Cond.selects "StrataBaseModel" my_Mo_beginQuestion my_Mo_beginQuestion ∈ tblG := tg_sel (List.mem_of_getElem? (i := 103) (by decide +kernel)) (by decide +kernel)
theorem sl_Mo_readQuestion : Cond.selects "StrataBaseModel" my_Mo_readQuestion my_Mo_readQuestion ∈ tblG := tg_sel (List.mem_of_getElem? (i := 104) (by decide +kernel)) (by decide +kernel)
theorem sl_Mo_ownArities : Cond.selects "StrataBaseModel" my_Mo_ownArities my_Mo_ownArities ∈ tblG := tg_sel (List.mem_of_getElem? (i := 105) (by decide +kernel)) (by decide +kernel)
theorem sl_Mo_isName : Cond.selects "StrataBaseModel" my_Mo_isName my_Mo_isName ∈ tblG := tg_sel (List.mem_of_getElem? (i := 106) (by decide +kernel)) (by decide +kernel)
theorem sl_Mo_sort : Cond.selects "StrataBaseModel" my_Mo_sort my_Mo_sort ∈ tblG := tg_sel (List.mem_of_getElem? (i := 107) (by decide +kernel)) (by decide +kernel)
theorem sl_Mo_isBehind : Cond.selects "StrataBaseModel" my_Mo_isBehind my_Mo_isBehind ∈ tblG := tg_sel (List.mem_of_getElem? (i := 108) (by decide +kernel)) (by decide +kernel)
theorem sl_Mo_cell : Cond.selects "StrataBaseModel" my_Mo_cell my_Mo_cell ∈ tblG := tg_sel (List.mem_of_getElem? (i := 109) (by decide +kernel)) (by decide +kernel)
theorem sl_Mo_ground : Cond.selects "StrataBaseModel" my_Mo_ground my_Mo_ground ∈ tblG := tg_sel (List.mem_of_getElem? (i := 110) (by decide +kernel)) (by decide +kernel)
theorem df_SB : ∀ j, j < 13 → defaultValue (ty_SB j) = vp_V [.null, .int 0, .int 0, .null, .null, .null, .null, .null, .null, .null, .null, .int 0, .int 0] j
  | 0, _ => rfl
  | 1, _ => rfl
  | 2, _ => rfl
  | 3, _ => rfl
  | 4, _ => rfl
  | 5, _ => rfl
  | 6, _ => rfl
  | 7, _ => rfl
  | 8, _ => rfl
  | 9, _ => rfl
  | 10, _ => rfl
  | 11, _ => rfl
  | 12, _ => rfl
  | n + 13, h => absurd h (by omega)
theorem df_Cl : ∀ j, j < 9 → defaultValue (ty_Cl j) = vp_V [.int 0, .null, .null, .null, .null, .null, .null, .null, .int 0] j
  | 0, _ => rfl
  | 1, _ => rfl
  | 2, _ => rfl
  | 3, _ => rfl
  | 4, _ => rfl
  | 5, _ => rfl
  | 6, _ => rfl
  | 7, _ => rfl
  | 8, _ => rfl
  | n + 9, h => absurd h (by omega)
theorem df_Co : ∀ j, j < 4 → defaultValue (ty_Co j) = vp_V [.null, .null, .null, .null] j
  | 0, _ => rfl
  | 1, _ => rfl
  | 2, _ => rfl
  | 3, _ => rfl
  | n + 4, h => absurd h (by omega)
theorem df_Fa : ∀ j, j < 14 → defaultValue (ty_Fa j) = vp_V [.int 0, .int 0, .int 0, .null, .null, .null, .null, .null, .null, .null, .null, .null, .null, .int 0] j
  | 0, _ => rfl
  | 1, _ => rfl
  | 2, _ => rfl
  | 3, _ => rfl
  | 4, _ => rfl
  | 5, _ => rfl
  | 6, _ => rfl
  | 7, _ => rfl
  | 8, _ => rfl
  | 9, _ => rfl
  | 10, _ => rfl
  | 11, _ => rfl
  | 12, _ => rfl
  | 13, _ => rfl
  | n + 14, h => absurd h (by omega)
theorem df_Ix : ∀ j, j < 9 → defaultValue (ty_Ix j) = vp_V [.int 0, .null, .null, .null, .null, .null, .null, .null, .int 0] j
  | 0, _ => rfl
  | 1, _ => rfl
  | 2, _ => rfl
  | 3, _ => rfl
  | 4, _ => rfl
  | 5, _ => rfl
  | 6, _ => rfl
  | 7, _ => rfl
  | 8, _ => rfl
  | n + 9, h => absurd h (by omega)
theorem df_Jo : ∀ j, j < 11 → defaultValue (ty_Jo j) = vp_V [.null, .null, .null, .null, .int 0, .null, .int 0, .null, .int 0, .int 0, .int 0] j
  | 0, _ => rfl
  | 1, _ => rfl
  | 2, _ => rfl
  | 3, _ => rfl
  | 4, _ => rfl
  | 5, _ => rfl
  | 6, _ => rfl
  | 7, _ => rfl
  | 8, _ => rfl
  | 9, _ => rfl
  | 10, _ => rfl
  | n + 11, h => absurd h (by omega)
theorem df_Na : ∀ j, j < 5 → defaultValue (ty_Na j) = vp_V [.int 0, .null, .null, .null, .int 0] j
  | 0, _ => rfl
  | 1, _ => rfl
  | 2, _ => rfl
  | 3, _ => rfl
  | 4, _ => rfl
  | n + 5, h => absurd h (by omega)
theorem df_Pr : ∀ j, j < 7 → defaultValue (ty_Pr j) = vp_V [.null, .null, .null, .null, .null, .int 0, .null] j
  | 0, _ => rfl
  | 1, _ => rfl
  | 2, _ => rfl
  | 3, _ => rfl
  | 4, _ => rfl
  | 5, _ => rfl
  | 6, _ => rfl
  | n + 7, h => absurd h (by omega)
theorem df_Re : ∀ j, j < 19 → defaultValue (ty_Re j) = vp_V [.int 0, .int 0, .null, .int 0, .null, .int 0, .int 0, .null, .null, .int 0, .int 0, .int 0, .int 0, .int 0, .int 0, .null, .null, .null, .null] j
  | 0, _ => rfl
  | 1, _ => rfl
  | 2, _ => rfl
  | 3, _ => rfl
  | 4, _ => rfl
  | 5, _ => rfl
  | 6, _ => rfl
  | 7, _ => rfl
  | 8, _ => rfl
  | 9, _ => rfl
  | 10, _ => rfl
  | 11, _ => rfl
  | 12, _ => rfl
  | 13, _ => rfl
  | 14, _ => rfl
  | 15, _ => rfl
  | 16, _ => rfl
  | 17, _ => rfl
  | 18, _ => rfl
  | n + 19, h => absurd h (by omega)
theorem df_Ro : ∀ j, j < 6 → defaultValue (ty_Ro j) = vp_V [.int 0, .int 0, .int 0, .null, .null, .null] j
  | 0, _ => rfl
  | 1, _ => rfl
  | 2, _ => rfl
  | 3, _ => rfl
  | 4, _ => rfl
  | 5, _ => rfl
  | n + 6, h => absurd h (by omega)
theorem df_St : ∀ j, j < 17 → defaultValue (ty_St j) = vp_V [.int 0, .int 0, .int 0, .int 0, .int 0, .int 0, .int 0, .int 0, .int 0, .int 0, .int 0, .int 0, .long 0, .int 0, .int 0, .null, .null] j
  | 0, _ => rfl
  | 1, _ => rfl
  | 2, _ => rfl
  | 3, _ => rfl
  | 4, _ => rfl
  | 5, _ => rfl
  | 6, _ => rfl
  | 7, _ => rfl
  | 8, _ => rfl
  | 9, _ => rfl
  | 10, _ => rfl
  | 11, _ => rfl
  | 12, _ => rfl
  | 13, _ => rfl
  | 14, _ => rfl
  | 15, _ => rfl
  | 16, _ => rfl
  | n + 17, h => absurd h (by omega)
theorem df_To : ∀ j, j < 6 → defaultValue (ty_To j) = vp_V [.null, .int 0, .int 0, .int 0, .int 0, .int 0] j
  | 0, _ => rfl
  | 1, _ => rfl
  | 2, _ => rfl
  | 3, _ => rfl
  | 4, _ => rfl
  | 5, _ => rfl
  | n + 6, h => absurd h (by omega)
theorem df_Mo : ∀ j, j < 64 → defaultValue (ty_Mo j) = vp_V [.int 0, .null, .int 0, .int 0, .int 0, .null, .int 0, .int 0, .null, .null, .null, .null, .null, .null, .null, .null, .null, .null, .null, .null, .null, .null, .null, .null, .null, .null, .null, .null, .int 0, .int 0, .int 0, .int 0, .int 0, .long 0, .int 0, .int 0, .int 0, .int 0, .int 0, .int 0, .null, .null, .int 0, .int 0, .null, .null, .null, .int 0, .int 0, .null, .null, .int 0, .null, .null, .null, .null, .int 0, .null, .int 0, .int 0, .null, .int 0, .int 0, .null] j
  | 0, _ => rfl
  | 1, _ => rfl
  | 2, _ => rfl
  | 3, _ => rfl
  | 4, _ => rfl
  | 5, _ => rfl
  | 6, _ => rfl
  | 7, _ => rfl
  | 8, _ => rfl
  | 9, _ => rfl
  | 10, _ => rfl
  | 11, _ => rfl
  | 12, _ => rfl
  | 13, _ => rfl
  | 14, _ => rfl
  | 15, _ => rfl
  | 16, _ => rfl
  | 17, _ => rfl
  | 18, _ => rfl
  | 19, _ => rfl
  | 20, _ => rfl
  | 21, _ => rfl
  | 22, _ => rfl
  | 23, _ => rfl
  | 24, _ => rfl
  | 25, _ => rfl
  | 26, _ => rfl
  | 27, _ => rfl
  | 28, _ => rfl
  | 29, _ => rfl
  | 30, _ => rfl
  | 31, _ => rfl
  | 32, _ => rfl
  | 33, _ => rfl
  | 34, _ => rfl
  | 35, _ => rfl
  | 36, _ => rfl
  | 37, _ => rfl
  | 38, _ => rfl
  | 39, _ => rfl
  | 40, _ => rfl
  | 41, _ => rfl
  | 42, _ => rfl
  | 43, _ => rfl
  | 44, _ => rfl
  | 45, _ => rfl
  | 46, _ => rfl
  | 47, _ => rfl
  | 48, _ => rfl
  | 49, _ => rfl
  | 50, _ => rfl
  | 51, _ => rfl
  | 52, _ => rfl
  | 53, _ => rfl
  | 54, _ => rfl
  | 55, _ => rfl
  | 56, _ => rfl
  | 57, _ => rfl
  | 58, _ => rfl
  | 59, _ => rfl
  | 60, _ => rfl
  | 61, _ => rfl
  | 62, _ => rfl
  | 63, _ => rfl
  | n + 64, h => absurd h (by omega)
theorem la_SB : ∀ k, k < 13 → u_lay "StrataBase" tb_SB k ∈ tblG
  | 0, _ => wd_530
  | 1, _ => wd_532
  | 2, _ => wd_534
  | 3, _ => wd_536
  | 4, _ => wd_538
  | 5, _ => wd_540
  | 6, _ => wd_542
  | 7, _ => wd_544
  | 8, _ => wd_546
  | 9, _ => wd_548
  | 10, _ => wd_550
  | 11, _ => wd_552
  | 12, _ => wd_554
  | n + 13, h => absurd h (by omega)
theorem in_SB : ∀ w ∈ u_ws "StrataBase" tb_SB 13, w ∈ tblG := fun w hw => by
  obtain ⟨k, hk, rfl⟩ := List.mem_map.mp hw
  exact la_SB k (List.mem_range.mp hk)
theorem la_Cl : ∀ k, k < 9 → u_lay "StrataBase$Clauses" tb_Cl k ∈ tblG
  | 0, _ => wd_77
  | 1, _ => wd_79
  | 2, _ => wd_81
  | 3, _ => wd_83
  | 4, _ => wd_85
  | 5, _ => wd_87
  | 6, _ => wd_89
  | 7, _ => wd_91
  | 8, _ => wd_93
  | n + 9, h => absurd h (by omega)
theorem in_Cl : ∀ w ∈ u_ws "StrataBase$Clauses" tb_Cl 9, w ∈ tblG := fun w hw => by
  obtain ⟨k, hk, rfl⟩ := List.mem_map.mp hw
  exact la_Cl k (List.mem_range.mp hk)
theorem la_Co : ∀ k, k < 4 → u_lay "StrataBase$Constants" tb_Co k ∈ tblG
  | 0, _ => wd_136
  | 1, _ => wd_138
  | 2, _ => wd_140
  | 3, _ => wd_142
  | n + 4, h => absurd h (by omega)
theorem in_Co : ∀ w ∈ u_ws "StrataBase$Constants" tb_Co 4, w ∈ tblG := fun w hw => by
  obtain ⟨k, hk, rfl⟩ := List.mem_map.mp hw
  exact la_Co k (List.mem_range.mp hk)
theorem la_Fa : ∀ k, k < 14 → u_lay "StrataBase$Facts" tb_Fa k ∈ tblG
  | 0, _ => wd_311
  | 1, _ => wd_313
  | 2, _ => wd_315
  | 3, _ => wd_317
  | 4, _ => wd_319
  | 5, _ => wd_321
  | 6, _ => wd_323
  | 7, _ => wd_325
  | 8, _ => wd_327
  | 9, _ => wd_329
  | 10, _ => wd_331
  | 11, _ => wd_333
  | 12, _ => wd_335
  | 13, _ => wd_337
  | n + 14, h => absurd h (by omega)
theorem in_Fa : ∀ w ∈ u_ws "StrataBase$Facts" tb_Fa 14, w ∈ tblG := fun w hw => by
  obtain ⟨k, hk, rfl⟩ := List.mem_map.mp hw
  exact la_Fa k (List.mem_range.mp hk)
theorem la_Ix : ∀ k, k < 9 → u_lay "StrataBase$Indexes" tb_Ix k ∈ tblG
  | 0, _ => wd_361
  | 1, _ => wd_363
  | 2, _ => wd_365
  | 3, _ => wd_367
  | 4, _ => wd_369
  | 5, _ => wd_371
  | 6, _ => wd_373
  | 7, _ => wd_375
  | 8, _ => wd_377
  | n + 9, h => absurd h (by omega)
theorem in_Ix : ∀ w ∈ u_ws "StrataBase$Indexes" tb_Ix 9, w ∈ tblG := fun w hw => by
  obtain ⟨k, hk, rfl⟩ := List.mem_map.mp hw
  exact la_Ix k (List.mem_range.mp hk)
theorem la_Jo : ∀ k, k < 11 → u_lay "StrataBase$Join" tb_Jo k ∈ tblG
  | 0, _ => wd_465
  | 1, _ => wd_467
  | 2, _ => wd_469
  | 3, _ => wd_471
  | 4, _ => wd_473
  | 5, _ => wd_475
  | 6, _ => wd_477
  | 7, _ => wd_479
  | 8, _ => wd_481
  | 9, _ => wd_483
  | 10, _ => wd_485
  | n + 11, h => absurd h (by omega)
theorem in_Jo : ∀ w ∈ u_ws "StrataBase$Join" tb_Jo 11, w ∈ tblG := fun w hw => by
  obtain ⟨k, hk, rfl⟩ := List.mem_map.mp hw
  exact la_Jo k (List.mem_range.mp hk)
theorem la_Na : ∀ k, k < 5 → u_lay "StrataBase$Names" tb_Na k ∈ tblG
  | 0, _ => wd_113
  | 1, _ => wd_115
  | 2, _ => wd_117
  | 3, _ => wd_119
  | 4, _ => wd_121
  | n + 5, h => absurd h (by omega)
theorem in_Na : ∀ w ∈ u_ws "StrataBase$Names" tb_Na 5, w ∈ tblG := fun w hw => by
  obtain ⟨k, hk, rfl⟩ := List.mem_map.mp hw
  exact la_Na k (List.mem_range.mp hk)
theorem la_Pr : ∀ k, k < 7 → u_lay "StrataBase$Program" tb_Pr k ∈ tblG
  | 0, _ => wd_162
  | 1, _ => wd_164
  | 2, _ => wd_166
  | 3, _ => wd_168
  | 4, _ => wd_170
  | 5, _ => wd_172
  | 6, _ => wd_174
  | n + 7, h => absurd h (by omega)
theorem in_Pr : ∀ w ∈ u_ws "StrataBase$Program" tb_Pr 7, w ∈ tblG := fun w hw => by
  obtain ⟨k, hk, rfl⟩ := List.mem_map.mp hw
  exact la_Pr k (List.mem_range.mp hk)
theorem la_Re : ∀ k, k < 19 → u_lay "StrataBase$Reader" tb_Re k ∈ tblG
  | 0, _ => wd_243
  | 1, _ => wd_245
  | 2, _ => wd_247
  | 3, _ => wd_249
  | 4, _ => wd_251
  | 5, _ => wd_253
  | 6, _ => wd_255
  | 7, _ => wd_257
  | 8, _ => wd_259
  | 9, _ => wd_261
  | 10, _ => wd_263
  | 11, _ => wd_265
  | 12, _ => wd_267
  | 13, _ => wd_269
  | 14, _ => wd_271
  | 15, _ => wd_273
  | 16, _ => wd_275
  | 17, _ => wd_277
  | 18, _ => wd_279
  | n + 19, h => absurd h (by omega)
theorem in_Re : ∀ w ∈ u_ws "StrataBase$Reader" tb_Re 19, w ∈ tblG := fun w hw => by
  obtain ⟨k, hk, rfl⟩ := List.mem_map.mp hw
  exact la_Re k (List.mem_range.mp hk)
theorem la_Ro : ∀ k, k < 6 → u_lay "StrataBase$Rows" tb_Ro k ∈ tblG
  | 0, _ => wd_504
  | 1, _ => wd_506
  | 2, _ => wd_508
  | 3, _ => wd_510
  | 4, _ => wd_512
  | 5, _ => wd_514
  | n + 6, h => absurd h (by omega)
theorem in_Ro : ∀ w ∈ u_ws "StrataBase$Rows" tb_Ro 6, w ∈ tblG := fun w hw => by
  obtain ⟨k, hk, rfl⟩ := List.mem_map.mp hw
  exact la_Ro k (List.mem_range.mp hk)
theorem la_St : ∀ k, k < 17 → u_lay "StrataBase$Step" tb_St k ∈ tblG
  | 0, _ => wd_418
  | 1, _ => wd_420
  | 2, _ => wd_422
  | 3, _ => wd_424
  | 4, _ => wd_426
  | 5, _ => wd_428
  | 6, _ => wd_430
  | 7, _ => wd_432
  | 8, _ => wd_434
  | 9, _ => wd_436
  | 10, _ => wd_438
  | 11, _ => wd_440
  | 12, _ => wd_442
  | 13, _ => wd_444
  | 14, _ => wd_446
  | 15, _ => wd_448
  | 16, _ => wd_450
  | n + 17, h => absurd h (by omega)
theorem in_St : ∀ w ∈ u_ws "StrataBase$Step" tb_St 17, w ∈ tblG := fun w hw => by
  obtain ⟨k, hk, rfl⟩ := List.mem_map.mp hw
  exact la_St k (List.mem_range.mp hk)
theorem la_To : ∀ k, k < 6 → u_lay "StrataBase$Tokens" tb_To k ∈ tblG
  | 0, _ => wd_205
  | 1, _ => wd_207
  | 2, _ => wd_209
  | 3, _ => wd_211
  | 4, _ => wd_213
  | 5, _ => wd_215
  | n + 6, h => absurd h (by omega)
theorem in_To : ∀ w ∈ u_ws "StrataBase$Tokens" tb_To 6, w ∈ tblG := fun w hw => by
  obtain ⟨k, hk, rfl⟩ := List.mem_map.mp hw
  exact la_To k (List.mem_range.mp hk)
theorem la_Mo : ∀ k, k < 64 → u_lay "StrataBaseModel" tb_Mo k ∈ tblG
  | 0, _ => wd_1434
  | 1, _ => wd_1436
  | 2, _ => wd_1438
  | 3, _ => wd_1440
  | 4, _ => wd_1442
  | 5, _ => wd_1444
  | 6, _ => wd_1446
  | 7, _ => wd_1448
  | 8, _ => wd_1450
  | 9, _ => wd_1452
  | 10, _ => wd_1454
  | 11, _ => wd_1456
  | 12, _ => wd_1458
  | 13, _ => wd_1460
  | 14, _ => wd_1462
  | 15, _ => wd_1464
  | 16, _ => wd_1466
  | 17, _ => wd_1468
  | 18, _ => wd_1470
  | 19, _ => wd_1472
  | 20, _ => wd_1474
  | 21, _ => wd_1476
  | 22, _ => wd_1478
  | 23, _ => wd_1480
  | 24, _ => wd_1482
  | 25, _ => wd_1484
  | 26, _ => wd_1486
  | 27, _ => wd_1488
  | 28, _ => wd_1490
  | 29, _ => wd_1492
  | 30, _ => wd_1494
  | 31, _ => wd_1496
  | 32, _ => wd_1498
  | 33, _ => wd_1500
  | 34, _ => wd_1502
  | 35, _ => wd_1504
  | 36, _ => wd_1506
  | 37, _ => wd_1508
  | 38, _ => wd_1510
  | 39, _ => wd_1512
  | 40, _ => wd_1514
  | 41, _ => wd_1516
  | 42, _ => wd_1518
  | 43, _ => wd_1520
  | 44, _ => wd_1522
  | 45, _ => wd_1524
  | 46, _ => wd_1526
  | 47, _ => wd_1528
  | 48, _ => wd_1530
  | 49, _ => wd_1532
  | 50, _ => wd_1534
  | 51, _ => wd_1536
  | 52, _ => wd_1538
  | 53, _ => wd_1540
  | 54, _ => wd_1542
  | 55, _ => wd_1544
  | 56, _ => wd_1546
  | 57, _ => wd_1548
  | 58, _ => wd_1550
  | 59, _ => wd_1552
  | 60, _ => wd_1554
  | 61, _ => wd_1556
  | 62, _ => wd_1558
  | 63, _ => wd_1560
  | n + 64, h => absurd h (by omega)
theorem in_Mo : ∀ w ∈ u_ws "StrataBaseModel" tb_Mo 64, w ∈ tblG := fun w hw => by
  obtain ⟨k, hk, rfl⟩ := List.mem_map.mp hw
  exact la_Mo k (List.mem_range.mp hk)
theorem gd_code {y : MethodName} {c : ByteArray} {n : Nat} {r : Option FieldType} (h : Cond.code y c n r ∈ tblG) : GoodIn tblG (Cond.code y c n r :: tblG) := fun w hw => (List.mem_cons.mp hw).elim (fun e => by rw [e]; exact tg_self h) tg_self
theorem gd_codeW {y : MethodName} {c : ByteArray} {n : Nat} {r : Option FieldType} {hh : List (Nat × Nat × Nat × Nat)} (h : Cond.codeWith y c n r hh ∈ tblG) : GoodIn tblG (Cond.codeWith y c n r hh :: tblG) := fun w hw => (List.mem_cons.mp hw).elim (fun e => by rw [e]; exact tg_self h) tg_self
theorem gd_V {own C : String} {idx : Nat} {y : MethodName} {c : ByteArray} {n : Nat} {r : Option FieldType} (h1 : Cond.methodLink own idx y ∈ tblG) (h2 : Cond.instanceMethod y ∈ tblG) (h3 : Cond.selects C y y ∈ tblG) (h4 : Cond.initialized C ∈ tblG) (h5 : Cond.code y c n r ∈ tblG) : GoodIn tblG (wsV own idx C y (Cond.code y c n r :: tblG)) := by
  intro w hw
  rcases List.mem_append.mp (show w ∈ ([.methodLink own idx y, .instanceMethod y, .selects C y y, .initialized C] : List Cond) ++ (Cond.code y c n r :: tblG) from hw) with hw | hw
  · simp only [List.mem_cons, List.not_mem_nil, or_false] at hw
    rcases hw with rfl | rfl | rfl | rfl
    · exact tg_self h1
    · exact tg_self h2
    · exact tg_self h3
    · exact tg_self h4
  · exact gd_code h5 w hw
theorem gd_S {own : String} {idx : Nat} {y : MethodName} {c : ByteArray} {n : Nat} {r : Option FieldType} (h1 : Cond.methodLink own idx y ∈ tblG) (h2 : Cond.static y ∈ tblG) (h4 : Cond.initialized y.cls ∈ tblG) (h5 : Cond.code y c n r ∈ tblG) : GoodIn tblG (va_wsS own idx y (Cond.code y c n r :: tblG)) := by
  intro w hw
  rcases List.mem_append.mp (show w ∈ ([.methodLink own idx y, .static y, .initialized y.cls] : List Cond) ++ (Cond.code y c n r :: tblG) from hw) with hw | hw
  · simp only [List.mem_cons, List.not_mem_nil, or_false] at hw
    rcases hw with rfl | rfl | rfl
    · exact tg_self h1
    · exact tg_self h2
    · exact tg_self h4
  · exact gd_code h5 w hw
theorem gd_SW {own : String} {idx : Nat} {y : MethodName} {c : ByteArray} {n : Nat} {r : Option FieldType} {hh : List (Nat × Nat × Nat × Nat)} (h1 : Cond.methodLink own idx y ∈ tblG) (h2 : Cond.static y ∈ tblG) (h4 : Cond.initialized y.cls ∈ tblG) (h5 : Cond.codeWith y c n r hh ∈ tblG) : GoodIn tblG (va_wsS own idx y (Cond.codeWith y c n r hh :: tblG)) := by
  intro w hw
  rcases List.mem_append.mp (show w ∈ ([.methodLink own idx y, .static y, .initialized y.cls] : List Cond) ++ (Cond.codeWith y c n r hh :: tblG) from hw) with hw | hw
  · simp only [List.mem_cons, List.not_mem_nil, or_false] at hw
    rcases hw with rfl | rfl | rfl
    · exact tg_self h1
    · exact tg_self h2
    · exact tg_self h4
  · exact gd_codeW h5 w hw
section LpLoop
variable {p : Program} {l : Launch} {e : Env} {R : Room} {s : State} {m : MethodId} {args : Array Value} {below : List Frame} {meth : Method} {c : Code} {cells slots : Nat} {Q : State → Prop}
/-- a counting loop -/
theorem lp_loop {pc : Nat} (N : Nat) (Inv : Nat → Heap → List Loc → Array Slot → Prop)
    (step : ∀ k : Nat, k < N → (∀ (H : Heap) (locs : List Loc) (ls : Array Slot), Inv (k + 1) H locs ls → W p l e R s m args below meth c H locs cells slots Q (F0 m pc ls [])) → ∀ (H : Heap) (locs : List Loc) (ls : Array Slot), Inv k H locs ls → W p l e R s m args below meth c H locs cells slots Q (F0 m pc ls []))
    (exit : ∀ (H : Heap) (locs : List Loc) (ls : Array Slot), Inv N H locs ls → W p l e R s m args below meth c H locs cells slots Q (F0 m pc ls []))
    {H : Heap} {locs : List Loc} {ls : Array Slot} (k0 : Nat) (hk : k0 ≤ N) (h0 : Inv k0 H locs ls) : W p l e R s m args below meth c H locs cells slots Q (F0 m pc ls []) := by
  have key : ∀ (d k : Nat), k + d = N → ∀ (H : Heap) (locs : List Loc) (ls : Array Slot), Inv k H locs ls → W p l e R s m args below meth c H locs cells slots Q (F0 m pc ls []) := by
    intro d
    induction d with
    | zero => intro k h; obtain rfl : k = N := by omega
              exact exit
    | succ d ih => intro k h; exact step k (by omega) (ih (k + 1) (by omega))
  exact key (N - k0) k0 (by omega) H locs ls h0
end LpLoop
