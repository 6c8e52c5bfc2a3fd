section
-- ===== PART A: goes FIRST, ahead of the names: the tables' words, and 'selects' of the private methods out of them =====
/-- a private method of a class that the tables say can be made, by its rows of tables_1 -/
def lw_okq (q : MethodName × Nat) : Prop := (q.1.cls ≠ "java/lang/invoke/MethodHandle" ∧ q.1.cls ≠ "java/lang/invoke/VarHandle") ∧ Cond.instantiable q.1.cls q.2 ∈ tables_1 ∧ Cond.privateMethod q.1 ∈ tables_1 ∧ Cond.instanceMethod q.1 ∈ tables_1
theorem lw_p0 : lw_okq (⟨"PrunedSearch$ClauseReader", "start", "(LPrunedSearch$Text;)V"⟩, 10) := ⟨⟨by decide +kernel, by decide +kernel⟩, List.mem_of_getElem? (i := 86) (by decide +kernel), List.mem_of_getElem? (i := 476) (by decide +kernel), List.mem_of_getElem? (i := 477) (by decide +kernel)⟩
theorem lw_p1 : lw_okq (⟨"PrunedSearch$Tokens", "lengthenWord", "(CI)V"⟩, 4) := ⟨⟨by decide +kernel, by decide +kernel⟩, List.mem_of_getElem? (i := 92) (by decide +kernel), List.mem_of_getElem? (i := 493) (by decide +kernel), List.mem_of_getElem? (i := 494) (by decide +kernel)⟩
theorem lw_p2 : lw_okq (⟨"PrunedSearch$Tokens", "put", "(CIJ)V"⟩, 4) := ⟨⟨by decide +kernel, by decide +kernel⟩, List.mem_of_getElem? (i := 92) (by decide +kernel), List.mem_of_getElem? (i := 498) (by decide +kernel), List.mem_of_getElem? (i := 499) (by decide +kernel)⟩
theorem lw_p3 : lw_okq (⟨"PrunedSearch$Tokens", "completeNeck", "()V"⟩, 4) := ⟨⟨by decide +kernel, by decide +kernel⟩, List.mem_of_getElem? (i := 92) (by decide +kernel), List.mem_of_getElem? (i := 502) (by decide +kernel), List.mem_of_getElem? (i := 503) (by decide +kernel)⟩
theorem lw_p4 : lw_okq (⟨"PrunedSearch$ClauseReader", "startPart", "()V"⟩, 10) := ⟨⟨by decide +kernel, by decide +kernel⟩, List.mem_of_getElem? (i := 86) (by decide +kernel), List.mem_of_getElem? (i := 510) (by decide +kernel), List.mem_of_getElem? (i := 511) (by decide +kernel)⟩
theorem lw_p5 : lw_okq (⟨"PrunedSearch$ClauseReader", "isAt", "(C)Z"⟩, 10) := ⟨⟨by decide +kernel, by decide +kernel⟩, List.mem_of_getElem? (i := 86) (by decide +kernel), List.mem_of_getElem? (i := 514) (by decide +kernel), List.mem_of_getElem? (i := 515) (by decide +kernel)⟩
theorem lw_p6 : lw_okq (⟨"PrunedSearch$ClauseReader", "readClause", "()Z"⟩, 10) := ⟨⟨by decide +kernel, by decide +kernel⟩, List.mem_of_getElem? (i := 86) (by decide +kernel), List.mem_of_getElem? (i := 522) (by decide +kernel), List.mem_of_getElem? (i := 523) (by decide +kernel)⟩
theorem lw_p7 : lw_okq (⟨"PrunedSearch$ClauseReader", "readTerm", "()Z"⟩, 10) := ⟨⟨by decide +kernel, by decide +kernel⟩, List.mem_of_getElem? (i := 86) (by decide +kernel), List.mem_of_getElem? (i := 526) (by decide +kernel), List.mem_of_getElem? (i := 527) (by decide +kernel)⟩
theorem lw_p8 : lw_okq (⟨"PrunedSearch$ClauseReader", "variableSymbol", "(J)I"⟩, 10) := ⟨⟨by decide +kernel, by decide +kernel⟩, List.mem_of_getElem? (i := 86) (by decide +kernel), List.mem_of_getElem? (i := 534) (by decide +kernel), List.mem_of_getElem? (i := 535) (by decide +kernel)⟩
theorem lw_p9 : lw_okq (⟨"PrunedSearch$ClauseReader", "readArguments", "(I)Z"⟩, 10) := ⟨⟨by decide +kernel, by decide +kernel⟩, List.mem_of_getElem? (i := 86) (by decide +kernel), List.mem_of_getElem? (i := 547) (by decide +kernel), List.mem_of_getElem? (i := 548) (by decide +kernel)⟩
theorem lw_p10 : lw_okq (⟨"PrunedSearch$ClauseReader", "enter", "()Z"⟩, 10) := ⟨⟨by decide +kernel, by decide +kernel⟩, List.mem_of_getElem? (i := 86) (by decide +kernel), List.mem_of_getElem? (i := 551) (by decide +kernel), List.mem_of_getElem? (i := 552) (by decide +kernel)⟩
theorem lw_p11 : lw_okq (⟨"PrunedSearch$ClauseReader", "accept", "(C)Z"⟩, 10) := ⟨⟨by decide +kernel, by decide +kernel⟩, List.mem_of_getElem? (i := 86) (by decide +kernel), List.mem_of_getElem? (i := 555) (by decide +kernel), List.mem_of_getElem? (i := 556) (by decide +kernel)⟩
theorem lw_p12 : lw_okq (⟨"PrunedSearch$ClauseReader", "readList", "()Z"⟩, 10) := ⟨⟨by decide +kernel, by decide +kernel⟩, List.mem_of_getElem? (i := 86) (by decide +kernel), List.mem_of_getElem? (i := 564) (by decide +kernel), List.mem_of_getElem? (i := 565) (by decide +kernel)⟩
theorem lw_p13 : lw_okq (⟨"PrunedSearch$ClauseReader", "readGoals", "()Z"⟩, 10) := ⟨⟨by decide +kernel, by decide +kernel⟩, List.mem_of_getElem? (i := 86) (by decide +kernel), List.mem_of_getElem? (i := 568) (by decide +kernel), List.mem_of_getElem? (i := 569) (by decide +kernel)⟩
theorem lw_p14 : lw_okq (⟨"PrunedSearch$ClauseReader", "endPart", "()Z"⟩, 10) := ⟨⟨by decide +kernel, by decide +kernel⟩, List.mem_of_getElem? (i := 86) (by decide +kernel), List.mem_of_getElem? (i := 572) (by decide +kernel), List.mem_of_getElem? (i := 573) (by decide +kernel)⟩
theorem lw_p15 : lw_okq (⟨"PrunedSearch$Code", "measure", "(I)V"⟩, 5) := ⟨⟨by decide +kernel, by decide +kernel⟩, List.mem_of_getElem? (i := 63) (by decide +kernel), List.mem_of_getElem? (i := 589) (by decide +kernel), List.mem_of_getElem? (i := 590) (by decide +kernel)⟩
def lw_privs_1 : List (MethodName × Nat) := [(⟨"PrunedSearch$ClauseReader", "start", "(LPrunedSearch$Text;)V"⟩, 10), (⟨"PrunedSearch$Tokens", "lengthenWord", "(CI)V"⟩, 4), (⟨"PrunedSearch$Tokens", "put", "(CIJ)V"⟩, 4), (⟨"PrunedSearch$Tokens", "completeNeck", "()V"⟩, 4), (⟨"PrunedSearch$ClauseReader", "startPart", "()V"⟩, 10), (⟨"PrunedSearch$ClauseReader", "isAt", "(C)Z"⟩, 10), (⟨"PrunedSearch$ClauseReader", "readClause", "()Z"⟩, 10), (⟨"PrunedSearch$ClauseReader", "readTerm", "()Z"⟩, 10), (⟨"PrunedSearch$ClauseReader", "variableSymbol", "(J)I"⟩, 10), (⟨"PrunedSearch$ClauseReader", "readArguments", "(I)Z"⟩, 10), (⟨"PrunedSearch$ClauseReader", "enter", "()Z"⟩, 10), (⟨"PrunedSearch$ClauseReader", "accept", "(C)Z"⟩, 10), (⟨"PrunedSearch$ClauseReader", "readList", "()Z"⟩, 10), (⟨"PrunedSearch$ClauseReader", "readGoals", "()Z"⟩, 10), (⟨"PrunedSearch$ClauseReader", "endPart", "()Z"⟩, 10), (⟨"PrunedSearch$Code", "measure", "(I)V"⟩, 5)]
theorem lw_r1 : ∀ q ∈ lw_privs_1, lw_okq q := List.forall_mem_cons.mpr ⟨lw_p0, List.forall_mem_cons.mpr ⟨lw_p1, List.forall_mem_cons.mpr ⟨lw_p2, List.forall_mem_cons.mpr ⟨lw_p3, List.forall_mem_cons.mpr ⟨lw_p4, List.forall_mem_cons.mpr ⟨lw_p5, List.forall_mem_cons.mpr ⟨lw_p6, List.forall_mem_cons.mpr ⟨lw_p7, List.forall_mem_cons.mpr ⟨lw_p8, List.forall_mem_cons.mpr ⟨lw_p9, List.forall_mem_cons.mpr ⟨lw_p10, List.forall_mem_cons.mpr ⟨lw_p11, List.forall_mem_cons.mpr ⟨lw_p12, List.forall_mem_cons.mpr ⟨lw_p13, List.forall_mem_cons.mpr ⟨lw_p14, List.forall_mem_cons.mpr ⟨lw_p15, fun _ h => absurd h List.not_mem_nil⟩⟩⟩⟩⟩⟩⟩⟩⟩⟩⟩⟩⟩⟩⟩⟩
theorem lw_p16 : lw_okq (⟨"PrunedSearch$ClauseReader", "outcome", "(ZI)I"⟩, 10) := ⟨⟨by decide +kernel, by decide +kernel⟩, List.mem_of_getElem? (i := 86) (by decide +kernel), List.mem_of_getElem? (i := 596) (by decide +kernel), List.mem_of_getElem? (i := 597) (by decide +kernel)⟩
theorem lw_p17 : lw_okq (⟨"PrunedSearch$Terms", "sameVariable", "(I)I"⟩, 11) := ⟨⟨by decide +kernel, by decide +kernel⟩, List.mem_of_getElem? (i := 150) (by decide +kernel), List.mem_of_getElem? (i := 665) (by decide +kernel), List.mem_of_getElem? (i := 666) (by decide +kernel)⟩
theorem lw_p18 : lw_okq (⟨"PrunedSearch$Search", "step", "()V"⟩, 14) := ⟨⟨by decide +kernel, by decide +kernel⟩, List.mem_of_getElem? (i := 144) (by decide +kernel), List.mem_of_getElem? (i := 698) (by decide +kernel), List.mem_of_getElem? (i := 699) (by decide +kernel)⟩
theorem lw_p19 : lw_okq (⟨"PrunedSearch$Search", "takeChoice", "()I"⟩, 14) := ⟨⟨by decide +kernel, by decide +kernel⟩, List.mem_of_getElem? (i := 144) (by decide +kernel), List.mem_of_getElem? (i := 702) (by decide +kernel), List.mem_of_getElem? (i := 703) (by decide +kernel)⟩
theorem lw_p20 : lw_okq (⟨"PrunedSearch$Search", "takeGoal", "()I"⟩, 14) := ⟨⟨by decide +kernel, by decide +kernel⟩, List.mem_of_getElem? (i := 144) (by decide +kernel), List.mem_of_getElem? (i := 738) (by decide +kernel), List.mem_of_getElem? (i := 739) (by decide +kernel)⟩
theorem lw_p21 : lw_okq (⟨"PrunedSearch$Search", "candidates", "(I)I"⟩, 14) := ⟨⟨by decide +kernel, by decide +kernel⟩, List.mem_of_getElem? (i := 144) (by decide +kernel), List.mem_of_getElem? (i := 757) (by decide +kernel), List.mem_of_getElem? (i := 758) (by decide +kernel)⟩
theorem lw_p22 : lw_okq (⟨"PrunedSearch$Search", "choose", "(II)I"⟩, 14) := ⟨⟨by decide +kernel, by decide +kernel⟩, List.mem_of_getElem? (i := 144) (by decide +kernel), List.mem_of_getElem? (i := 768) (by decide +kernel), List.mem_of_getElem? (i := 769) (by decide +kernel)⟩
theorem lw_p23 : lw_okq (⟨"PrunedSearch$Search", "resolve", "(I)V"⟩, 14) := ⟨⟨by decide +kernel, by decide +kernel⟩, List.mem_of_getElem? (i := 144) (by decide +kernel), List.mem_of_getElem? (i := 787) (by decide +kernel), List.mem_of_getElem? (i := 788) (by decide +kernel)⟩
theorem lw_p24 : lw_okq (⟨"PrunedSearch$Terms", "push", "(I)V"⟩, 11) := ⟨⟨by decide +kernel, by decide +kernel⟩, List.mem_of_getElem? (i := 150) (by decide +kernel), List.mem_of_getElem? (i := 795) (by decide +kernel), List.mem_of_getElem? (i := 796) (by decide +kernel)⟩
theorem lw_p25 : lw_okq (⟨"PrunedSearch$Terms", "pop", "()I"⟩, 11) := ⟨⟨by decide +kernel, by decide +kernel⟩, List.mem_of_getElem? (i := 150) (by decide +kernel), List.mem_of_getElem? (i := 800) (by decide +kernel), List.mem_of_getElem? (i := 801) (by decide +kernel)⟩
theorem lw_p26 : lw_okq (⟨"PrunedSearch$Terms", "letStand", "(II)V"⟩, 11) := ⟨⟨by decide +kernel, by decide +kernel⟩, List.mem_of_getElem? (i := 150) (by decide +kernel), List.mem_of_getElem? (i := 805) (by decide +kernel), List.mem_of_getElem? (i := 806) (by decide +kernel)⟩
theorem lw_p27 : lw_okq (⟨"PrunedSearch$Terms", "pushPairs", "(II)V"⟩, 11) := ⟨⟨by decide +kernel, by decide +kernel⟩, List.mem_of_getElem? (i := 150) (by decide +kernel), List.mem_of_getElem? (i := 809) (by decide +kernel), List.mem_of_getElem? (i := 810) (by decide +kernel)⟩
theorem lw_p28 : lw_okq (⟨"PrunedSearch$Terms", "pushArguments", "(I)V"⟩, 11) := ⟨⟨by decide +kernel, by decide +kernel⟩, List.mem_of_getElem? (i := 150) (by decide +kernel), List.mem_of_getElem? (i := 818) (by decide +kernel), List.mem_of_getElem? (i := 819) (by decide +kernel)⟩
theorem lw_p29 : lw_okq (⟨"PrunedSearch$Search", "isLarge", "()Z"⟩, 14) := ⟨⟨by decide +kernel, by decide +kernel⟩, List.mem_of_getElem? (i := 144) (by decide +kernel), List.mem_of_getElem? (i := 823) (by decide +kernel), List.mem_of_getElem? (i := 824) (by decide +kernel)⟩
theorem lw_p30 : lw_okq (⟨"PrunedSearch$TermWriter", "write", "(I)V"⟩, 10) := ⟨⟨by decide +kernel, by decide +kernel⟩, List.mem_of_getElem? (i := 240) (by decide +kernel), List.mem_of_getElem? (i := 849) (by decide +kernel), List.mem_of_getElem? (i := 850) (by decide +kernel)⟩
theorem lw_p31 : lw_okq (⟨"PrunedSearch$TermWriter", "push", "(II)V"⟩, 10) := ⟨⟨by decide +kernel, by decide +kernel⟩, List.mem_of_getElem? (i := 240) (by decide +kernel), List.mem_of_getElem? (i := 853) (by decide +kernel), List.mem_of_getElem? (i := 854) (by decide +kernel)⟩
def lw_privs_2 : List (MethodName × Nat) := [(⟨"PrunedSearch$ClauseReader", "outcome", "(ZI)I"⟩, 10), (⟨"PrunedSearch$Terms", "sameVariable", "(I)I"⟩, 11), (⟨"PrunedSearch$Search", "step", "()V"⟩, 14), (⟨"PrunedSearch$Search", "takeChoice", "()I"⟩, 14), (⟨"PrunedSearch$Search", "takeGoal", "()I"⟩, 14), (⟨"PrunedSearch$Search", "candidates", "(I)I"⟩, 14), (⟨"PrunedSearch$Search", "choose", "(II)I"⟩, 14), (⟨"PrunedSearch$Search", "resolve", "(I)V"⟩, 14), (⟨"PrunedSearch$Terms", "push", "(I)V"⟩, 11), (⟨"PrunedSearch$Terms", "pop", "()I"⟩, 11), (⟨"PrunedSearch$Terms", "letStand", "(II)V"⟩, 11), (⟨"PrunedSearch$Terms", "pushPairs", "(II)V"⟩, 11), (⟨"PrunedSearch$Terms", "pushArguments", "(I)V"⟩, 11), (⟨"PrunedSearch$Search", "isLarge", "()Z"⟩, 14), (⟨"PrunedSearch$TermWriter", "write", "(I)V"⟩, 10), (⟨"PrunedSearch$TermWriter", "push", "(II)V"⟩, 10)]
theorem lw_r2 : ∀ q ∈ lw_privs_2, lw_okq q := List.forall_mem_cons.mpr ⟨lw_p16, List.forall_mem_cons.mpr ⟨lw_p17, List.forall_mem_cons.mpr ⟨lw_p18, List.forall_mem_cons.mpr ⟨lw_p19, List.forall_mem_cons.mpr ⟨lw_p20, List.forall_mem_cons.mpr ⟨lw_p21, List.forall_mem_cons.mpr ⟨lw_p22, List.forall_mem_cons.mpr ⟨lw_p23, List.forall_mem_cons.mpr ⟨lw_p24, List.forall_mem_cons.mpr ⟨lw_p25, List.forall_mem_cons.mpr ⟨lw_p26, List.forall_mem_cons.mpr ⟨lw_p27, List.forall_mem_cons.mpr ⟨lw_p28, List.forall_mem_cons.mpr ⟨lw_p29, List.forall_mem_cons.mpr ⟨lw_p30, List.forall_mem_cons.mpr ⟨lw_p31, fun _ h => absurd h List.not_mem_nil⟩⟩⟩⟩⟩⟩⟩⟩⟩⟩⟩⟩⟩⟩⟩⟩
theorem lw_p32 : lw_okq (⟨"PrunedSearch$TermWriter", "put", "(C)V"⟩, 10) := ⟨⟨by decide +kernel, by decide +kernel⟩, List.mem_of_getElem? (i := 240) (by decide +kernel), List.mem_of_getElem? (i := 858) (by decide +kernel), List.mem_of_getElem? (i := 859) (by decide +kernel)⟩
theorem lw_p33 : lw_okq (⟨"PrunedSearch$TermWriter", "writeTerm", "(I)V"⟩, 10) := ⟨⟨by decide +kernel, by decide +kernel⟩, List.mem_of_getElem? (i := 240) (by decide +kernel), List.mem_of_getElem? (i := 863) (by decide +kernel), List.mem_of_getElem? (i := 864) (by decide +kernel)⟩
theorem lw_p34 : lw_okq (⟨"PrunedSearch$TermWriter", "writeVariable", "(I)V"⟩, 10) := ⟨⟨by decide +kernel, by decide +kernel⟩, List.mem_of_getElem? (i := 240) (by decide +kernel), List.mem_of_getElem? (i := 868) (by decide +kernel), List.mem_of_getElem? (i := 869) (by decide +kernel)⟩
theorem lw_p35 : lw_okq (⟨"PrunedSearch$TermWriter", "pushList", "(I)V"⟩, 10) := ⟨⟨by decide +kernel, by decide +kernel⟩, List.mem_of_getElem? (i := 240) (by decide +kernel), List.mem_of_getElem? (i := 872) (by decide +kernel), List.mem_of_getElem? (i := 873) (by decide +kernel)⟩
theorem lw_p36 : lw_okq (⟨"PrunedSearch$TermWriter", "writeWord", "(J)V"⟩, 10) := ⟨⟨by decide +kernel, by decide +kernel⟩, List.mem_of_getElem? (i := 240) (by decide +kernel), List.mem_of_getElem? (i := 881) (by decide +kernel), List.mem_of_getElem? (i := 882) (by decide +kernel)⟩
theorem lw_p37 : lw_okq (⟨"PrunedSearch$TermWriter", "pushArguments", "(II)V"⟩, 10) := ⟨⟨by decide +kernel, by decide +kernel⟩, List.mem_of_getElem? (i := 240) (by decide +kernel), List.mem_of_getElem? (i := 887) (by decide +kernel), List.mem_of_getElem? (i := 888) (by decide +kernel)⟩
theorem lw_p38 : lw_okq (⟨"PrunedSearch$TermWriter", "writeRest", "(I)V"⟩, 10) := ⟨⟨by decide +kernel, by decide +kernel⟩, List.mem_of_getElem? (i := 240) (by decide +kernel), List.mem_of_getElem? (i := 891) (by decide +kernel), List.mem_of_getElem? (i := 892) (by decide +kernel)⟩
theorem lw_p39 : lw_okq (⟨"PrunedSearchModel", "read", "(Z)I"⟩, 55) := ⟨⟨by decide +kernel, by decide +kernel⟩, List.mem_of_getElem? (i := 949) (by decide +kernel), List.mem_of_getElem? (i := 1139) (by decide +kernel), List.mem_of_getElem? (i := 1140) (by decide +kernel)⟩
theorem lw_p40 : lw_okq (⟨"PrunedSearchModel", "beginPiece", "()V"⟩, 55) := ⟨⟨by decide +kernel, by decide +kernel⟩, List.mem_of_getElem? (i := 949) (by decide +kernel), List.mem_of_getElem? (i := 1143) (by decide +kernel), List.mem_of_getElem? (i := 1144) (by decide +kernel)⟩
theorem lw_p41 : lw_okq (⟨"PrunedSearchModel", "take", "()V"⟩, 55) := ⟨⟨by decide +kernel, by decide +kernel⟩, List.mem_of_getElem? (i := 949) (by decide +kernel), List.mem_of_getElem? (i := 1147) (by decide +kernel), List.mem_of_getElem? (i := 1148) (by decide +kernel)⟩
theorem lw_p42 : lw_okq (⟨"PrunedSearchModel", "at", "(I)I"⟩, 55) := ⟨⟨by decide +kernel, by decide +kernel⟩, List.mem_of_getElem? (i := 949) (by decide +kernel), List.mem_of_getElem? (i := 1151) (by decide +kernel), List.mem_of_getElem? (i := 1152) (by decide +kernel)⟩
theorem lw_p43 : lw_okq (⟨"PrunedSearchModel", "push", "(I)Z"⟩, 55) := ⟨⟨by decide +kernel, by decide +kernel⟩, List.mem_of_getElem? (i := 949) (by decide +kernel), List.mem_of_getElem? (i := 1155) (by decide +kernel), List.mem_of_getElem? (i := 1156) (by decide +kernel)⟩
theorem lw_p44 : lw_okq (⟨"PrunedSearchModel", "outside", "(IZ)I"⟩, 55) := ⟨⟨by decide +kernel, by decide +kernel⟩, List.mem_of_getElem? (i := 949) (by decide +kernel), List.mem_of_getElem? (i := 1159) (by decide +kernel), List.mem_of_getElem? (i := 1160) (by decide +kernel)⟩
theorem lw_p45 : lw_okq (⟨"PrunedSearchModel", "beginGoal", "()V"⟩, 55) := ⟨⟨by decide +kernel, by decide +kernel⟩, List.mem_of_getElem? (i := 949) (by decide +kernel), List.mem_of_getElem? (i := 1163) (by decide +kernel), List.mem_of_getElem? (i := 1164) (by decide +kernel)⟩
theorem lw_p46 : lw_okq (⟨"PrunedSearchModel", "emit", "(JI)V"⟩, 55) := ⟨⟨by decide +kernel, by decide +kernel⟩, List.mem_of_getElem? (i := 949) (by decide +kernel), List.mem_of_getElem? (i := 1167) (by decide +kernel), List.mem_of_getElem? (i := 1168) (by decide +kernel)⟩
theorem lw_p47 : lw_okq (⟨"PrunedSearchModel", "endPiece", "()V"⟩, 55) := ⟨⟨by decide +kernel, by decide +kernel⟩, List.mem_of_getElem? (i := 949) (by decide +kernel), List.mem_of_getElem? (i := 1171) (by decide +kernel), List.mem_of_getElem? (i := 1172) (by decide +kernel)⟩
def lw_privs_3 : List (MethodName × Nat) := [(⟨"PrunedSearch$TermWriter", "put", "(C)V"⟩, 10), (⟨"PrunedSearch$TermWriter", "writeTerm", "(I)V"⟩, 10), (⟨"PrunedSearch$TermWriter", "writeVariable", "(I)V"⟩, 10), (⟨"PrunedSearch$TermWriter", "pushList", "(I)V"⟩, 10), (⟨"PrunedSearch$TermWriter", "writeWord", "(J)V"⟩, 10), (⟨"PrunedSearch$TermWriter", "pushArguments", "(II)V"⟩, 10), (⟨"PrunedSearch$TermWriter", "writeRest", "(I)V"⟩, 10), (⟨"PrunedSearchModel", "read", "(Z)I"⟩, 55), (⟨"PrunedSearchModel", "beginPiece", "()V"⟩, 55), (⟨"PrunedSearchModel", "take", "()V"⟩, 55), (⟨"PrunedSearchModel", "at", "(I)I"⟩, 55), (⟨"PrunedSearchModel", "push", "(I)Z"⟩, 55), (⟨"PrunedSearchModel", "outside", "(IZ)I"⟩, 55), (⟨"PrunedSearchModel", "beginGoal", "()V"⟩, 55), (⟨"PrunedSearchModel", "emit", "(JI)V"⟩, 55), (⟨"PrunedSearchModel", "endPiece", "()V"⟩, 55)]
theorem lw_r3 : ∀ q ∈ lw_privs_3, lw_okq q := List.forall_mem_cons.mpr ⟨lw_p32, List.forall_mem_cons.mpr ⟨lw_p33, List.forall_mem_cons.mpr ⟨lw_p34, List.forall_mem_cons.mpr ⟨lw_p35, List.forall_mem_cons.mpr ⟨lw_p36, List.forall_mem_cons.mpr ⟨lw_p37, List.forall_mem_cons.mpr ⟨lw_p38, List.forall_mem_cons.mpr ⟨lw_p39, List.forall_mem_cons.mpr ⟨lw_p40, List.forall_mem_cons.mpr ⟨lw_p41, List.forall_mem_cons.mpr ⟨lw_p42, List.forall_mem_cons.mpr ⟨lw_p43, List.forall_mem_cons.mpr ⟨lw_p44, List.forall_mem_cons.mpr ⟨lw_p45, List.forall_mem_cons.mpr ⟨lw_p46, List.forall_mem_cons.mpr ⟨lw_p47, fun _ h => absurd h List.not_mem_nil⟩⟩⟩⟩⟩⟩⟩⟩⟩⟩⟩⟩⟩⟩⟩⟩
theorem lw_p48 : lw_okq (⟨"PrunedSearchModel", "beginTerm", "()Z"⟩, 55) := ⟨⟨by decide +kernel, by decide +kernel⟩, List.mem_of_getElem? (i := 949) (by decide +kernel), List.mem_of_getElem? (i := 1176) (by decide +kernel), List.mem_of_getElem? (i := 1177) (by decide +kernel)⟩
theorem lw_p49 : lw_okq (⟨"PrunedSearchModel", "emitVariable", "()V"⟩, 55) := ⟨⟨by decide +kernel, by decide +kernel⟩, List.mem_of_getElem? (i := 949) (by decide +kernel), List.mem_of_getElem? (i := 1180) (by decide +kernel), List.mem_of_getElem? (i := 1181) (by decide +kernel)⟩
theorem lw_p50 : lw_okq (⟨"PrunedSearchModel", "goOn", "()Z"⟩, 55) := ⟨⟨by decide +kernel, by decide +kernel⟩, List.mem_of_getElem? (i := 949) (by decide +kernel), List.mem_of_getElem? (i := 1185) (by decide +kernel), List.mem_of_getElem? (i := 1186) (by decide +kernel)⟩
theorem lw_p51 : lw_okq (⟨"PrunedSearchModel", "noSearch", "()V"⟩, 55) := ⟨⟨by decide +kernel, by decide +kernel⟩, List.mem_of_getElem? (i := 949) (by decide +kernel), List.mem_of_getElem? (i := 1189) (by decide +kernel), List.mem_of_getElem? (i := 1190) (by decide +kernel)⟩
theorem lw_p52 : lw_okq (⟨"PrunedSearchModel", "tooMuch", "(I)Z"⟩, 55) := ⟨⟨by decide +kernel, by decide +kernel⟩, List.mem_of_getElem? (i := 949) (by decide +kernel), List.mem_of_getElem? (i := 1193) (by decide +kernel), List.mem_of_getElem? (i := 1194) (by decide +kernel)⟩
theorem lw_p53 : lw_okq (⟨"PrunedSearchModel", "endOf", "(I)I"⟩, 55) := ⟨⟨by decide +kernel, by decide +kernel⟩, List.mem_of_getElem? (i := 949) (by decide +kernel), List.mem_of_getElem? (i := 1197) (by decide +kernel), List.mem_of_getElem? (i := 1198) (by decide +kernel)⟩
theorem lw_p54 : lw_okq (⟨"PrunedSearchModel", "addNames", "()I"⟩, 55) := ⟨⟨by decide +kernel, by decide +kernel⟩, List.mem_of_getElem? (i := 949) (by decide +kernel), List.mem_of_getElem? (i := 1201) (by decide +kernel), List.mem_of_getElem? (i := 1202) (by decide +kernel)⟩
theorem lw_p55 : lw_okq (⟨"PrunedSearchModel", "keep", "(III)V"⟩, 55) := ⟨⟨by decide +kernel, by decide +kernel⟩, List.mem_of_getElem? (i := 949) (by decide +kernel), List.mem_of_getElem? (i := 1205) (by decide +kernel), List.mem_of_getElem? (i := 1206) (by decide +kernel)⟩
theorem lw_p56 : lw_okq (⟨"PrunedSearchModel", "begin", "()V"⟩, 55) := ⟨⟨by decide +kernel, by decide +kernel⟩, List.mem_of_getElem? (i := 949) (by decide +kernel), List.mem_of_getElem? (i := 1213) (by decide +kernel), List.mem_of_getElem? (i := 1214) (by decide +kernel)⟩
theorem lw_p57 : lw_okq (⟨"PrunedSearchModel", "clearFrame", "(I)V"⟩, 55) := ⟨⟨by decide +kernel, by decide +kernel⟩, List.mem_of_getElem? (i := 949) (by decide +kernel), List.mem_of_getElem? (i := 1217) (by decide +kernel), List.mem_of_getElem? (i := 1218) (by decide +kernel)⟩
theorem lw_p58 : lw_okq (⟨"PrunedSearchModel", "prepend", "(III)V"⟩, 55) := ⟨⟨by decide +kernel, by decide +kernel⟩, List.mem_of_getElem? (i := 949) (by decide +kernel), List.mem_of_getElem? (i := 1221) (by decide +kernel), List.mem_of_getElem? (i := 1222) (by decide +kernel)⟩
theorem lw_p59 : lw_okq (⟨"PrunedSearchModel", "end", "(I)V"⟩, 55) := ⟨⟨by decide +kernel, by decide +kernel⟩, List.mem_of_getElem? (i := 949) (by decide +kernel), List.mem_of_getElem? (i := 1229) (by decide +kernel), List.mem_of_getElem? (i := 1230) (by decide +kernel)⟩
theorem lw_p60 : lw_okq (⟨"PrunedSearchModel", "step", "()V"⟩, 55) := ⟨⟨by decide +kernel, by decide +kernel⟩, List.mem_of_getElem? (i := 949) (by decide +kernel), List.mem_of_getElem? (i := 1233) (by decide +kernel), List.mem_of_getElem? (i := 1234) (by decide +kernel)⟩
theorem lw_p61 : lw_okq (⟨"PrunedSearchModel", "forward", "()V"⟩, 55) := ⟨⟨by decide +kernel, by decide +kernel⟩, List.mem_of_getElem? (i := 949) (by decide +kernel), List.mem_of_getElem? (i := 1237) (by decide +kernel), List.mem_of_getElem? (i := 1238) (by decide +kernel)⟩
theorem lw_p62 : lw_okq (⟨"PrunedSearchModel", "isWordAlone", "(IJ)Z"⟩, 55) := ⟨⟨by decide +kernel, by decide +kernel⟩, List.mem_of_getElem? (i := 949) (by decide +kernel), List.mem_of_getElem? (i := 1242) (by decide +kernel), List.mem_of_getElem? (i := 1243) (by decide +kernel)⟩
theorem lw_p63 : lw_okq (⟨"PrunedSearchModel", "candidate", "(III)I"⟩, 55) := ⟨⟨by decide +kernel, by decide +kernel⟩, List.mem_of_getElem? (i := 949) (by decide +kernel), List.mem_of_getElem? (i := 1247) (by decide +kernel), List.mem_of_getElem? (i := 1248) (by decide +kernel)⟩
def lw_privs_4 : List (MethodName × Nat) := [(⟨"PrunedSearchModel", "beginTerm", "()Z"⟩, 55), (⟨"PrunedSearchModel", "emitVariable", "()V"⟩, 55), (⟨"PrunedSearchModel", "goOn", "()Z"⟩, 55), (⟨"PrunedSearchModel", "noSearch", "()V"⟩, 55), (⟨"PrunedSearchModel", "tooMuch", "(I)Z"⟩, 55), (⟨"PrunedSearchModel", "endOf", "(I)I"⟩, 55), (⟨"PrunedSearchModel", "addNames", "()I"⟩, 55), (⟨"PrunedSearchModel", "keep", "(III)V"⟩, 55), (⟨"PrunedSearchModel", "begin", "()V"⟩, 55), (⟨"PrunedSearchModel", "clearFrame", "(I)V"⟩, 55), (⟨"PrunedSearchModel", "prepend", "(III)V"⟩, 55), (⟨"PrunedSearchModel", "end", "(I)V"⟩, 55), (⟨"PrunedSearchModel", "step", "()V"⟩, 55), (⟨"PrunedSearchModel", "forward", "()V"⟩, 55), (⟨"PrunedSearchModel", "isWordAlone", "(IJ)Z"⟩, 55), (⟨"PrunedSearchModel", "candidate", "(III)I"⟩, 55)]
theorem lw_r4 : ∀ q ∈ lw_privs_4, lw_okq q := List.forall_mem_cons.mpr ⟨lw_p48, List.forall_mem_cons.mpr ⟨lw_p49, List.forall_mem_cons.mpr ⟨lw_p50, List.forall_mem_cons.mpr ⟨lw_p51, List.forall_mem_cons.mpr ⟨lw_p52, List.forall_mem_cons.mpr ⟨lw_p53, List.forall_mem_cons.mpr ⟨lw_p54, List.forall_mem_cons.mpr ⟨lw_p55, List.forall_mem_cons.mpr ⟨lw_p56, List.forall_mem_cons.mpr ⟨lw_p57, List.forall_mem_cons.mpr ⟨lw_p58, List.forall_mem_cons.mpr ⟨lw_p59, List.forall_mem_cons.mpr ⟨lw_p60, List.forall_mem_cons.mpr ⟨lw_p61, List.forall_mem_cons.mpr ⟨lw_p62, List.forall_mem_cons.mpr ⟨lw_p63, fun _ h => absurd h List.not_mem_nil⟩⟩⟩⟩⟩⟩⟩⟩⟩⟩⟩⟩⟩⟩⟩⟩
theorem lw_p64 : lw_okq (⟨"PrunedSearchModel", "follow", "(II)V"⟩, 55) := ⟨⟨by decide +kernel, by decide +kernel⟩, List.mem_of_getElem? (i := 949) (by decide +kernel), List.mem_of_getElem? (i := 1251) (by decide +kernel), List.mem_of_getElem? (i := 1252) (by decide +kernel)⟩
theorem lw_p65 : lw_okq (⟨"PrunedSearchModel", "resolve", "(II)V"⟩, 55) := ⟨⟨by decide +kernel, by decide +kernel⟩, List.mem_of_getElem? (i := 949) (by decide +kernel), List.mem_of_getElem? (i := 1255) (by decide +kernel), List.mem_of_getElem? (i := 1256) (by decide +kernel)⟩
theorem lw_p66 : lw_okq (⟨"PrunedSearchModel", "equalize", "(IIII)Z"⟩, 55) := ⟨⟨by decide +kernel, by decide +kernel⟩, List.mem_of_getElem? (i := 949) (by decide +kernel), List.mem_of_getElem? (i := 1259) (by decide +kernel), List.mem_of_getElem? (i := 1260) (by decide +kernel)⟩
theorem lw_p67 : lw_okq (⟨"PrunedSearchModel", "bind", "(IIII)Z"⟩, 55) := ⟨⟨by decide +kernel, by decide +kernel⟩, List.mem_of_getElem? (i := 949) (by decide +kernel), List.mem_of_getElem? (i := 1263) (by decide +kernel), List.mem_of_getElem? (i := 1264) (by decide +kernel)⟩
theorem lw_p68 : lw_okq (⟨"PrunedSearchModel", "stands", "(IIII)Z"⟩, 55) := ⟨⟨by decide +kernel, by decide +kernel⟩, List.mem_of_getElem? (i := 949) (by decide +kernel), List.mem_of_getElem? (i := 1267) (by decide +kernel), List.mem_of_getElem? (i := 1268) (by decide +kernel)⟩
theorem lw_p69 : lw_okq (⟨"PrunedSearchModel", "pushAll", "(III)I"⟩, 55) := ⟨⟨by decide +kernel, by decide +kernel⟩, List.mem_of_getElem? (i := 949) (by decide +kernel), List.mem_of_getElem? (i := 1271) (by decide +kernel), List.mem_of_getElem? (i := 1272) (by decide +kernel)⟩
theorem lw_p70 : lw_okq (⟨"PrunedSearchModel", "behind", "(I)I"⟩, 55) := ⟨⟨by decide +kernel, by decide +kernel⟩, List.mem_of_getElem? (i := 949) (by decide +kernel), List.mem_of_getElem? (i := 1275) (by decide +kernel), List.mem_of_getElem? (i := 1276) (by decide +kernel)⟩
theorem lw_p71 : lw_okq (⟨"PrunedSearchModel", "large", "()Z"⟩, 55) := ⟨⟨by decide +kernel, by decide +kernel⟩, List.mem_of_getElem? (i := 949) (by decide +kernel), List.mem_of_getElem? (i := 1279) (by decide +kernel), List.mem_of_getElem? (i := 1280) (by decide +kernel)⟩
theorem lw_p72 : lw_okq (⟨"PrunedSearchModel", "symbolsOf", "(II)I"⟩, 55) := ⟨⟨by decide +kernel, by decide +kernel⟩, List.mem_of_getElem? (i := 949) (by decide +kernel), List.mem_of_getElem? (i := 1283) (by decide +kernel), List.mem_of_getElem? (i := 1284) (by decide +kernel)⟩
theorem lw_p73 : lw_okq (⟨"PrunedSearchModel", "back", "()V"⟩, 55) := ⟨⟨by decide +kernel, by decide +kernel⟩, List.mem_of_getElem? (i := 949) (by decide +kernel), List.mem_of_getElem? (i := 1287) (by decide +kernel), List.mem_of_getElem? (i := 1288) (by decide +kernel)⟩
theorem lw_p74 : lw_okq (⟨"PrunedSearchModel", "again", "(I)V"⟩, 55) := ⟨⟨by decide +kernel, by decide +kernel⟩, List.mem_of_getElem? (i := 949) (by decide +kernel), List.mem_of_getElem? (i := 1291) (by decide +kernel), List.mem_of_getElem? (i := 1292) (by decide +kernel)⟩
theorem lw_p75 : lw_okq (⟨"PrunedSearchModel", "strip", "()V"⟩, 55) := ⟨⟨by decide +kernel, by decide +kernel⟩, List.mem_of_getElem? (i := 949) (by decide +kernel), List.mem_of_getElem? (i := 1295) (by decide +kernel), List.mem_of_getElem? (i := 1296) (by decide +kernel)⟩
theorem lw_p76 : lw_okq (⟨"PrunedSearchModel", "write", "(I)V"⟩, 55) := ⟨⟨by decide +kernel, by decide +kernel⟩, List.mem_of_getElem? (i := 949) (by decide +kernel), List.mem_of_getElem? (i := 1303) (by decide +kernel), List.mem_of_getElem? (i := 1304) (by decide +kernel)⟩
theorem lw_p77 : lw_okq (⟨"PrunedSearchModel", "later", "(IIII)I"⟩, 55) := ⟨⟨by decide +kernel, by decide +kernel⟩, List.mem_of_getElem? (i := 949) (by decide +kernel), List.mem_of_getElem? (i := 1307) (by decide +kernel), List.mem_of_getElem? (i := 1308) (by decide +kernel)⟩
theorem lw_p78 : lw_okq (⟨"PrunedSearchModel", "put", "(I)V"⟩, 55) := ⟨⟨by decide +kernel, by decide +kernel⟩, List.mem_of_getElem? (i := 949) (by decide +kernel), List.mem_of_getElem? (i := 1311) (by decide +kernel), List.mem_of_getElem? (i := 1312) (by decide +kernel)⟩
theorem lw_p79 : lw_okq (⟨"PrunedSearchModel", "writeTerm", "(III)I"⟩, 55) := ⟨⟨by decide +kernel, by decide +kernel⟩, List.mem_of_getElem? (i := 949) (by decide +kernel), List.mem_of_getElem? (i := 1315) (by decide +kernel), List.mem_of_getElem? (i := 1316) (by decide +kernel)⟩
def lw_privs_5 : List (MethodName × Nat) := [(⟨"PrunedSearchModel", "follow", "(II)V"⟩, 55), (⟨"PrunedSearchModel", "resolve", "(II)V"⟩, 55), (⟨"PrunedSearchModel", "equalize", "(IIII)Z"⟩, 55), (⟨"PrunedSearchModel", "bind", "(IIII)Z"⟩, 55), (⟨"PrunedSearchModel", "stands", "(IIII)Z"⟩, 55), (⟨"PrunedSearchModel", "pushAll", "(III)I"⟩, 55), (⟨"PrunedSearchModel", "behind", "(I)I"⟩, 55), (⟨"PrunedSearchModel", "large", "()Z"⟩, 55), (⟨"PrunedSearchModel", "symbolsOf", "(II)I"⟩, 55), (⟨"PrunedSearchModel", "back", "()V"⟩, 55), (⟨"PrunedSearchModel", "again", "(I)V"⟩, 55), (⟨"PrunedSearchModel", "strip", "()V"⟩, 55), (⟨"PrunedSearchModel", "write", "(I)V"⟩, 55), (⟨"PrunedSearchModel", "later", "(IIII)I"⟩, 55), (⟨"PrunedSearchModel", "put", "(I)V"⟩, 55), (⟨"PrunedSearchModel", "writeTerm", "(III)I"⟩, 55)]
theorem lw_r5 : ∀ q ∈ lw_privs_5, lw_okq q := List.forall_mem_cons.mpr ⟨lw_p64, List.forall_mem_cons.mpr ⟨lw_p65, List.forall_mem_cons.mpr ⟨lw_p66, List.forall_mem_cons.mpr ⟨lw_p67, List.forall_mem_cons.mpr ⟨lw_p68, List.forall_mem_cons.mpr ⟨lw_p69, List.forall_mem_cons.mpr ⟨lw_p70, List.forall_mem_cons.mpr ⟨lw_p71, List.forall_mem_cons.mpr ⟨lw_p72, List.forall_mem_cons.mpr ⟨lw_p73, List.forall_mem_cons.mpr ⟨lw_p74, List.forall_mem_cons.mpr ⟨lw_p75, List.forall_mem_cons.mpr ⟨lw_p76, List.forall_mem_cons.mpr ⟨lw_p77, List.forall_mem_cons.mpr ⟨lw_p78, List.forall_mem_cons.mpr ⟨lw_p79, fun _ h => absurd h List.not_mem_nil⟩⟩⟩⟩⟩⟩⟩⟩⟩⟩⟩⟩⟩⟩⟩⟩
theorem lw_p80 : lw_okq (⟨"PrunedSearchModel", "putVariable", "(I)V"⟩, 55) := ⟨⟨by decide +kernel, by decide +kernel⟩, List.mem_of_getElem? (i := 949) (by decide +kernel), List.mem_of_getElem? (i := 1319) (by decide +kernel), List.mem_of_getElem? (i := 1320) (by decide +kernel)⟩
theorem lw_p81 : lw_okq (⟨"PrunedSearchModel", "putWord", "(J)V"⟩, 55) := ⟨⟨by decide +kernel, by decide +kernel⟩, List.mem_of_getElem? (i := 949) (by decide +kernel), List.mem_of_getElem? (i := 1323) (by decide +kernel), List.mem_of_getElem? (i := 1324) (by decide +kernel)⟩
theorem lw_p82 : lw_okq (⟨"PrunedSearchModel", "writeRest", "(III)I"⟩, 55) := ⟨⟨by decide +kernel, by decide +kernel⟩, List.mem_of_getElem? (i := 949) (by decide +kernel), List.mem_of_getElem? (i := 1327) (by decide +kernel), List.mem_of_getElem? (i := 1328) (by decide +kernel)⟩
def lw_privs_6 : List (MethodName × Nat) := [(⟨"PrunedSearchModel", "putVariable", "(I)V"⟩, 55), (⟨"PrunedSearchModel", "putWord", "(J)V"⟩, 55), (⟨"PrunedSearchModel", "writeRest", "(III)I"⟩, 55)]
theorem lw_r6 : ∀ q ∈ lw_privs_6, lw_okq q := List.forall_mem_cons.mpr ⟨lw_p80, List.forall_mem_cons.mpr ⟨lw_p81, List.forall_mem_cons.mpr ⟨lw_p82, fun _ h => absurd h List.not_mem_nil⟩⟩⟩
def lw_privs : List (MethodName × Nat) := lw_privs_1 ++ (lw_privs_2 ++ (lw_privs_3 ++ (lw_privs_4 ++ (lw_privs_5 ++ (lw_privs_6)))))
def lw_tbl : List Cond := k2_sels lw_privs ++ tables_1
theorem lw_privs_ok : ∀ q ∈ lw_privs, lw_okq q := by
  show ∀ q ∈ lw_privs_1 ++ (lw_privs_2 ++ (lw_privs_3 ++ (lw_privs_4 ++ (lw_privs_5 ++ (lw_privs_6))))), lw_okq q
  exact List.forall_mem_append.mpr ⟨lw_r1, List.forall_mem_append.mpr ⟨lw_r2, List.forall_mem_append.mpr ⟨lw_r3, List.forall_mem_append.mpr ⟨lw_r4, List.forall_mem_append.mpr ⟨lw_r5, lw_r6⟩⟩⟩⟩⟩
end
section
/-! classes, their fields, the words of the tables by their places (printed by wip/gen/names.py) -/
def nC0 : String := "PrunedSearch"
def fT0 : u_T := fun k => match k with
  | 0 => ("PrunedSearch", "text", "LPrunedSearch$Text;", true)
  | 1 => ("PrunedSearch", "names", "LPrunedSearch$Names;", true)
  | 2 => ("PrunedSearch", "program", "LPrunedSearch$Code;", true)
  | 3 => ("PrunedSearch", "reader", "LPrunedSearch$ClauseReader;", true)
  | _ => ("PrunedSearch", "search", "LPrunedSearch$Search;", true)
def fY0 : Nat → FieldType := fun k => match k with
  | 0 => .object "PrunedSearch$Text"
  | 1 => .object "PrunedSearch$Names"
  | 2 => .object "PrunedSearch$Code"
  | 3 => .object "PrunedSearch$ClauseReader"
  | _ => .object "PrunedSearch$Search"
theorem fN0 : ∀ a, a < 5 → ∀ b, b < 5 → a ≠ b → (fT0 a).2.1 ≠ (fT0 b).2.1 := by decide +kernel
theorem fO0 : ∀ k, k < 5 → parseFieldDescriptor (fT0 k).2.2.1 = some (fY0 k) := by decide +kernel
def nC1 : String := "PrunedSearch$Text"
def fT1 : u_T := fun k => match k with
  | 0 => ("PrunedSearch$Text", "row", "[C", true)
  | _ => ("PrunedSearch$Text", "size", "I", false)
def fY1 : Nat → FieldType := fun k => match k with
  | 0 => .array .char
  | _ => .int
theorem fN1 : ∀ a, a < 2 → ∀ b, b < 2 → a ≠ b → (fT1 a).2.1 ≠ (fT1 b).2.1 := by decide +kernel
theorem fO1 : ∀ k, k < 2 → parseFieldDescriptor (fT1 k).2.2.1 = some (fY1 k) := by decide +kernel
def nC2 : String := "PrunedSearch$Tokens"
def fT2 : u_T := fun k => match k with
  | 0 => ("PrunedSearch$Tokens", "kinds", "[C", true)
  | 1 => ("PrunedSearch$Tokens", "places", "[I", true)
  | 2 => ("PrunedSearch$Tokens", "words", "[J", true)
  | _ => ("PrunedSearch$Tokens", "count", "I", false)
def fY2 : Nat → FieldType := fun k => match k with
  | 0 => .array .char
  | 1 => .array .int
  | 2 => .array .long
  | _ => .int
theorem fN2 : ∀ a, a < 4 → ∀ b, b < 4 → a ≠ b → (fT2 a).2.1 ≠ (fT2 b).2.1 := by decide +kernel
theorem fO2 : ∀ k, k < 4 → parseFieldDescriptor (fT2 k).2.2.1 = some (fY2 k) := by decide +kernel
def nC3 : String := "PrunedSearch$Names"
def fT3 : u_T := fun k => match k with
  | 0 => ("PrunedSearch$Names", "words", "[J", true)
  | 1 => ("PrunedSearch$Names", "kept", "I", false)
  | 2 => ("PrunedSearch$Names", "count", "I", false)
  | _ => ("PrunedSearch$Names", "tooMany", "Z", false)
def fY3 : Nat → FieldType := fun k => match k with
  | 0 => .array .long
  | 1 => .int
  | 2 => .int
  | _ => .boolean
theorem fN3 : ∀ a, a < 4 → ∀ b, b < 4 → a ≠ b → (fT3 a).2.1 ≠ (fT3 b).2.1 := by decide +kernel
theorem fO3 : ∀ k, k < 4 → parseFieldDescriptor (fT3 k).2.2.1 = some (fY3 k) := by decide +kernel
def nC4 : String := "PrunedSearch$Code"
def fT4 : u_T := fun k => match k with
  | 0 => ("PrunedSearch$Code", "symbols", "[I", true)
  | 1 => ("PrunedSearch$Code", "sizes", "[I", true)
  | 2 => ("PrunedSearch$Code", "ends", "[I", true)
  | 3 => ("PrunedSearch$Code", "used", "I", false)
  | _ => ("PrunedSearch$Code", "parts", "I", false)
def fY4 : Nat → FieldType := fun k => match k with
  | 0 => .array .int
  | 1 => .array .int
  | 2 => .array .int
  | 3 => .int
  | _ => .int
theorem fN4 : ∀ a, a < 5 → ∀ b, b < 5 → a ≠ b → (fT4 a).2.1 ≠ (fT4 b).2.1 := by decide +kernel
theorem fO4 : ∀ k, k < 5 → parseFieldDescriptor (fT4 k).2.2.1 = some (fY4 k) := by decide +kernel
def nC5 : String := "PrunedSearch$ClauseReader"
def fT5 : u_T := fun k => match k with
  | 0 => ("PrunedSearch$ClauseReader", "names", "LPrunedSearch$Names;", true)
  | 1 => ("PrunedSearch$ClauseReader", "tokens", "LPrunedSearch$Tokens;", true)
  | 2 => ("PrunedSearch$ClauseReader", "code", "LPrunedSearch$Code;", true)
  | 3 => ("PrunedSearch$ClauseReader", "variables", "[J", true)
  | 4 => ("PrunedSearch$ClauseReader", "variableCount", "I", false)
  | 5 => ("PrunedSearch$ClauseReader", "loneCount", "I", false)
  | 6 => ("PrunedSearch$ClauseReader", "goalsRead", "I", false)
  | 7 => ("PrunedSearch$ClauseReader", "open", "I", false)
  | 8 => ("PrunedSearch$ClauseReader", "next", "I", false)
  | _ => ("PrunedSearch$ClauseReader", "much", "Z", false)
def fY5 : Nat → FieldType := fun k => match k with
  | 0 => .object "PrunedSearch$Names"
  | 1 => .object "PrunedSearch$Tokens"
  | 2 => .object "PrunedSearch$Code"
  | 3 => .array .long
  | 4 => .int
  | 5 => .int
  | 6 => .int
  | 7 => .int
  | 8 => .int
  | _ => .boolean
theorem fN5 : ∀ a, a < 10 → ∀ b, b < 10 → a ≠ b → (fT5 a).2.1 ≠ (fT5 b).2.1 := by decide +kernel
theorem fO5 : ∀ k, k < 10 → parseFieldDescriptor (fT5 k).2.2.1 = some (fY5 k) := by decide +kernel
def nC6 : String := "PrunedSearch$Terms"
def fT6 : u_T := fun k => match k with
  | 0 => ("PrunedSearch$Terms", "symbols", "[I", true)
  | 1 => ("PrunedSearch$Terms", "sizes", "[I", true)
  | 2 => ("PrunedSearch$Terms", "stands", "[I", true)
  | 3 => ("PrunedSearch$Terms", "marks", "[I", true)
  | 4 => ("PrunedSearch$Terms", "changed", "[I", true)
  | 5 => ("PrunedSearch$Terms", "waiting", "[I", true)
  | 6 => ("PrunedSearch$Terms", "variableCells", "[I", true)
  | 7 => ("PrunedSearch$Terms", "used", "I", false)
  | 8 => ("PrunedSearch$Terms", "changes", "I", false)
  | 9 => ("PrunedSearch$Terms", "waitingCount", "I", false)
  | _ => ("PrunedSearch$Terms", "lastMark", "I", false)
def fY6 : Nat → FieldType := fun k => match k with
  | 0 => .array .int
  | 1 => .array .int
  | 2 => .array .int
  | 3 => .array .int
  | 4 => .array .int
  | 5 => .array .int
  | 6 => .array .int
  | 7 => .int
  | 8 => .int
  | 9 => .int
  | _ => .int
theorem fN6 : ∀ a, a < 11 → ∀ b, b < 11 → a ≠ b → (fT6 a).2.1 ≠ (fT6 b).2.1 := by decide +kernel
theorem fO6 : ∀ k, k < 11 → parseFieldDescriptor (fT6 k).2.2.1 = some (fY6 k) := by decide +kernel
def nC7 : String := "PrunedSearch$Goals"
def fT7 : u_T := fun k => match k with
  | 0 => ("PrunedSearch$Goals", "terms", "[I", true)
  | 1 => ("PrunedSearch$Goals", "cuts", "[I", true)
  | 2 => ("PrunedSearch$Goals", "behind", "[I", true)
  | 3 => ("PrunedSearch$Goals", "used", "I", false)
  | _ => ("PrunedSearch$Goals", "first", "I", false)
def fY7 : Nat → FieldType := fun k => match k with
  | 0 => .array .int
  | 1 => .array .int
  | 2 => .array .int
  | 3 => .int
  | _ => .int
theorem fN7 : ∀ a, a < 5 → ∀ b, b < 5 → a ≠ b → (fT7 a).2.1 ≠ (fT7 b).2.1 := by decide +kernel
theorem fO7 : ∀ k, k < 5 → parseFieldDescriptor (fT7 k).2.2.1 = some (fY7 k) := by decide +kernel
def nC8 : String := "PrunedSearch$Choices"
def fT8 : u_T := fun k => match k with
  | 0 => ("PrunedSearch$Choices", "firstGoals", "[I", true)
  | 1 => ("PrunedSearch$Choices", "heldGoals", "[I", true)
  | 2 => ("PrunedSearch$Choices", "cells", "[I", true)
  | 3 => ("PrunedSearch$Choices", "changes", "[I", true)
  | 4 => ("PrunedSearch$Choices", "lengths", "[I", true)
  | 5 => ("PrunedSearch$Choices", "candidates", "[I", true)
  | _ => ("PrunedSearch$Choices", "count", "I", false)
def fY8 : Nat → FieldType := fun k => match k with
  | 0 => .array .int
  | 1 => .array .int
  | 2 => .array .int
  | 3 => .array .int
  | 4 => .array .int
  | 5 => .array .int
  | _ => .int
theorem fN8 : ∀ a, a < 7 → ∀ b, b < 7 → a ≠ b → (fT8 a).2.1 ≠ (fT8 b).2.1 := by decide +kernel
theorem fO8 : ∀ k, k < 7 → parseFieldDescriptor (fT8 k).2.2.1 = some (fY8 k) := by decide +kernel
def nC9 : String := "PrunedSearch$Search"
def fT9 : u_T := fun k => match k with
  | 0 => ("PrunedSearch$Search", "program", "LPrunedSearch$Code;", true)
  | 1 => ("PrunedSearch$Search", "names", "LPrunedSearch$Names;", true)
  | 2 => ("PrunedSearch$Search", "terms", "LPrunedSearch$Terms;", true)
  | 3 => ("PrunedSearch$Search", "branch", "LPrunedSearch$Goals;", true)
  | 4 => ("PrunedSearch$Search", "open", "LPrunedSearch$Choices;", true)
  | 5 => ("PrunedSearch$Search", "writer", "LPrunedSearch$TermWriter;", true)
  | 6 => ("PrunedSearch$Search", "asked", "[I", true)
  | 7 => ("PrunedSearch$Search", "askedCount", "I", false)
  | 8 => ("PrunedSearch$Search", "state", "I", false)
  | 9 => ("PrunedSearch$Search", "failed", "Z", false)
  | 10 => ("PrunedSearch$Search", "depth", "I", false)
  | 11 => ("PrunedSearch$Search", "tried", "I", false)
  | 12 => ("PrunedSearch$Search", "taken", "I", false)
  | _ => ("PrunedSearch$Search", "takenCut", "I", false)
def fY9 : Nat → FieldType := fun k => match k with
  | 0 => .object "PrunedSearch$Code"
  | 1 => .object "PrunedSearch$Names"
  | 2 => .object "PrunedSearch$Terms"
  | 3 => .object "PrunedSearch$Goals"
  | 4 => .object "PrunedSearch$Choices"
  | 5 => .object "PrunedSearch$TermWriter"
  | 6 => .array .int
  | 7 => .int
  | 8 => .int
  | 9 => .boolean
  | 10 => .int
  | 11 => .int
  | 12 => .int
  | _ => .int
theorem fN9 : ∀ a, a < 14 → ∀ b, b < 14 → a ≠ b → (fT9 a).2.1 ≠ (fT9 b).2.1 := by decide +kernel
theorem fO9 : ∀ k, k < 14 → parseFieldDescriptor (fT9 k).2.2.1 = some (fY9 k) := by decide +kernel
def nC10 : String := "PrunedSearch$TermWriter"
def fT10 : u_T := fun k => match k with
  | 0 => ("PrunedSearch$TermWriter", "terms", "LPrunedSearch$Terms;", true)
  | 1 => ("PrunedSearch$TermWriter", "names", "LPrunedSearch$Names;", true)
  | 2 => ("PrunedSearch$TermWriter", "written", "[C", true)
  | 3 => ("PrunedSearch$TermWriter", "ends", "[I", true)
  | 4 => ("PrunedSearch$TermWriter", "free", "[I", true)
  | 5 => ("PrunedSearch$TermWriter", "waiting", "[I", true)
  | 6 => ("PrunedSearch$TermWriter", "size", "I", false)
  | 7 => ("PrunedSearch$TermWriter", "freeCount", "I", false)
  | 8 => ("PrunedSearch$TermWriter", "waitingCount", "I", false)
  | _ => ("PrunedSearch$TermWriter", "done", "Z", false)
def fY10 : Nat → FieldType := fun k => match k with
  | 0 => .object "PrunedSearch$Terms"
  | 1 => .object "PrunedSearch$Names"
  | 2 => .array .char
  | 3 => .array .int
  | 4 => .array .int
  | 5 => .array .int
  | 6 => .int
  | 7 => .int
  | 8 => .int
  | _ => .boolean
theorem fN10 : ∀ a, a < 10 → ∀ b, b < 10 → a ≠ b → (fT10 a).2.1 ≠ (fT10 b).2.1 := by decide +kernel
theorem fO10 : ∀ k, k < 10 → parseFieldDescriptor (fT10 k).2.2.1 = some (fY10 k) := by decide +kernel
def nC11 : String := "PrunedSearchModel"
def fT11 : u_T := fun k => match k with
  | 0 => ("PrunedSearchModel", "text", "[I", true)
  | 1 => ("PrunedSearchModel", "typed", "I", false)
  | 2 => ("PrunedSearchModel", "token", "I", false)
  | 3 => ("PrunedSearchModel", "place", "I", false)
  | 4 => ("PrunedSearchModel", "after", "I", false)
  | 5 => ("PrunedSearchModel", "word", "J", false)
  | 6 => ("PrunedSearchModel", "readCode", "[J", true)
  | 7 => ("PrunedSearchModel", "readArity", "[I", true)
  | 8 => ("PrunedSearchModel", "symbols", "I", false)
  | 9 => ("PrunedSearchModel", "pieces", "I", false)
  | 10 => ("PrunedSearchModel", "pieceAt", "[I", true)
  | 11 => ("PrunedSearchModel", "pieceGoals", "[I", true)
  | 12 => ("PrunedSearchModel", "pieceVars", "[I", true)
  | 13 => ("PrunedSearchModel", "goalsRead", "I", false)
  | 14 => ("PrunedSearchModel", "readGoal", "[I", true)
  | 15 => ("PrunedSearchModel", "varWord", "[J", true)
  | 16 => ("PrunedSearchModel", "varAt", "[I", true)
  | 17 => ("PrunedSearchModel", "vars", "I", false)
  | 18 => ("PrunedSearchModel", "open", "I", false)
  | 19 => ("PrunedSearchModel", "kind", "[I", true)
  | 20 => ("PrunedSearchModel", "owner", "[I", true)
  | 21 => ("PrunedSearchModel", "count", "[I", true)
  | 22 => ("PrunedSearchModel", "fresh", "Z", false)
  | 23 => ("PrunedSearchModel", "code", "[J", true)
  | 24 => ("PrunedSearchModel", "arity", "[I", true)
  | 25 => ("PrunedSearchModel", "known", "I", false)
  | 26 => ("PrunedSearchModel", "size", "[I", true)
  | 27 => ("PrunedSearchModel", "goalCount", "[I", true)
  | 28 => ("PrunedSearchModel", "goalAt", "[I", true)
  | 29 => ("PrunedSearchModel", "names", "I", false)
  | 30 => ("PrunedSearchModel", "nameOf", "[J", true)
  | 31 => ("PrunedSearchModel", "asked", "I", false)
  | 32 => ("PrunedSearchModel", "askedAt", "[I", true)
  | 33 => ("PrunedSearchModel", "status", "I", false)
  | 34 => ("PrunedSearchModel", "ending", "I", false)
  | 35 => ("PrunedSearchModel", "tried", "I", false)
  | 36 => ("PrunedSearchModel", "depth", "I", false)
  | 37 => ("PrunedSearchModel", "pathClause", "[I", true)
  | 38 => ("PrunedSearchModel", "pathCut", "[I", true)
  | 39 => ("PrunedSearchModel", "picks", "I", false)
  | 40 => ("PrunedSearchModel", "choiceDepth", "[I", true)
  | 41 => ("PrunedSearchModel", "choiceLast", "[I", true)
  | 42 => ("PrunedSearchModel", "left", "I", false)
  | 43 => ("PrunedSearchModel", "goal", "[I", true)
  | 44 => ("PrunedSearchModel", "goalFrame", "[I", true)
  | 45 => ("PrunedSearchModel", "goalCut", "[I", true)
  | 46 => ("PrunedSearchModel", "standsAt", "[I", true)
  | 47 => ("PrunedSearchModel", "standsIn", "[I", true)
  | 48 => ("PrunedSearchModel", "seenAt", "I", false)
  | 49 => ("PrunedSearchModel", "seenIn", "I", false)
  | 50 => ("PrunedSearchModel", "stack", "[I", true)
  | 51 => ("PrunedSearchModel", "out", "[I", true)
  | 52 => ("PrunedSearchModel", "written", "I", false)
  | 53 => ("PrunedSearchModel", "shown", "[I", true)
  | _ => ("PrunedSearchModel", "numbered", "I", false)
def fY11 : Nat → FieldType := fun k => match k with
  | 0 => .array .int
  | 1 => .int
  | 2 => .int
  | 3 => .int
  | 4 => .int
  | 5 => .long
  | 6 => .array .long
  | 7 => .array .int
  | 8 => .int
  | 9 => .int
  | 10 => .array .int
  | 11 => .array .int
  | 12 => .array .int
  | 13 => .int
  | 14 => .array .int
  | 15 => .array .long
  | 16 => .array .int
  | 17 => .int
  | 18 => .int
  | 19 => .array .int
  | 20 => .array .int
  | 21 => .array .int
  | 22 => .boolean
  | 23 => .array .long
  | 24 => .array .int
  | 25 => .int
  | 26 => .array .int
  | 27 => .array .int
  | 28 => .array .int
  | 29 => .int
  | 30 => .array .long
  | 31 => .int
  | 32 => .array .int
  | 33 => .int
  | 34 => .int
  | 35 => .int
  | 36 => .int
  | 37 => .array .int
  | 38 => .array .int
  | 39 => .int
  | 40 => .array .int
  | 41 => .array .int
  | 42 => .int
  | 43 => .array .int
  | 44 => .array .int
  | 45 => .array .int
  | 46 => .array .int
  | 47 => .array .int
  | 48 => .int
  | 49 => .int
  | 50 => .array .int
  | 51 => .array .int
  | 52 => .int
  | 53 => .array .int
  | _ => .int
theorem fN11 : ∀ a, a < 55 → ∀ b, b < 55 → a ≠ b → (fT11 a).2.1 ≠ (fT11 b).2.1 := by decide +kernel
theorem fO11 : ∀ k, k < 55 → parseFieldDescriptor (fT11 k).2.2.1 = some (fY11 k) := by decide +kernel
/-- the tables' words that stay good -/
def Wt : List Cond := lw_tbl.filter goodWord
abbrev classes : List vw_C := [(nC0, fT0, 5), (nC1, fT1, 2), (nC2, fT2, 4), (nC3, fT3, 4), (nC4, fT4, 5), (nC5, fT5, 10), (nC6, fT6, 11), (nC7, fT7, 5), (nC8, fT8, 7), (nC9, fT9, 14), (nC10, fT10, 10), (nC11, fT11, 55)]
theorem fI0 : ∀ w ∈ u_ws nC0 fT0 5, w ∈ Wt := by decide +kernel
theorem fI1 : ∀ w ∈ u_ws nC1 fT1 2, w ∈ Wt := by decide +kernel
theorem fI2 : ∀ w ∈ u_ws nC2 fT2 4, w ∈ Wt := by decide +kernel
theorem fI3 : ∀ w ∈ u_ws nC3 fT3 4, w ∈ Wt := by decide +kernel
theorem fI4 : ∀ w ∈ u_ws nC4 fT4 5, w ∈ Wt := by decide +kernel
theorem fI5 : ∀ w ∈ u_ws nC5 fT5 10, w ∈ Wt := by decide +kernel
theorem fI6 : ∀ w ∈ u_ws nC6 fT6 11, w ∈ Wt := by decide +kernel
theorem fI7 : ∀ w ∈ u_ws nC7 fT7 5, w ∈ Wt := by decide +kernel
theorem fI8 : ∀ w ∈ u_ws nC8 fT8 7, w ∈ Wt := by decide +kernel
theorem fI9 : ∀ w ∈ u_ws nC9 fT9 14, w ∈ Wt := by decide +kernel
theorem fI10 : ∀ w ∈ u_ws nC10 fT10 10, w ∈ Wt := by decide +kernel
theorem fI11 : ∀ w ∈ u_ws nC11 fT11 55, w ∈ Wt := by decide +kernel
end
section
/-! abstract values, cells, worlds; the judgement EV: a method's run over an abstract world -/
def R32 (x : Int) : Prop := -2147483648 ≤ x ∧ x ≤ 2147483647
abbrev AV : Type := Int ⊕ (Nat ⊕ Nat)
abbrev vI (x : Int) : AV := Sum.inl x
abbrev vL (n : Nat) : AV := Sum.inr (Sum.inl n)
abbrev vR (k : Nat) : AV := Sum.inr (Sum.inr k)
abbrev AC : Type := (Nat × Nat × (Int → Int)) ⊕ ((Nat × (Int → Nat)) ⊕ (Nat × List AV))
abbrev cI (t n : Nat) (f : Int → Int) : AC := Sum.inl (t, n, f)
abbrev cL (n : Nat) (f : Int → Nat) : AC := Sum.inr (Sum.inl (n, f))
abbrev cO (ci : Nat) (fs : List AV) : AC := Sum.inr (Sum.inr (ci, fs))
def cv (ad : Nat → Nat) : AV → Value
  | .inl x => .int (Int32.ofInt x)
  | .inr (.inl n) => .long (Int64.ofNat n)
  | .inr (.inr k) => .ref (ad k)
def ce (ad : Nat → Nat) (cA : Nat → ClassId) : AC → va_E
  | .inl (t, n, f) => .inl (cA t, n, .inl (fun j => Int32.ofInt (f (j : Int))))
  | .inr (.inl (n, f)) => .inl (cA 2, n, .inr (.inl (fun j => Int64.ofNat (f (j : Int)))))
  | .inr (.inr (ci, fs)) => .inr (ci, fs.map (cv ad))
def wsm (ad : Nat → Nat) (cA : Nat → ClassId) (w : List AC) : va_W := w.mapIdx (fun k c => (ad k, ce ad cA c))
def okv : AV → Prop
  | .inl x => R32 x
  | .inr (.inl n) => n < 18446744073709551616
  | .inr (.inr _) => True
def okc : AC → Prop
  | .inl (_, _, f) => ∀ i, R32 (f i)
  | .inr (.inl (_, f)) => ∀ i, f i < 18446744073709551616
  | .inr (.inr (_, fs)) => ∀ v ∈ fs, okv v
def okw (w : List AC) : Prop := ∀ c ∈ w, okc c
def oks (st : List AV) : Prop := ∀ v ∈ st, okv v
def okl (lv : List (Nat × AV)) : Prop := ∀ q ∈ lv, okv q.2
def lvm (ad : Nat → Nat) (lv : List (Nat × AV)) : List (Nat × Value) := lv.map (fun q => (q.1, cv ad q.2))
def stm (ad : Nat → Nat) (st : List AV) : List Value := st.map (cv ad)
def adk (ad : Nat → Nat) (A : Nat → Prop) (n : Nat) : Prop := (∀ i j, i < n → j < n → ad i = ad j → i = j) ∧ ∀ i, i < n → A (ad i)
/-- the one String constant, and String.COMPACT_STRINGS -/
def SX (ad : Nat → Nat) (A : Nat → Prop) (s : State) : Prop := vk_R "PrunedSearch$Text" 23 "(),.:-![]| " (ad 1000) s ∧ vk_S 1 [11] [[40, 41, 44, 46, 58, 45, 33, 91, 93, 124, 32]] (fun _ => ad 1000) (fun _ => ad 1001) A s s.heap ∧ va_Z "java/lang/String" "COMPACT_STRINGS" "Z" (.int 1) A s s.heap ∧ ∀ (own : String) (idx : Nat) (x : MethodName) (host : String), Cond.methodLinkNest own idx x host ∈ lw_tbl → va_Nw (.methodLinkNest own idx x host) s
abbrev tyl (cA : Nat → ClassId) : List (ClassId × FieldType) := [(cA 0, .int), (cA 1, .char), (cA 2, .long)]
def Cx0 (p : Program) (R : Room) (s : State) (m : MethodId) (args : Array Value) (meth : Method) (c : Code) (b : ByteArray) (own : String) (nL : Nat) (ret : Option FieldType) (d : Nat) (dC : Nat → ClassId) (dI : Nat → Nat → Nat) (ad : Nat → Nat) (cA : Nat → ClassId) (A : Nat → Prop) (n : Nat) : Prop :=
  p.tables.exec = Jvm.exec ∧ c.code = b ∧ c.maxLocals = nL ∧ meth.sig.returnType = ret ∧ meth.locks = false ∧ s.vm.findClass own = some m.cls ∧ (∀ x ∈ Wt, x.before args s = true) ∧ (d ≤ R.frames ∧ 40 * d ≤ R.locals) ∧ va_K (dC, dI) classes (tyl cA) s ∧ adk ad A n ∧ SX ad A s
def Cx1 (s : State) (dC : Nat → ClassId) (dI : Nat → Nat → Nat) (ad : Nat → Nat) (cA : Nat → ClassId) (A : Nat → Prop) (H : Heap) (locs : List Loc) (w : List AC) : Prop :=
  va_P (dC, dI) classes (wsm ad cA w) H ∧ va_S A s.heap H locs ∧ okw w
def Qk (dC : Nat → ClassId) (dI : Nat → Nat → Nat) (ad : Nat → Nat) (cA : Nat → ClassId) (A : Nat → Prop) (n : Nat) (K : Option AV → List AC → Prop) : Array Value → State → Outcome → State → Prop := fun _ st oc t =>
  ∃ (r : Option AV) (w' : List AC), oc = .returned (r.map (cv ad)) ∧ (∀ v, r = some v → okv v) ∧ okw w' ∧ w'.length = n ∧ K r w' ∧ va_P (dC, dI) classes (wsm ad cA w') t.heap ∧ va_F A st t
def EV (l : Launch) (b : ByteArray) (own : String) (nL : Nat) (ret : Option FieldType) (d : Nat) (pc : Nat) (lv : List (Nat × AV)) (st : List AV) (w : List AC) (K : Option AV → List AC → Prop) : Prop :=
  ∀ (p : Program) (e : Env) (R : Room) (s : State) (m : MethodId) (args : Array Value) (below : List Frame) (meth : Method) (c : Code) (H : Heap) (locs : List Loc) (dC : Nat → ClassId) (dI : Nat → Nat → Nat) (ad : Nat → Nat) (cA : Nat → ClassId) (A : Nat → Prop),
    Cx0 p R s m args meth c b own nL ret d dC dI ad cA A w.length → Cx1 s dC dI ad cA A H locs w → okl lv → oks st → ∀ ls : Array Slot, lv_has ls nL (lvm ad lv) →
      W p l e R s m args below meth c H locs 0 0 (MQ below (Qk dC dI ad cA A w.length K) args s 0 0 A) (F0 m pc ls (stm ad st))
/-- a method's contract, over an abstract world -/
def MT (l : Launch) (y : MethodName) (b : ByteArray) (nL : Nat) (ret : Option FieldType) (d : Nat) (as : List AV) (w : List AC) (K : Option AV → List AC → Prop) : Prop :=
  oks as → okw w → ∀ (dC : Nat → ClassId) (dI : Nat → Nat → Nat) (ad : Nat → Nat) (cA : Nat → ClassId), Met l y (.code y b nL ret :: Wt) { frames := d, cells := 0, slots := 0, locals := 40 * d }
    (va_Pc (stm ad as) (fun U => va_P (dC, dI) classes (wsm ad cA w) U.heap ∧ va_K (dC, dI) classes (tyl cA) U ∧ adk ad (fun q => ∃ k, k < w.length ∧ q = ad k) w.length ∧ SX ad (fun q => ∃ k, k < w.length ∧ q = ad k) U))
    (Qk dC dI ad cA (fun q => ∃ k, k < w.length ∧ q = ad k) w.length K) 0 0 (fun q => ∃ k, k < w.length ∧ q = ad k)
-- numbers
theorem oi_add (x y : Int) : Int32.ofInt (x + y) = Int32.ofInt x + Int32.ofInt y := Int32.ofInt_add x y
theorem oi_sub (x y : Int) : Int32.ofInt (x - y) = Int32.ofInt x - Int32.ofInt y := Int32.ofInt_sub x y
theorem oi_mul (x y : Int) : Int32.ofInt (x * y) = Int32.ofInt x * Int32.ofInt y := Int32.ofInt_mul x y
theorem oi_toInt {x : Int} (h : R32 x) : (Int32.ofInt x).toInt = x := Int32.toInt_ofInt_of_le (by have := h.1; omega) (by have := h.2; omega)
theorem oi_lt {x y : Int} (hx : R32 x) (hy : R32 y) : Int32.ofInt x < Int32.ofInt y ↔ x < y := by rw [Int32.lt_iff_toInt_lt, oi_toInt hx, oi_toInt hy]
theorem oi_le {x y : Int} (hx : R32 x) (hy : R32 y) : Int32.ofInt x ≤ Int32.ofInt y ↔ x ≤ y := by rw [Int32.le_iff_toInt_le, oi_toInt hx, oi_toInt hy]
theorem oi_eq {x y : Int} (hx : R32 x) (hy : R32 y) : Int32.ofInt x = Int32.ofInt y ↔ x = y := by rw [← Int32.toInt_inj, oi_toInt hx, oi_toInt hy]
theorem oi_0 : Int32.ofInt 0 = 0 := by decide +kernel
theorem R32_0 : R32 0 := ⟨by decide, by decide⟩
theorem oi_clamp {x : Int} (h : R32 x) (h0 : 0 ≤ x) : (Int32.ofInt x).toNatClampNeg = x.toNat := by
  rw [Int32.toNatClampNeg, oi_toInt h]
theorem oi_in {x : Int} {n : Nat} (hx : R32 x) (h0 : 0 ≤ x) (h1 : x < n) : vp_in (Int32.ofInt x) n := by
  rw [vp_in_iff, oi_toInt hx]
  exact ⟨h0, h1⟩
-- lists of values
theorem oks_c {v : AV} {st : List AV} (h : okv v) (hs : oks st) : oks (v :: st) := fun x hx => by
  rcases List.mem_cons.mp hx with rfl | h1
  · exact h
  · exact hs x h1
theorem oks_h {v : AV} {st : List AV} (hs : oks (v :: st)) : okv v := hs v List.mem_cons_self
theorem oks_t {v : AV} {st : List AV} (hs : oks (v :: st)) : oks st := fun x hx => hs x (List.mem_cons_of_mem _ hx)
theorem okl_at {lv : List (Nat × AV)} {k i : Nat} {v : AV} (h : okl lv) (hk : lv[k]? = some (i, v)) : okv v := h (i, v) (List.mem_of_getElem? hk)
theorem lvm_at {ad : Nat → Nat} {lv : List (Nat × AV)} {k i : Nat} {v : AV} (hk : lv[k]? = some (i, v)) : (lvm ad lv)[k]? = some (i, cv ad v) := by
  rw [lvm, List.getElem?_map, hk]; rfl
theorem wsm_at {ad : Nat → Nat} {cA : Nat → ClassId} {w : List AC} {k : Nat} {c : AC} (h : w[k]? = some c) : (wsm ad cA w)[k]? = some (ad k, ce ad cA c) := by
  rw [wsm, List.getElem?_mapIdx, h]; rfl
theorem wsm_set {ad : Nat → Nat} {cA : Nat → ClassId} {w : List AC} {k : Nat} {c : AC} : (wsm ad cA w).set k (ad k, ce ad cA c) = wsm ad cA (w.set k c) := by
  apply List.ext_getElem?
  intro i
  by_cases hi : i = k
  · subst hi
    by_cases hl : i < w.length
    · rw [List.getElem?_set_self (by simpa [wsm] using hl), wsm, List.getElem?_mapIdx, List.getElem?_set_self hl]; rfl
    · rw [List.getElem?_eq_none (by simpa [wsm] using hl), List.getElem?_eq_none (by simpa [wsm] using hl)]
  · rw [List.getElem?_set_ne (Ne.symm hi), wsm, wsm, List.getElem?_mapIdx, List.getElem?_mapIdx, List.getElem?_set_ne (Ne.symm hi)]
theorem wsm_len {ad : Nat → Nat} {cA : Nat → ClassId} {w : List AC} : (wsm ad cA w).length = w.length := by simp [wsm]
theorem wsm_get {ad : Nat → Nat} {cA : Nat → ClassId} {w : List AC} {k : Nat} {q : Nat × va_E} (h : (wsm ad cA w)[k]? = some q) : k < w.length ∧ q.1 = ad k := by
  rw [wsm, List.getElem?_mapIdx] at h
  cases hc : w[k]? with
  | none => rw [hc] at h; cases h
  | some c =>
    rw [hc] at h
    cases h
    exact ⟨(List.getElem?_eq_some_iff.mp hc).1, rfl⟩
theorem adk_D {ad : Nat → Nat} {cA : Nat → ClassId} {A : Nat → Prop} {w : List AC} (h : adk ad A w.length) : va_D A (wsm ad cA w) := by
  refine ⟨fun i j p q hi hj hpq => ?_, fun k q hk => ?_⟩
  · obtain ⟨h1, h2⟩ := wsm_get hi
    obtain ⟨h3, h4⟩ := wsm_get hj
    exact h.1 i j h1 h3 (by rw [← h2, ← h4]; exact hpq)
  · obtain ⟨h1, h2⟩ := wsm_get hk
    rw [h2]; exact h.2 k h1
theorem okw_set {w : List AC} {k : Nat} {c : AC} (h : okw w) (hc : okc c) : okw (w.set k c) := fun x hx => by
  rcases List.mem_or_eq_of_mem_set hx with h1 | rfl
  · exact h x h1
  · exact hc
end
section
/-! rows of EV: locals, stack, numbers, branches (printed by wip/gen/rows.py) -/
def isL : AV → Bool
  | .inr (.inl _) => true
  | _ => false
def st1 (i : Nat) (v : AV) (lv : List (Nat × AV)) : List (Nat × AV) := (i, v) :: lv.filter (fun q => !(q.1 == i) && !(q.1 + 1 == i && isL q.2))
def st2 (i : Nat) (v : AV) (lv : List (Nat × AV)) : List (Nat × AV) := (i, v) :: lv.filter (fun q => !(q.1 == i) && (!(q.1 == i + 1) && !(q.1 + 1 == i && isL q.2)))
def pk (l : List (Nat × AV)) (ks : List Nat) : List (Nat × AV) := ks.filterMap (fun k => l[k]?)
theorem cv_cat (ad : Nat → Nat) (v : AV) : ((cv ad v).category == 2) = isL v := by
  rcases v with x | n | k <;> rfl
theorem lvm_st1 {ad : Nat → Nat} {i : Nat} {v : AV} {lv : List (Nat × AV)} : (i, cv ad v) :: (lvm ad lv).filter (fun q => !(q.1 == i) && !(q.1 + 1 == i && q.2.category == 2)) = lvm ad (st1 i v lv) := by
  simp only [lvm, st1, List.map_cons, List.filter_map, Function.comp_def, cv_cat]
theorem lvm_st2 {ad : Nat → Nat} {i : Nat} {v : AV} {lv : List (Nat × AV)} : (i, cv ad v) :: (lvm ad lv).filter (fun q => !(q.1 == i) && (!(q.1 == i + 1) && !(q.1 + 1 == i && q.2.category == 2))) = lvm ad (st2 i v lv) := by
  simp only [lvm, st2, List.map_cons, List.filter_map, Function.comp_def, cv_cat]
theorem lvm_pk {ad : Nat → Nat} {l : List (Nat × AV)} {ks : List Nat} : lv_pick (lvm ad l) ks = lvm ad (pk l ks) := by
  simp only [lv_pick, lvm, pk, List.map_filterMap, List.getElem?_map]
theorem okl_pk {l : List (Nat × AV)} {ks : List Nat} (h : okl l) : okl (pk l ks) := fun q hq => by
  obtain ⟨k, -, hk⟩ := List.mem_filterMap.mp hq
  exact h q (List.mem_of_getElem? hk)
theorem okl_st1 {i : Nat} {v : AV} {l : List (Nat × AV)} (h : okl l) (hv : okv v) : okl (st1 i v l) := fun q hq => by
  rcases List.mem_cons.mp hq with rfl | h1
  · exact hv
  · exact h q (List.mem_filter.mp h1).1
theorem okl_st2 {i : Nat} {v : AV} {l : List (Nat × AV)} (h : okl l) (hv : okv v) : okl (st2 i v l) := fun q hq => by
  rcases List.mem_cons.mp hq with rfl | h1
  · exact hv
  · exact h q (List.mem_filter.mp h1).1
theorem oi_nat (n : Nat) : Int32.ofInt (n : Int) = nI n := by
  apply Int32.toBitVec_inj.mp
  simp [nI, Int32.ofInt, Int32.ofNat]
section EVR
variable {l : Launch} {b : ByteArray} {own : String} {nL : Nat} {ret : Option FieldType} {d pc : Nat} {lv : List (Nat × AV)} {st : List AV} {w : List AC} {K : Option AV → List AC → Prop}
theorem EV_iconst {n : Int} (hd : decode b pc = .ok (.iconst n, 1)) (hr : R32 n) (k : EV l b own nL ret d (pc + 1) lv (vI n :: st) w K) : EV l b own nL ret d pc lv (st) w K := by
  intro p e R s m args below meth c H locs dC dI ad cA A C D ol os ls hl
  exact lv_iconst C.1 C.2.1 hd rfl (k p e R s m args below meth c H locs dC dI ad cA A C D ol (oks_c hr os) ls hl)
theorem EV_bipush {n : Int} (hd : decode b pc = .ok (.bipush n, 2)) (hv : (Int8.ofInt n).toInt32 = Int32.ofInt n) (hr : R32 n) (k : EV l b own nL ret d (pc + 2) lv (vI n :: st) w K) : EV l b own nL ret d pc lv (st) w K := by
  intro p e R s m args below meth c H locs dC dI ad cA A C D ol os ls hl
  exact lv_bipush C.1 C.2.1 hd hv (k p e R s m args below meth c H locs dC dI ad cA A C D ol (oks_c hr os) ls hl)
theorem EV_sipush {n : Int} (hd : decode b pc = .ok (.sipush n, 3)) (hv : (Int16.ofInt n).toInt32 = Int32.ofInt n) (hr : R32 n) (k : EV l b own nL ret d (pc + 3) lv (vI n :: st) w K) : EV l b own nL ret d pc lv (st) w K := by
  intro p e R s m args below meth c H locs dC dI ad cA A C D ol os ls hl
  exact lv_sipush C.1 C.2.1 hd hv (k p e R s m args below meth c H locs dC dI ad cA A C D ol (oks_c hr os) ls hl)
theorem EV_lconst {n : Fin 2} {v : Nat} (hd : decode b pc = .ok (.lconst n, 1)) (hv : (n : Nat) = v) (k : EV l b own nL ret d (pc + 1) lv (vL v :: st) w K) : EV l b own nL ret d pc lv (st) w K := by
  intro p e R s m args below meth c H locs dC dI ad cA A C D ol os ls hl
  subst hv
  exact lv_lconst C.1 C.2.1 hd rfl (k p e R s m args below meth c H locs dC dI ad cA A C D ol (oks_c (v := vL n) (show (n : Nat) < 18446744073709551616 by omega) os) ls hl)
theorem EV_ldc {n : Int} {v : Int32} {idx : Nat} (hd : decode b pc = .ok (.ldc idx, 2)) (hc : Cond.constant own idx v ∈ Wt) (hv : v = Int32.ofInt n) (hr : R32 n) (k : EV l b own nL ret d (pc + 2) lv (vI n :: st) w K) : EV l b own nL ret d pc lv (st) w K := by
  intro p e R s m args below meth c H locs dC dI ad cA A C D ol os ls hl
  subst hv
  exact lv_ldc C.1 C.2.1 C.2.2.2.2.2.1 (C.2.2.2.2.2.2.1 _ hc) hd (k p e R s m args below meth c H locs dC dI ad cA A C D ol (oks_c hr os) ls hl)
theorem EV_ldc2 {n : Nat} {v : Int64} {idx : Nat} (hd : decode b pc = .ok (.ldc2_w idx, 3)) (hc : Cond.constantLong own idx v ∈ Wt) (hv : v = Int64.ofNat n) (hr : n < 18446744073709551616) (k : EV l b own nL ret d (pc + 3) lv (vL n :: st) w K) : EV l b own nL ret d pc lv (st) w K := by
  intro p e R s m args below meth c H locs dC dI ad cA A C D ol os ls hl
  subst hv
  exact lv_ldc2 C.1 C.2.1 C.2.2.2.2.2.1 (C.2.2.2.2.2.2.1 _ hc) hd (k p e R s m args below meth c H locs dC dI ad cA A C D ol (oks_c (v := vL n) hr os) ls hl)
theorem EV_iload_n {q : Fin 4} {i : Nat} {x : Int} (j : Nat) (hd : decode b pc = .ok (.iload_n q, 1)) (hi : (q : Nat) = i) (hk : lv[j]? = some (i, vI x)) (k : EV l b own nL ret d (pc + 1) lv (vI x :: st) w K) : EV l b own nL ret d pc lv (st) w K := by
  intro p e R s m args below meth c H locs dC dI ad cA A C D ol os ls hl
  exact lv_iload_n C.1 C.2.1 hd hi (lv_at hl j (lvm_at hk)) (k p e R s m args below meth c H locs dC dI ad cA A C D ol (oks_c (okl_at ol hk) os) ls hl)
theorem EV_iload {i : Nat} {x : Int} (j : Nat) (hd : decode b pc = .ok (.iload i, 2)) (hk : lv[j]? = some (i, vI x)) (k : EV l b own nL ret d (pc + 2) lv (vI x :: st) w K) : EV l b own nL ret d pc lv (st) w K := by
  intro p e R s m args below meth c H locs dC dI ad cA A C D ol os ls hl
  exact lv_iload C.1 C.2.1 hd (lv_at hl j (lvm_at hk)) (k p e R s m args below meth c H locs dC dI ad cA A C D ol (oks_c (okl_at ol hk) os) ls hl)
theorem EV_istore {i : Nat} {x : Int} {lv' : List (Nat × AV)} (ks : List Nat) (hd : decode b pc = .ok (.istore i, 2)) (hn : i < nL) (hp : pk (st1 i (vI x) lv) ks = lv') (k : EV l b own nL ret d (pc + 2) lv' st w K) : EV l b own nL ret d pc lv (vI x :: st) w K := by
  intro p e R s m args below meth c H locs dC dI ad cA A C D ol os ls hl
  subst hp
  exact lv_istore C.1 C.2.1 hd hl hn (lvm_st1 (v := vI x)) (fun ls' hl' => k p e R s m args below meth c H locs dC dI ad cA A C D (okl_pk (okl_st1 ol (oks_h os))) (oks_t os) ls' (lv_sub hl' ks lvm_pk))
theorem EV_istore_n {q : Fin 4} {i : Nat} {x : Int} {lv' : List (Nat × AV)} (ks : List Nat) (hd : decode b pc = .ok (.istore_n q, 1)) (hi : (q : Nat) = i) (hn : i < nL) (hp : pk (st1 i (vI x) lv) ks = lv') (k : EV l b own nL ret d (pc + 1) lv' st w K) : EV l b own nL ret d pc lv (vI x :: st) w K := by
  intro p e R s m args below meth c H locs dC dI ad cA A C D ol os ls hl
  subst hp
  exact lv_istore_n C.1 C.2.1 hd hi hl hn (lvm_st1 (v := vI x)) (fun ls' hl' => k p e R s m args below meth c H locs dC dI ad cA A C D (okl_pk (okl_st1 ol (oks_h os))) (oks_t os) ls' (lv_sub hl' ks lvm_pk))
theorem EV_lload_n {q : Fin 4} {i : Nat} {x : Nat} (j : Nat) (hd : decode b pc = .ok (.lload_n q, 1)) (hi : (q : Nat) = i) (hk : lv[j]? = some (i, vL x)) (k : EV l b own nL ret d (pc + 1) lv (vL x :: st) w K) : EV l b own nL ret d pc lv (st) w K := by
  intro p e R s m args below meth c H locs dC dI ad cA A C D ol os ls hl
  exact lv_lload_n C.1 C.2.1 hd hi (lv_at hl j (lvm_at hk)) (k p e R s m args below meth c H locs dC dI ad cA A C D ol (oks_c (okl_at ol hk) os) ls hl)
theorem EV_lload {i : Nat} {x : Nat} (j : Nat) (hd : decode b pc = .ok (.lload i, 2)) (hk : lv[j]? = some (i, vL x)) (k : EV l b own nL ret d (pc + 2) lv (vL x :: st) w K) : EV l b own nL ret d pc lv (st) w K := by
  intro p e R s m args below meth c H locs dC dI ad cA A C D ol os ls hl
  exact lv_lload C.1 C.2.1 hd (lv_at hl j (lvm_at hk)) (k p e R s m args below meth c H locs dC dI ad cA A C D ol (oks_c (okl_at ol hk) os) ls hl)
theorem EV_lstore {i : Nat} {x : Nat} {lv' : List (Nat × AV)} (ks : List Nat) (hd : decode b pc = .ok (.lstore i, 2)) (hn : i + 1 < nL) (hp : pk (st2 i (vL x) lv) ks = lv') (k : EV l b own nL ret d (pc + 2) lv' st w K) : EV l b own nL ret d pc lv (vL x :: st) w K := by
  intro p e R s m args below meth c H locs dC dI ad cA A C D ol os ls hl
  subst hp
  exact lv_lstore C.1 C.2.1 hd hl hn (lvm_st2 (v := vL x)) (fun ls' hl' => k p e R s m args below meth c H locs dC dI ad cA A C D (okl_pk (okl_st2 ol (oks_h os))) (oks_t os) ls' (lv_sub hl' ks lvm_pk))
theorem EV_lstore_n {q : Fin 4} {i : Nat} {x : Nat} {lv' : List (Nat × AV)} (ks : List Nat) (hd : decode b pc = .ok (.lstore_n q, 1)) (hi : (q : Nat) = i) (hn : i + 1 < nL) (hp : pk (st2 i (vL x) lv) ks = lv') (k : EV l b own nL ret d (pc + 1) lv' st w K) : EV l b own nL ret d pc lv (vL x :: st) w K := by
  intro p e R s m args below meth c H locs dC dI ad cA A C D ol os ls hl
  subst hp
  exact lv_lstore_n C.1 C.2.1 hd hi hl hn (lvm_st2 (v := vL x)) (fun ls' hl' => k p e R s m args below meth c H locs dC dI ad cA A C D (okl_pk (okl_st2 ol (oks_h os))) (oks_t os) ls' (lv_sub hl' ks lvm_pk))
theorem EV_aload_n {q : Fin 4} {i : Nat} {x : Nat} (j : Nat) (hd : decode b pc = .ok (.aload_n q, 1)) (hi : (q : Nat) = i) (hk : lv[j]? = some (i, vR x)) (k : EV l b own nL ret d (pc + 1) lv (vR x :: st) w K) : EV l b own nL ret d pc lv (st) w K := by
  intro p e R s m args below meth c H locs dC dI ad cA A C D ol os ls hl
  exact lv_aload_n C.1 C.2.1 hd hi (lv_at hl j (lvm_at hk)) (k p e R s m args below meth c H locs dC dI ad cA A C D ol (oks_c (okl_at ol hk) os) ls hl)
theorem EV_aload {i : Nat} {x : Nat} (j : Nat) (hd : decode b pc = .ok (.aload i, 2)) (hk : lv[j]? = some (i, vR x)) (k : EV l b own nL ret d (pc + 2) lv (vR x :: st) w K) : EV l b own nL ret d pc lv (st) w K := by
  intro p e R s m args below meth c H locs dC dI ad cA A C D ol os ls hl
  exact lv_aload C.1 C.2.1 hd (lv_at hl j (lvm_at hk)) (k p e R s m args below meth c H locs dC dI ad cA A C D ol (oks_c (okl_at ol hk) os) ls hl)
theorem EV_astore {i : Nat} {x : Nat} {lv' : List (Nat × AV)} (ks : List Nat) (hd : decode b pc = .ok (.astore i, 2)) (hn : i < nL) (hp : pk (st1 i (vR x) lv) ks = lv') (k : EV l b own nL ret d (pc + 2) lv' st w K) : EV l b own nL ret d pc lv (vR x :: st) w K := by
  intro p e R s m args below meth c H locs dC dI ad cA A C D ol os ls hl
  subst hp
  exact lv_astore C.1 C.2.1 hd hl hn (lvm_st1 (v := vR x)) (fun ls' hl' => k p e R s m args below meth c H locs dC dI ad cA A C D (okl_pk (okl_st1 ol (oks_h os))) (oks_t os) ls' (lv_sub hl' ks lvm_pk))
theorem EV_astore_n {q : Fin 4} {i : Nat} {x : Nat} {lv' : List (Nat × AV)} (ks : List Nat) (hd : decode b pc = .ok (.astore_n q, 1)) (hi : (q : Nat) = i) (hn : i < nL) (hp : pk (st1 i (vR x) lv) ks = lv') (k : EV l b own nL ret d (pc + 1) lv' st w K) : EV l b own nL ret d pc lv (vR x :: st) w K := by
  intro p e R s m args below meth c H locs dC dI ad cA A C D ol os ls hl
  subst hp
  exact lv_astore_n C.1 C.2.1 hd hi hl hn (lvm_st1 (v := vR x)) (fun ls' hl' => k p e R s m args below meth c H locs dC dI ad cA A C D (okl_pk (okl_st1 ol (oks_h os))) (oks_t os) ls' (lv_sub hl' ks lvm_pk))
theorem EV_iinc {i : Nat} {n x : Int} {lv' : List (Nat × AV)} (j : Nat) (ks : List Nat) (hd : decode b pc = .ok (.iinc i n, 3)) (hk : lv[j]? = some (i, vI x)) (hn : i < nL) (hr : R32 (x + n)) (hp : pk (st1 i (vI (x + n)) lv) ks = lv') (k : EV l b own nL ret d (pc + 3) lv' st w K) : EV l b own nL ret d pc lv st w K := by
  intro p e R s m args below meth c H locs dC dI ad cA A C D ol os ls hl
  subst hp
  exact lv_iinc C.1 C.2.1 hd hl (k := j) (lvm_at hk) (oi_add x n).symm hn (lvm_st1 (v := vI (x + n))) (fun ls' hl' => k p e R s m args below meth c H locs dC dI ad cA A C D (okl_pk (okl_st1 ol hr)) os ls' (lv_sub hl' ks lvm_pk))
theorem EV_lv {lv' : List (Nat × AV)} (ks : List Nat) (hp : pk lv ks = lv') (k : EV l b own nL ret d pc lv' st w K) : EV l b own nL ret d pc lv st w K := by
  intro p e R s m args below meth c H locs dC dI ad cA A C D ol os ls hl
  subst hp
  exact k p e R s m args below meth c H locs dC dI ad cA A C D (okl_pk ol) os ls (lv_sub hl ks lvm_pk)
theorem EV_iadd {x y : Int} (hd : decode b pc = .ok (.iadd, 1)) (hr : R32 (x + y)) (k : EV l b own nL ret d (pc + 1) lv (vI (x + y) :: st) w K) : EV l b own nL ret d pc lv (vI y :: vI x :: st) w K := by
  intro p e R s m args below meth c H locs dC dI ad cA A C D ol os ls hl
  refine lv_iadd C.1 C.2.1 hd ?_
  rw [← oi_add]
  exact k p e R s m args below meth c H locs dC dI ad cA A C D ol (oks_c hr (oks_t (oks_t os))) ls hl
theorem EV_isub {x y : Int} (hd : decode b pc = .ok (.isub, 1)) (hr : R32 (x - y)) (k : EV l b own nL ret d (pc + 1) lv (vI (x - y) :: st) w K) : EV l b own nL ret d pc lv (vI y :: vI x :: st) w K := by
  intro p e R s m args below meth c H locs dC dI ad cA A C D ol os ls hl
  refine lv_isub C.1 C.2.1 hd ?_
  rw [← oi_sub]
  exact k p e R s m args below meth c H locs dC dI ad cA A C D ol (oks_c hr (oks_t (oks_t os))) ls hl
theorem EV_imul {x y : Int} (hd : decode b pc = .ok (.imul, 1)) (hr : R32 (x * y)) (k : EV l b own nL ret d (pc + 1) lv (vI (x * y) :: st) w K) : EV l b own nL ret d pc lv (vI y :: vI x :: st) w K := by
  intro p e R s m args below meth c H locs dC dI ad cA A C D ol os ls hl
  refine lv_imul C.1 C.2.1 hd ?_
  rw [← oi_mul]
  exact k p e R s m args below meth c H locs dC dI ad cA A C D ol (oks_c hr (oks_t (oks_t os))) ls hl
theorem EV_icmp_eq {x y off : Int} {tgt : Nat} (hd : decode b pc = .ok (.if_icmp .eq off, 3)) (ht : (pc : Int) + off = (tgt : Int)) (kt : x = y → EV l b own nL ret d tgt lv st w K) (kf : ¬ x = y → EV l b own nL ret d (pc + 3) lv st w K) : EV l b own nL ret d pc lv (vI y :: vI x :: st) w K := by
  intro p e R s m args below meth c H locs dC dI ad cA A C D ol os ls hl
  have hx : R32 x := oks_h (oks_t os)
  have hy : R32 y := oks_h os
  exact lv_icmp_eq C.1 C.2.1 hd ht (fun q => kt ((oi_eq hx hy).mp q) p e R s m args below meth c H locs dC dI ad cA A C D ol (oks_t (oks_t os)) ls hl) (fun q => kf (fun z => q ((oi_eq hx hy).mpr z)) p e R s m args below meth c H locs dC dI ad cA A C D ol (oks_t (oks_t os)) ls hl)
theorem EV_if_eq {x off : Int} {tgt : Nat} (hd : decode b pc = .ok (.ifCond .eq off, 3)) (ht : (pc : Int) + off = (tgt : Int)) (kt : x = 0 → EV l b own nL ret d tgt lv st w K) (kf : ¬ x = 0 → EV l b own nL ret d (pc + 3) lv st w K) : EV l b own nL ret d pc lv (vI x :: st) w K := by
  intro p e R s m args below meth c H locs dC dI ad cA A C D ol os ls hl
  have hx : R32 x := oks_h os
  have hz : Int32.ofInt x = 0 ↔ x = 0 := by have h0 := oi_eq hx R32_0; rw [oi_0] at h0; exact h0
  exact lv_if_eq C.1 C.2.1 hd ht (fun q => kt (hz.mp q) p e R s m args below meth c H locs dC dI ad cA A C D ol (oks_t os) ls hl) (fun q => kf (fun z => q (hz.mpr z)) p e R s m args below meth c H locs dC dI ad cA A C D ol (oks_t os) ls hl)
theorem EV_icmp_ne {x y off : Int} {tgt : Nat} (hd : decode b pc = .ok (.if_icmp .ne off, 3)) (ht : (pc : Int) + off = (tgt : Int)) (kt : ¬ x = y → EV l b own nL ret d tgt lv st w K) (kf : x = y → EV l b own nL ret d (pc + 3) lv st w K) : EV l b own nL ret d pc lv (vI y :: vI x :: st) w K := by
  intro p e R s m args below meth c H locs dC dI ad cA A C D ol os ls hl
  have hx : R32 x := oks_h (oks_t os)
  have hy : R32 y := oks_h os
  exact lv_icmp_ne C.1 C.2.1 hd ht (fun q => kt (fun z => q ((oi_eq hx hy).mpr z)) p e R s m args below meth c H locs dC dI ad cA A C D ol (oks_t (oks_t os)) ls hl) (fun q => kf ((oi_eq hx hy).mp q) p e R s m args below meth c H locs dC dI ad cA A C D ol (oks_t (oks_t os)) ls hl)
theorem EV_if_ne {x off : Int} {tgt : Nat} (hd : decode b pc = .ok (.ifCond .ne off, 3)) (ht : (pc : Int) + off = (tgt : Int)) (kt : ¬ x = 0 → EV l b own nL ret d tgt lv st w K) (kf : x = 0 → EV l b own nL ret d (pc + 3) lv st w K) : EV l b own nL ret d pc lv (vI x :: st) w K := by
  intro p e R s m args below meth c H locs dC dI ad cA A C D ol os ls hl
  have hx : R32 x := oks_h os
  have hz : Int32.ofInt x = 0 ↔ x = 0 := by have h0 := oi_eq hx R32_0; rw [oi_0] at h0; exact h0
  exact lv_if_ne C.1 C.2.1 hd ht (fun q => kt (fun z => q (hz.mpr z)) p e R s m args below meth c H locs dC dI ad cA A C D ol (oks_t os) ls hl) (fun q => kf (hz.mp q) p e R s m args below meth c H locs dC dI ad cA A C D ol (oks_t os) ls hl)
theorem EV_icmp_lt {x y off : Int} {tgt : Nat} (hd : decode b pc = .ok (.if_icmp .lt off, 3)) (ht : (pc : Int) + off = (tgt : Int)) (kt : x < y → EV l b own nL ret d tgt lv st w K) (kf : ¬ x < y → EV l b own nL ret d (pc + 3) lv st w K) : EV l b own nL ret d pc lv (vI y :: vI x :: st) w K := by
  intro p e R s m args below meth c H locs dC dI ad cA A C D ol os ls hl
  have hx : R32 x := oks_h (oks_t os)
  have hy : R32 y := oks_h os
  exact lv_icmp_lt C.1 C.2.1 hd ht (fun q => kt ((oi_lt hx hy).mp q) p e R s m args below meth c H locs dC dI ad cA A C D ol (oks_t (oks_t os)) ls hl) (fun q => kf (fun z => q ((oi_lt hx hy).mpr z)) p e R s m args below meth c H locs dC dI ad cA A C D ol (oks_t (oks_t os)) ls hl)
theorem EV_if_lt {x off : Int} {tgt : Nat} (hd : decode b pc = .ok (.ifCond .lt off, 3)) (ht : (pc : Int) + off = (tgt : Int)) (kt : x < 0 → EV l b own nL ret d tgt lv st w K) (kf : ¬ x < 0 → EV l b own nL ret d (pc + 3) lv st w K) : EV l b own nL ret d pc lv (vI x :: st) w K := by
  intro p e R s m args below meth c H locs dC dI ad cA A C D ol os ls hl
  have hx : R32 x := oks_h os
  have hz : Int32.ofInt x < 0 ↔ x < 0 := by have h0 := oi_lt hx R32_0; rw [oi_0] at h0; exact h0
  exact lv_if_lt C.1 C.2.1 hd ht (fun q => kt (hz.mp q) p e R s m args below meth c H locs dC dI ad cA A C D ol (oks_t os) ls hl) (fun q => kf (fun z => q (hz.mpr z)) p e R s m args below meth c H locs dC dI ad cA A C D ol (oks_t os) ls hl)
theorem EV_icmp_ge {x y off : Int} {tgt : Nat} (hd : decode b pc = .ok (.if_icmp .ge off, 3)) (ht : (pc : Int) + off = (tgt : Int)) (kt : y ≤ x → EV l b own nL ret d tgt lv st w K) (kf : ¬ y ≤ x → EV l b own nL ret d (pc + 3) lv st w K) : EV l b own nL ret d pc lv (vI y :: vI x :: st) w K := by
  intro p e R s m args below meth c H locs dC dI ad cA A C D ol os ls hl
  have hx : R32 x := oks_h (oks_t os)
  have hy : R32 y := oks_h os
  exact lv_icmp_ge C.1 C.2.1 hd ht (fun q => kt ((oi_le hy hx).mp q) p e R s m args below meth c H locs dC dI ad cA A C D ol (oks_t (oks_t os)) ls hl) (fun q => kf (fun z => q ((oi_le hy hx).mpr z)) p e R s m args below meth c H locs dC dI ad cA A C D ol (oks_t (oks_t os)) ls hl)
theorem EV_if_ge {x off : Int} {tgt : Nat} (hd : decode b pc = .ok (.ifCond .ge off, 3)) (ht : (pc : Int) + off = (tgt : Int)) (kt : 0 ≤ x → EV l b own nL ret d tgt lv st w K) (kf : ¬ 0 ≤ x → EV l b own nL ret d (pc + 3) lv st w K) : EV l b own nL ret d pc lv (vI x :: st) w K := by
  intro p e R s m args below meth c H locs dC dI ad cA A C D ol os ls hl
  have hx : R32 x := oks_h os
  have hz : 0 ≤ Int32.ofInt x ↔ 0 ≤ x := by have h0 := oi_le R32_0 hx; rw [oi_0] at h0; exact h0
  exact lv_if_ge C.1 C.2.1 hd ht (fun q => kt (hz.mp q) p e R s m args below meth c H locs dC dI ad cA A C D ol (oks_t os) ls hl) (fun q => kf (fun z => q (hz.mpr z)) p e R s m args below meth c H locs dC dI ad cA A C D ol (oks_t os) ls hl)
theorem EV_icmp_gt {x y off : Int} {tgt : Nat} (hd : decode b pc = .ok (.if_icmp .gt off, 3)) (ht : (pc : Int) + off = (tgt : Int)) (kt : y < x → EV l b own nL ret d tgt lv st w K) (kf : ¬ y < x → EV l b own nL ret d (pc + 3) lv st w K) : EV l b own nL ret d pc lv (vI y :: vI x :: st) w K := by
  intro p e R s m args below meth c H locs dC dI ad cA A C D ol os ls hl
  have hx : R32 x := oks_h (oks_t os)
  have hy : R32 y := oks_h os
  exact lv_icmp_gt C.1 C.2.1 hd ht (fun q => kt ((oi_lt hy hx).mp q) p e R s m args below meth c H locs dC dI ad cA A C D ol (oks_t (oks_t os)) ls hl) (fun q => kf (fun z => q ((oi_lt hy hx).mpr z)) p e R s m args below meth c H locs dC dI ad cA A C D ol (oks_t (oks_t os)) ls hl)
theorem EV_if_gt {x off : Int} {tgt : Nat} (hd : decode b pc = .ok (.ifCond .gt off, 3)) (ht : (pc : Int) + off = (tgt : Int)) (kt : 0 < x → EV l b own nL ret d tgt lv st w K) (kf : ¬ 0 < x → EV l b own nL ret d (pc + 3) lv st w K) : EV l b own nL ret d pc lv (vI x :: st) w K := by
  intro p e R s m args below meth c H locs dC dI ad cA A C D ol os ls hl
  have hx : R32 x := oks_h os
  have hz : 0 < Int32.ofInt x ↔ 0 < x := by have h0 := oi_lt R32_0 hx; rw [oi_0] at h0; exact h0
  exact lv_if_gt C.1 C.2.1 hd ht (fun q => kt (hz.mp q) p e R s m args below meth c H locs dC dI ad cA A C D ol (oks_t os) ls hl) (fun q => kf (fun z => q (hz.mpr z)) p e R s m args below meth c H locs dC dI ad cA A C D ol (oks_t os) ls hl)
theorem EV_icmp_le {x y off : Int} {tgt : Nat} (hd : decode b pc = .ok (.if_icmp .le off, 3)) (ht : (pc : Int) + off = (tgt : Int)) (kt : x ≤ y → EV l b own nL ret d tgt lv st w K) (kf : ¬ x ≤ y → EV l b own nL ret d (pc + 3) lv st w K) : EV l b own nL ret d pc lv (vI y :: vI x :: st) w K := by
  intro p e R s m args below meth c H locs dC dI ad cA A C D ol os ls hl
  have hx : R32 x := oks_h (oks_t os)
  have hy : R32 y := oks_h os
  exact lv_icmp_le C.1 C.2.1 hd ht (fun q => kt ((oi_le hx hy).mp q) p e R s m args below meth c H locs dC dI ad cA A C D ol (oks_t (oks_t os)) ls hl) (fun q => kf (fun z => q ((oi_le hx hy).mpr z)) p e R s m args below meth c H locs dC dI ad cA A C D ol (oks_t (oks_t os)) ls hl)
theorem EV_if_le {x off : Int} {tgt : Nat} (hd : decode b pc = .ok (.ifCond .le off, 3)) (ht : (pc : Int) + off = (tgt : Int)) (kt : x ≤ 0 → EV l b own nL ret d tgt lv st w K) (kf : ¬ x ≤ 0 → EV l b own nL ret d (pc + 3) lv st w K) : EV l b own nL ret d pc lv (vI x :: st) w K := by
  intro p e R s m args below meth c H locs dC dI ad cA A C D ol os ls hl
  have hx : R32 x := oks_h os
  have hz : Int32.ofInt x ≤ 0 ↔ x ≤ 0 := by have h0 := oi_le hx R32_0; rw [oi_0] at h0; exact h0
  exact lv_if_le C.1 C.2.1 hd ht (fun q => kt (hz.mp q) p e R s m args below meth c H locs dC dI ad cA A C D ol (oks_t os) ls hl) (fun q => kf (fun z => q (hz.mpr z)) p e R s m args below meth c H locs dC dI ad cA A C D ol (oks_t os) ls hl)
theorem EV_goto {off : Int} {tgt : Nat} (hd : decode b pc = .ok (.goto off, 3)) (ht : (pc : Int) + off = (tgt : Int)) (k : EV l b own nL ret d tgt lv st w K) : EV l b own nL ret d pc lv (st) w K := by
  intro p e R s m args below meth c H locs dC dI ad cA A C D ol os ls hl
  exact lv_goto C.1 C.2.1 hd ht (k p e R s m args below meth c H locs dC dI ad cA A C D ol os ls hl)
theorem cv_c1 {ad : Nat → Nat} {v : AV} (h : isL v = false) : (cv ad v).category = 1 := by
  rcases v with x | n | k
  · rfl
  · cases h
  · rfl
theorem EV_dup {v : AV} (hd : decode b pc = .ok (.dup, 1)) (hv : isL v = false) (k : EV l b own nL ret d (pc + 1) lv (v :: v :: st) w K) : EV l b own nL ret d pc lv (v :: st) w K := by
  intro p e R s m args below meth c H locs dC dI ad cA A C D ol os ls hl
  exact lv_dup C.1 C.2.1 hd (cv_c1 hv) (k p e R s m args below meth c H locs dC dI ad cA A C D ol (oks_c (oks_h os) os) ls hl)
theorem EV_pop {v : AV} (hd : decode b pc = .ok (.pop, 1)) (hv : isL v = false) (k : EV l b own nL ret d (pc + 1) lv (st) w K) : EV l b own nL ret d pc lv (v :: st) w K := by
  intro p e R s m args below meth c H locs dC dI ad cA A C D ol os ls hl
  exact lv_pop C.1 C.2.1 hd (cv_c1 hv) (k p e R s m args below meth c H locs dC dI ad cA A C D ol (oks_t os) ls hl)
theorem EV_dup2 {v u : AV} (hd : decode b pc = .ok (.dup2, 1)) (hv : isL v = false) (hu : isL u = false) (k : EV l b own nL ret d (pc + 1) lv (v :: u :: v :: u :: st) w K) : EV l b own nL ret d pc lv (v :: u :: st) w K := by
  intro p e R s m args below meth c H locs dC dI ad cA A C D ol os ls hl
  exact lv_dup2_11 C.1 C.2.1 hd (cv_c1 hv) (cv_c1 hu) (k p e R s m args below meth c H locs dC dI ad cA A C D ol (oks_c (oks_h os) (oks_c (oks_h (oks_t os)) os)) ls hl)
end EVR
end
section
/-! rows of EV: fields, arrays, wide numbers, returns (printed by wip/gen/heap.py; the wb_ rows are the kit's own, pasted) -/
theorem wb_tb (n : Nat) : (lN n).toBitVec = BitVec.ofNat 64 n := rfl
theorem wb_inj {a b : Int64} (h : a.toBitVec = b.toBitVec) : a = b := Int64.toBitVec_inj.mp h
theorem wb_tn {n : Nat} (h : n < 2 ^ 64) : (lN n).toBitVec.toNat = n := by rw [wb_tb, BitVec.toNat_ofNat, Nat.mod_eq_of_lt h]
theorem wb_of (x : Int64) : ∃ n, n < 2 ^ 64 ∧ x = lN n := ⟨x.toBitVec.toNat, x.toBitVec.isLt, wb_inj (by rw [wb_tb]; simp)⟩
theorem wb_of32 (x : Int32) : ∃ n, n < 2 ^ 32 ∧ x = nI n := ⟨x.toBitVec.toNat, x.toBitVec.isLt, Int32.toBitVec_inj.mp (by show _ = BitVec.ofNat 32 _; simp)⟩
theorem wb_c : ∀ k, k < 64 → ((nI k).toInt64 &&& 63) = lN k := by decide +kernel
theorem wb_cu : ∀ k, k < 64 → ((nI k).toInt64.toUInt64 &&& Int64.toUInt64 63) = UInt64.ofNat k := by decide +kernel
theorem wb_sm : ∀ k, k < 64 → (BitVec.ofNat 64 k).smod 64 = BitVec.ofNat 64 k := by decide +kernel
theorem wb_pw {a b : Nat} (h : a ≤ b) : 2 ^ b = 2 ^ a * 2 ^ (b - a) := by rw [← Nat.pow_add]; congr 1; omega
theorem wb_lt2 {a b : Nat} (h : a < b) : 2 ^ a < 2 ^ b := Nat.pow_lt_pow_right (by decide) h
theorem wb_mod (n : Nat) : lN n = lN (n % 2 ^ 64) := wb_inj (by rw [wb_tb, wb_tb]; apply BitVec.eq_of_toNat_eq; rw [BitVec.toNat_ofNat, BitVec.toNat_ofNat, Nat.mod_mod])
theorem wb_shr {n k : Nat} (hn : n < 2 ^ 64) (hk : k < 64) : ((lN n).toUInt64 >>> ((nI k).toInt64.toUInt64 &&& Int64.toUInt64 63)).toInt64 = lN (n / 2 ^ k) := by
  rw [wb_cu k hk]
  apply wb_inj
  apply BitVec.eq_of_toNat_eq
  show ((lN n).toUInt64 >>> UInt64.ofNat k).toNat = (BitVec.ofNat 64 _).toNat
  have h1 : (UInt64.ofNat k).toNat = k := by
    show (BitVec.ofNat 64 k).toNat = k
    rw [BitVec.toNat_ofNat, Nat.mod_eq_of_lt (by omega)]
  have h2 : (lN n).toUInt64.toNat = n := wb_tn hn
  rw [UInt64.toNat_shiftRight, h1, h2, Nat.mod_eq_of_lt hk, Nat.shiftRight_eq_div_pow, BitVec.toNat_ofNat, Nat.mod_eq_of_lt (Nat.lt_of_le_of_lt (Nat.div_le_self _ _) hn)]
theorem wb_shl (n : Nat) {k : Nat} (hk : k < 64) : lN n <<< ((nI k).toInt64 &&& 63) = lN (n * 2 ^ k) := by
  rw [wb_c k hk]
  apply wb_inj
  rw [Int64.toBitVec_shiftLeft, wb_tb, wb_tb, wb_tb, wb_sm k hk]
  apply BitVec.eq_of_toNat_eq
  rw [BitVec.shiftLeft_eq', BitVec.toNat_shiftLeft, BitVec.toNat_ofNat, BitVec.toNat_ofNat, BitVec.toNat_ofNat, Nat.mod_eq_of_lt (show k < 2 ^ 64 by omega), Nat.shiftLeft_eq, Nat.mul_mod, Nat.mod_mod, ← Nat.mul_mod]
theorem wb_and {a b : Nat} (ha : a < 2 ^ 64) (hb : b < 2 ^ 64) : lN a &&& lN b = lN (a &&& b) := by
  apply wb_inj
  rw [Int64.toBitVec_and, wb_tb, wb_tb, wb_tb]
  apply BitVec.eq_of_toNat_eq
  rw [BitVec.toNat_and, BitVec.toNat_ofNat, BitVec.toNat_ofNat, BitVec.toNat_ofNat, Nat.mod_eq_of_lt ha, Nat.mod_eq_of_lt hb, Nat.mod_eq_of_lt (Nat.and_lt_two_pow _ hb)]
theorem wb_or {a b : Nat} (ha : a < 2 ^ 64) (hb : b < 2 ^ 64) : lN a ||| lN b = lN (a ||| b) := by
  apply wb_inj
  rw [Int64.toBitVec_or, wb_tb, wb_tb, wb_tb]
  apply BitVec.eq_of_toNat_eq
  rw [BitVec.toNat_or, BitVec.toNat_ofNat, BitVec.toNat_ofNat, BitVec.toNat_ofNat, Nat.mod_eq_of_lt ha, Nat.mod_eq_of_lt hb, Nat.mod_eq_of_lt (Nat.or_lt_two_pow ha hb)]
def updI (f : Int → Int) (i v : Int) : Int → Int := fun j => if j = i then v else f j
def updN (f : Int → Nat) (i : Int) (v : Nat) : Int → Nat := fun j => if j = i then v else f j
/-- arithmetic shift of a long, by its bits -/
def sar (n k : Nat) : Nat := ((BitVec.ofNat 64 n).sshiftRight k).toNat
theorem lnN (n : Nat) : Int64.ofNat n = lN n := rfl
theorem nn {x : Int} (h : 0 ≤ x) : ∃ n : Nat, x = (n : Int) := ⟨x.toNat, by omega⟩
theorem oi_div {x y : Int} (hx : R32 x) (hy : R32 y) (h0 : 0 ≤ x) (h1 : 0 < y) : Int32.ofInt x / Int32.ofInt y = Int32.ofInt (x / y) := by
  obtain ⟨a, rfl⟩ := nn h0
  obtain ⟨c, rfl⟩ := nn (Int.le_of_lt h1)
  have e : ((a : Int) / (c : Int)) = ((a / c : Nat) : Int) := by simp
  rw [e, oi_nat, oi_nat, oi_nat]
  exact pk_div (by have := hx.2; omega) (by omega) (by have := hy.2; omega)
theorem oi_rem {x y : Int} (hx : R32 x) (hy : R32 y) (h0 : 0 ≤ x) (h1 : 0 < y) : Int32.ofInt x - Int32.ofInt x / Int32.ofInt y * Int32.ofInt y = Int32.ofInt (x % y) := by
  obtain ⟨a, rfl⟩ := nn h0
  obtain ⟨c, rfl⟩ := nn (Int.le_of_lt h1)
  have e : ((a : Int) % (c : Int)) = ((a % c : Nat) : Int) := by simp
  rw [e, oi_nat, oi_nat, oi_nat]
  exact pk_rem (by have := hx.2; omega) (by omega) (by have := hy.2; omega)
theorem oi_ne0 {y : Int} (hy : R32 y) (h1 : 0 < y) : ¬ Int32.ofInt y = 0 := by
  rw [← oi_0, oi_eq hy R32_0]; omega
theorem sh_l : ∀ n, n < 32 → ((nI n &&& 31).toBitVec.smod 32).toNat = n := by decide +kernel
theorem oi_shl {x s : Int} (h0 : 0 ≤ x) (hs : 0 ≤ s ∧ s < 32) (h : x * 2 ^ s.toNat < 4294967296) : Int32.ofInt x <<< (Int32.ofInt s &&& 31) = Int32.ofInt (x * 2 ^ s.toNat) := by
  obtain ⟨a, rfl⟩ := nn h0
  obtain ⟨c, rfl⟩ := nn hs.1
  have e : ((a : Int) * 2 ^ (c : Int).toNat) = ((a * 2 ^ c : Nat) : Int) := by simp
  rw [e] at h ⊢
  rw [oi_nat, oi_nat, oi_nat]
  exact pk_shlN _ c (sh_l c (by omega)) (by omega)
theorem oi_shr {x s : Int} (hx : R32 x) (h0 : 0 ≤ x) (hs : 0 ≤ s ∧ s < 32) : Int32.ofInt x >>> (Int32.ofInt s &&& 31) = Int32.ofInt (x / 2 ^ s.toNat) := by
  obtain ⟨a, rfl⟩ := nn h0
  obtain ⟨c, rfl⟩ := nn hs.1
  have e : ((a : Int) / 2 ^ (c : Int).toNat) = ((a / 2 ^ c : Nat) : Int) := by simp
  rw [e, oi_nat, oi_nat, oi_nat]
  exact pk_shrN (by have := hx.2; omega) _ c (sh_l c (by omega))
theorem oi_and {x y : Int} (h0 : 0 ≤ x) (h1 : 0 ≤ y) : Int32.ofInt x &&& Int32.ofInt y = Int32.ofInt ((x.toNat &&& y.toNat : Nat) : Int) := by
  obtain ⟨a, rfl⟩ := nn h0
  obtain ⟨c, rfl⟩ := nn h1
  rw [oi_nat, oi_nat, oi_nat]
  apply Int32.toBitVec_inj.mp
  apply BitVec.eq_of_toNat_eq
  simp [nI, Nat.and_mod_two_pow]
theorem oi_or {x y : Int} (h0 : 0 ≤ x) (h1 : 0 ≤ y) : Int32.ofInt x ||| Int32.ofInt y = Int32.ofInt ((x.toNat ||| y.toNat : Nat) : Int) := by
  obtain ⟨a, rfl⟩ := nn h0
  obtain ⟨c, rfl⟩ := nn h1
  rw [oi_nat, oi_nat, oi_nat]
  apply Int32.toBitVec_inj.mp
  apply BitVec.eq_of_toNat_eq
  simp [nI, Nat.or_mod_two_pow]
theorem R32_and {x y : Int} (hx : R32 x) (h0 : 0 ≤ x) : R32 ((x.toNat &&& y.toNat : Nat) : Int) := by
  have h := Nat.and_le_left (n := x.toNat) (m := y.toNat)
  have := hx.2
  constructor <;> omega
theorem R32_or {x y : Int} (hx : R32 x) (hy : R32 y) (h0 : 0 ≤ x) (h1 : 0 ≤ y) : R32 ((x.toNat ||| y.toNat : Nat) : Int) := by
  have h := Nat.or_lt_two_pow (n := 31) (x := x.toNat) (y := y.toNat) (by have := hx.2; omega) (by have := hy.2; omega)
  constructor <;> omega
theorem R32_div {x y : Int} (hx : R32 x) (h0 : 0 ≤ x) (h1 : 0 < y) : R32 (x / y) := by
  have h2 : x / y ≤ x := Int.ediv_le_self y h0
  have h3 : 0 ≤ x / y := Int.ediv_nonneg h0 (Int.le_of_lt h1)
  have := hx.2
  constructor <;> omega
theorem R32_mod {x y : Int} (hy : R32 y) (h1 : 0 < y) : R32 (x % y) := by
  have h2 := Int.emod_nonneg x (show y ≠ 0 by omega)
  have h3 := Int.emod_lt_of_pos x h1
  have := hy.2
  constructor <;> omega
theorem oi_i2l {x : Int} (hx : R32 x) (h0 : 0 ≤ x) : (Int32.ofInt x).toInt64 = Int64.ofNat x.toNat := by
  obtain ⟨a, rfl⟩ := nn h0
  rw [oi_nat, nI_l (by have := hx.2; omega)]; rfl
theorem oi_l2i {n : Nat} (h : n < 2147483648) : (Int64.ofNat n).toInt32 = Int32.ofInt (n : Int) := by
  rw [oi_nat, lnN, lN_i]
theorem oi_i2c {x : Int} (h : 0 ≤ x ∧ x < 65536) : ((Int32.ofInt x).toUInt32 % 65536).toInt32 = Int32.ofInt x := by
  obtain ⟨a, rfl⟩ := nn h.1
  rw [oi_nat, pk_char, pk_tn (by omega), Nat.mod_eq_of_lt (by omega)]
theorem oi_nar {x : Int} (h : 0 ≤ x ∧ x < 65536) : vp_nar .char (Int32.ofInt x) = Int32.ofInt x := by
  obtain ⟨a, rfl⟩ := nn h.1
  rw [oi_nat]
  have := (pk_charN (q := a) (by omega)).1
  simp only [vp_nar, this]
theorem oi_lushr {n : Nat} {s : Int} (hn : n < 18446744073709551616) (hs : 0 ≤ s ∧ s < 64) : ((Int64.ofNat n).toUInt64 >>> ((Int32.ofInt s).toInt64.toUInt64 &&& Int64.toUInt64 63)).toInt64 = Int64.ofNat (n / 2 ^ s.toNat) := by
  obtain ⟨c, rfl⟩ := nn hs.1
  rw [oi_nat, lnN, lnN]
  exact wb_shr hn (by omega)
theorem oi_lshl {n : Nat} {s : Int} (hs : 0 ≤ s ∧ s < 64) : (Int64.ofNat n) <<< ((Int32.ofInt s).toInt64 &&& 63) = Int64.ofNat (n * 2 ^ s.toNat) := by
  obtain ⟨c, rfl⟩ := nn hs.1
  rw [oi_nat, lnN, lnN]
  exact wb_shl n (by omega)
theorem oi_lshr {n : Nat} {s : Int} (hs : 0 ≤ s ∧ s < 64) : (Int64.ofNat n) >>> ((Int32.ofInt s).toInt64 &&& 63) = Int64.ofNat (sar n s.toNat) := by
  obtain ⟨c, rfl⟩ := nn hs.1
  rw [oi_nat, wb_c c (by omega)]
  apply Int64.toBitVec_inj.mp
  apply BitVec.eq_of_toNat_eq
  rw [Int64.toBitVec_shiftRight, lnN, wb_tb, wb_tb, wb_sm c (by omega)]
  simp [sar, lN]
  rw [Nat.mod_eq_of_lt (a := c) (by omega)]
theorem sar_lt (n k : Nat) : sar n k < 18446744073709551616 := BitVec.isLt _
theorem arr_upd {f : Int → Int} {i v : Int} (h0 : 0 ≤ i) : upd (fun j : Nat => Int32.ofInt (f (j : Int))) i.toNat (Int32.ofInt v) = fun j : Nat => Int32.ofInt (updI f i v (j : Int)) := by
  funext j
  by_cases hj : j = i.toNat
  · subst hj
    rw [pk_us, Int.toNat_of_nonneg h0]
    simp [updI]
  · rw [pk_un hj, updI, if_neg (by omega)]
theorem arr_updN {f : Int → Nat} {i : Int} {v : Nat} (h0 : 0 ≤ i) : vp_updL (fun j : Nat => Int64.ofNat (f (j : Int))) i.toNat (Int64.ofNat v) = fun j : Nat => Int64.ofNat (updN f i v (j : Int)) := by
  funext j
  by_cases hj : j = i.toNat
  · subst hj
    rw [pk_uLs, Int.toNat_of_nonneg h0]
    simp [updN]
  · rw [pk_uLn hj, updN, if_neg (by omega)]
theorem okI_upd {f : Int → Int} {i v : Int} (h : ∀ j, R32 (f j)) (hv : R32 v) : ∀ j, R32 (updI f i v j) := fun j => by
  unfold updI
  split
  · exact hv
  · exact h j
theorem okN_upd {f : Int → Nat} {i : Int} {v : Nat} (h : ∀ j, f j < 18446744073709551616) (hv : v < 18446744073709551616) : ∀ j, updN f i v j < 18446744073709551616 := fun j => by
  unfold updN
  split
  · exact hv
  · exact h j
theorem mem_set {fs : List AV} {j : Nat} {v : AV} (h : ∀ x ∈ fs, okv x) (hv : okv v) : ∀ x ∈ fs.set j v, okv x := fun x hx => by
  rcases List.mem_or_eq_of_mem_set hx with h1 | rfl
  · exact h x h1
  · exact hv
theorem nf_int (ad : Nat → Nat) (x : Int) : narrow .int (cv ad (vI x)) = cv ad (vI x) ∧ fits .int (cv ad (vI x)) = true := ⟨rfl, rfl⟩
theorem nf_long (ad : Nat → Nat) (n : Nat) : narrow .long (cv ad (vL n)) = cv ad (vL n) ∧ fits .long (cv ad (vL n)) = true := ⟨rfl, rfl⟩
theorem nf_bool (ad : Nat → Nat) {x : Int} (h : x = 0 ∨ x = 1) : narrow .boolean (cv ad (vI x)) = cv ad (vI x) ∧ fits .boolean (cv ad (vI x)) = true := by
  rcases h with rfl | rfl
  · exact ⟨(by decide +kernel : narrow .boolean (.int (Int32.ofInt 0)) = .int (Int32.ofInt 0)), (by decide +kernel : fits .boolean (.int (Int32.ofInt 0)) = true)⟩
  · exact ⟨(by decide +kernel : narrow .boolean (.int (Int32.ofInt 1)) = .int (Int32.ofInt 1)), (by decide +kernel : fits .boolean (.int (Int32.ofInt 1)) = true)⟩
section EVH
variable {l : Launch} {b : ByteArray} {own : String} {nL : Nat} {ret : Option FieldType} {d pc : Nat} {lv : List (Nat × AV)} {st : List AV} {w : List AC} {K : Option AV → List AC → Prop}
theorem EV_idiv {x y : Int} (hd : decode b pc = .ok (.idiv, 1)) (h0 : 0 ≤ x) (h1 : 0 < y) (k : EV l b own nL ret d (pc + 1) lv (vI (x / y) :: st) w K) : EV l b own nL ret d pc lv (vI y :: vI x :: st) w K := by
  intro p e R s m args below meth c H locs dC dI ad cA A C D ol os ls hl
  have hx : R32 x := oks_h (oks_t os)
  have hy : R32 y := oks_h os
  refine lv_idiv C.1 C.2.1 hd (oi_ne0 hy h1) ?_
  rw [oi_div hx hy h0 h1]
  exact k p e R s m args below meth c H locs dC dI ad cA A C D ol (oks_c (R32_div hx h0 h1) (oks_t (oks_t os))) ls hl
theorem EV_irem {x y : Int} (hd : decode b pc = .ok (.irem, 1)) (h0 : 0 ≤ x) (h1 : 0 < y) (k : EV l b own nL ret d (pc + 1) lv (vI (x % y) :: st) w K) : EV l b own nL ret d pc lv (vI y :: vI x :: st) w K := by
  intro p e R s m args below meth c H locs dC dI ad cA A C D ol os ls hl
  have hx : R32 x := oks_h (oks_t os)
  have hy : R32 y := oks_h os
  refine lv_irem C.1 C.2.1 hd (oi_ne0 hy h1) ?_
  rw [oi_rem hx hy h0 h1]
  exact k p e R s m args below meth c H locs dC dI ad cA A C D ol (oks_c (R32_mod hy h1) (oks_t (oks_t os))) ls hl
theorem EV_ishl {x y : Int} (hd : decode b pc = .ok (.ishl, 1)) (h0 : 0 ≤ x) (h1 : 0 ≤ y ∧ y < 32) (hr : R32 (x * 2 ^ y.toNat)) (k : EV l b own nL ret d (pc + 1) lv (vI (x * 2 ^ y.toNat) :: st) w K) : EV l b own nL ret d pc lv (vI y :: vI x :: st) w K := by
  intro p e R s m args below meth c H locs dC dI ad cA A C D ol os ls hl
  refine lv_ishl C.1 C.2.1 hd ?_
  rw [oi_shl h0 h1 (by have := hr.2; omega)]
  exact k p e R s m args below meth c H locs dC dI ad cA A C D ol (oks_c hr (oks_t (oks_t os))) ls hl
theorem EV_ishr {x y : Int} (hd : decode b pc = .ok (.ishr, 1)) (h0 : 0 ≤ x) (h1 : 0 ≤ y ∧ y < 32) (k : EV l b own nL ret d (pc + 1) lv (vI (x / 2 ^ y.toNat) :: st) w K) : EV l b own nL ret d pc lv (vI y :: vI x :: st) w K := by
  intro p e R s m args below meth c H locs dC dI ad cA A C D ol os ls hl
  have hx : R32 x := oks_h (oks_t os)
  refine lv_ishr C.1 C.2.1 hd ?_
  rw [oi_shr hx h0 h1]
  exact k p e R s m args below meth c H locs dC dI ad cA A C D ol (oks_c (R32_div hx h0 (Int.pow_pos (by decide))) (oks_t (oks_t os))) ls hl
theorem EV_iand {x y : Int} (hd : decode b pc = .ok (.iand, 1)) (h0 : 0 ≤ x) (h1 : 0 ≤ y) (k : EV l b own nL ret d (pc + 1) lv (vI ((x.toNat &&& y.toNat : Nat) : Int) :: st) w K) : EV l b own nL ret d pc lv (vI y :: vI x :: st) w K := by
  intro p e R s m args below meth c H locs dC dI ad cA A C D ol os ls hl
  have hx : R32 x := oks_h (oks_t os)
  have hy : R32 y := oks_h os
  refine lv_iand C.1 C.2.1 hd ?_
  rw [oi_and h0 h1]
  exact k p e R s m args below meth c H locs dC dI ad cA A C D ol (oks_c (R32_and hx h0) (oks_t (oks_t os))) ls hl
theorem EV_ior {x y : Int} (hd : decode b pc = .ok (.ior, 1)) (h0 : 0 ≤ x) (h1 : 0 ≤ y) (k : EV l b own nL ret d (pc + 1) lv (vI ((x.toNat ||| y.toNat : Nat) : Int) :: st) w K) : EV l b own nL ret d pc lv (vI y :: vI x :: st) w K := by
  intro p e R s m args below meth c H locs dC dI ad cA A C D ol os ls hl
  have hx : R32 x := oks_h (oks_t os)
  have hy : R32 y := oks_h os
  refine lv_ior C.1 C.2.1 hd ?_
  rw [oi_or h0 h1]
  exact k p e R s m args below meth c H locs dC dI ad cA A C D ol (oks_c (R32_or hx hy h0 h1) (oks_t (oks_t os))) ls hl
theorem EV_i2l {x : Int} (hd : decode b pc = .ok (.i2l, 1)) (h0 : 0 ≤ x) (k : EV l b own nL ret d (pc + 1) lv (vL x.toNat :: st) w K) : EV l b own nL ret d pc lv (vI x :: st) w K := by
  intro p e R s m args below meth c H locs dC dI ad cA A C D ol os ls hl
  have hx : R32 x := oks_h os
  exact lv_i2l C.1 C.2.1 hd (oi_i2l hx h0) (k p e R s m args below meth c H locs dC dI ad cA A C D ol (oks_c (v := vL x.toNat) (show x.toNat < 18446744073709551616 by have := hx.2; omega) (oks_t os)) ls hl)
theorem EV_l2i {n : Nat} (hd : decode b pc = .ok (.l2i, 1)) (h0 : n < 2147483648) (k : EV l b own nL ret d (pc + 1) lv (vI (n : Int) :: st) w K) : EV l b own nL ret d pc lv (vL n :: st) w K := by
  intro p e R s m args below meth c H locs dC dI ad cA A C D ol os ls hl
  exact lv_l2i C.1 C.2.1 hd (oi_l2i h0) (k p e R s m args below meth c H locs dC dI ad cA A C D ol (oks_c (v := vI (n : Int)) (show R32 (n : Int) from ⟨by omega, by omega⟩) (oks_t os)) ls hl)
theorem EV_i2c {x : Int} (hd : decode b pc = .ok (.i2c, 1)) (h0 : 0 ≤ x ∧ x < 65536) (k : EV l b own nL ret d (pc + 1) lv (vI x :: st) w K) : EV l b own nL ret d pc lv (vI x :: st) w K := by
  intro p e R s m args below meth c H locs dC dI ad cA A C D ol os ls hl
  exact lv_i2c C.1 C.2.1 hd (oi_i2c h0) (k p e R s m args below meth c H locs dC dI ad cA A C D ol os ls hl)
theorem EV_lushr {n : Nat} {y : Int} (hd : decode b pc = .ok (.lushr, 1)) (h1 : 0 ≤ y ∧ y < 64) (k : EV l b own nL ret d (pc + 1) lv (vL (n / 2 ^ y.toNat) :: st) w K) : EV l b own nL ret d pc lv (vI y :: vL n :: st) w K := by
  intro p e R s m args below meth c H locs dC dI ad cA A C D ol os ls hl
  have hn : n < 18446744073709551616 := oks_h (oks_t os)
  exact lv_lushr C.1 C.2.1 hd (oi_lushr hn h1) (k p e R s m args below meth c H locs dC dI ad cA A C D ol (oks_c (v := vL (n / 2 ^ y.toNat)) (Nat.lt_of_le_of_lt (Nat.div_le_self _ _) hn) (oks_t (oks_t os))) ls hl)
theorem EV_lshl {n : Nat} {y : Int} (hd : decode b pc = .ok (.lshl, 1)) (h1 : 0 ≤ y ∧ y < 64) (h2 : n * 2 ^ y.toNat < 18446744073709551616) (k : EV l b own nL ret d (pc + 1) lv (vL (n * 2 ^ y.toNat) :: st) w K) : EV l b own nL ret d pc lv (vI y :: vL n :: st) w K := by
  intro p e R s m args below meth c H locs dC dI ad cA A C D ol os ls hl
  exact lv_lshl C.1 C.2.1 hd (oi_lshl h1) (k p e R s m args below meth c H locs dC dI ad cA A C D ol (oks_c (v := vL (n * 2 ^ y.toNat)) h2 (oks_t (oks_t os))) ls hl)
theorem EV_lshr {n : Nat} {y : Int} (hd : decode b pc = .ok (.lshr, 1)) (h1 : 0 ≤ y ∧ y < 64) (k : EV l b own nL ret d (pc + 1) lv (vL (sar n y.toNat) :: st) w K) : EV l b own nL ret d pc lv (vI y :: vL n :: st) w K := by
  intro p e R s m args below meth c H locs dC dI ad cA A C D ol os ls hl
  exact lv_lshr C.1 C.2.1 hd (oi_lshr h1) (k p e R s m args below meth c H locs dC dI ad cA A C D ol (oks_c (v := vL (sar n y.toNat)) (sar_lt _ _) (oks_t (oks_t os))) ls hl)
theorem EV_land {x y : Nat} (hd : decode b pc = .ok (.land, 1)) (k : EV l b own nL ret d (pc + 1) lv (vL (x &&& y) :: st) w K) : EV l b own nL ret d pc lv (vL y :: vL x :: st) w K := by
  intro p e R s m args below meth c H locs dC dI ad cA A C D ol os ls hl
  have hx : x < 18446744073709551616 := oks_h (oks_t os)
  have hy : y < 18446744073709551616 := oks_h os
  refine lv_land C.1 C.2.1 hd ?_
  rw [lnN, lnN, wb_and hx hy]
  exact k p e R s m args below meth c H locs dC dI ad cA A C D ol (oks_c (v := vL (x &&& y)) (Nat.lt_of_le_of_lt Nat.and_le_left hx) (oks_t (oks_t os))) ls hl
theorem EV_lor {x y : Nat} (hd : decode b pc = .ok (.lor, 1)) (k : EV l b own nL ret d (pc + 1) lv (vL (x ||| y) :: st) w K) : EV l b own nL ret d pc lv (vL y :: vL x :: st) w K := by
  intro p e R s m args below meth c H locs dC dI ad cA A C D ol os ls hl
  have hx : x < 18446744073709551616 := oks_h (oks_t os)
  have hy : y < 18446744073709551616 := oks_h os
  refine lv_lor C.1 C.2.1 hd ?_
  rw [lnN, lnN, wb_or hx hy]
  exact k p e R s m args below meth c H locs dC dI ad cA A C D ol (oks_c (v := vL (x ||| y)) (Nat.or_lt_two_pow (n := 64) hx hy) (oks_t (oks_t os))) ls hl
theorem lg_cmp0 {x y : Nat} (hx : x < 18446744073709551616) (hy : y < 18446744073709551616) : lg_cmp (Int64.ofNat x) (Int64.ofNat y) = 0 ↔ x = y := by
  have e : Int64.ofNat x = Int64.ofNat y ↔ x = y := by
    constructor
    · intro h
      have h1 : (lN x).toBitVec.toNat = (lN y).toBitVec.toNat := congrArg (fun z : Int64 => z.toBitVec.toNat) h
      rwa [wb_tn hx, wb_tn hy] at h1
    · intro h; rw [h]
  rw [← e]
  unfold lg_cmp
  simp only [gt_iff_lt, Int64.lt_iff_toInt_lt, ← Int64.toInt_inj]
  repeat' split
  all_goals (constructor <;> intro hh <;> first | omega | decide | exact absurd hh (by decide))
theorem EV_lcmp_eq {x y : Nat} {off : Int} {tgt : Nat} (hd : decode b pc = .ok (.lcmp, 1)) (hd2 : decode b (pc + 1) = .ok (.ifCond .eq off, 3)) (ht : ((pc + 1 : Nat) : Int) + off = (tgt : Int)) (kt : x = y → EV l b own nL ret d tgt lv st w K) (kf : ¬ x = y → EV l b own nL ret d (pc + 1 + 3) lv st w K) : EV l b own nL ret d pc lv (vL y :: vL x :: st) w K := by
  intro p e R s m args below meth c H locs dC dI ad cA A C D ol os ls hl
  have hx : x < 18446744073709551616 := oks_h (oks_t os)
  have hy : y < 18446744073709551616 := oks_h os
  have hz := lg_cmp0 hx hy
  refine W.lcmp C.1 C.2.1 hd ?_
  exact lv_if_eq C.1 C.2.1 hd2 ht (fun q => kt (hz.mp q) p e R s m args below meth c H locs dC dI ad cA A C D ol (oks_t (oks_t os)) ls hl) (fun q => kf (fun z => q (hz.mpr z)) p e R s m args below meth c H locs dC dI ad cA A C D ol (oks_t (oks_t os)) ls hl)
theorem EV_lcmp_ne {x y : Nat} {off : Int} {tgt : Nat} (hd : decode b pc = .ok (.lcmp, 1)) (hd2 : decode b (pc + 1) = .ok (.ifCond .ne off, 3)) (ht : ((pc + 1 : Nat) : Int) + off = (tgt : Int)) (kt : ¬ x = y → EV l b own nL ret d tgt lv st w K) (kf : x = y → EV l b own nL ret d (pc + 1 + 3) lv st w K) : EV l b own nL ret d pc lv (vL y :: vL x :: st) w K := by
  intro p e R s m args below meth c H locs dC dI ad cA A C D ol os ls hl
  have hx : x < 18446744073709551616 := oks_h (oks_t os)
  have hy : y < 18446744073709551616 := oks_h os
  have hz := lg_cmp0 hx hy
  refine W.lcmp C.1 C.2.1 hd ?_
  exact lv_if_ne C.1 C.2.1 hd2 ht (fun q => kt (fun z => q (hz.mpr z)) p e R s m args below meth c H locs dC dI ad cA A C D ol (oks_t (oks_t os)) ls hl) (fun q => kf (hz.mp q) p e R s m args below meth c H locs dC dI ad cA A C D ol (oks_t (oks_t os)) ls hl)
theorem EV_get {k idx ci j N : Nat} {Cn : String} {T : u_T} {fs : List AV} {v : AV} (hd : decode b pc = .ok (.getfield idx, 3)) (hw : w[k]? = some (cO ci fs)) (hc : classes[ci]? = some (Cn, T, N)) (hin : ∀ x ∈ u_ws Cn T N, x ∈ Wt) (hj : j < N) (hlk : Cond.fieldLink own idx (T j).1 (T j).2.1 (T j).2.2.1 ∈ Wt) (hv : fs[j]? = some v) (kk : EV l b own nL ret d (pc + 3) lv (v :: st) w K) : EV l b own nL ret d pc lv (vR k :: st) w K := by
  intro p e R s m args below meth c H locs dC dI ad cA A C D ol os ls hl
  have ok : okv v := (D.2.2 _ (List.mem_of_getElem? hw)) v (List.mem_of_getElem? hv)
  exact va_get (D := (dC, dI)) C.1 C.2.1 C.2.2.2.2.2.2.1 hin C.2.2.2.2.2.1 C.2.2.2.2.2.2.2.2.1 D.1 k (wsm_at hw) hc j hj (C.2.2.2.2.2.2.1 _ hlk) (fun _ h => h) (by rw [List.getElem?_map, hv]; rfl) hd (kk p e R s m args below meth c H locs dC dI ad cA A C D ol (oks_c ok (oks_t os)) ls hl)
theorem Qk_len {dC : Nat → ClassId} {dI : Nat → Nat → Nat} {ad : Nat → Nat} {cA : Nat → ClassId} {A : Nat → Prop} {n n' : Nat} {K : Option AV → List AC → Prop} (h : n' = n) : Qk dC dI ad cA A n' K = Qk dC dI ad cA A n K := by rw [h]
theorem Cx0_len {p : Program} {R : Room} {s : State} {m : MethodId} {args : Array Value} {meth : Method} {c : Code} {b : ByteArray} {own : String} {nL : Nat} {ret : Option FieldType} {d : Nat} {dC : Nat → ClassId} {dI : Nat → Nat → Nat} {ad : Nat → Nat} {cA : Nat → ClassId} {A : Nat → Prop} {n n' : Nat} (h : n' = n) (C : Cx0 p R s m args meth c b own nL ret d dC dI ad cA A n) : Cx0 p R s m args meth c b own nL ret d dC dI ad cA A n' := by rw [h]; exact C
theorem EV_set {p : Program} {e : Env} {R : Room} {s : State} {m : MethodId} {args : Array Value} {below : List Frame} {meth : Method} {c : Code} {H1 : Heap} {locs1 : List Loc} {dC : Nat → ClassId} {dI : Nat → Nat → Nat} {ad : Nat → Nat} {cA : Nat → ClassId} {A : Nat → Prop} {ls : Array Slot} {k : Nat} {cl : AC} {w' : List AC} (hw' : w.set k cl = w') (C : Cx0 p R s m args meth c b own nL ret d dC dI ad cA A w.length) (hP : va_P (dC, dI) classes (wsm ad cA (w.set k cl)) H1) (hS : va_S A s.heap H1 locs1) (ow : okw (w.set k cl)) (ol : okl lv) (os : oks st) (hl : lv_has ls nL (lvm ad lv)) (kk : EV l b own nL ret d pc lv st w' K) :
    W p l e R s m args below meth c H1 locs1 0 0 (MQ below (Qk dC dI ad cA A w.length K) args s 0 0 A) (F0 m pc ls (stm ad st)) := by
  subst hw'
  have hlen : (w.set k cl).length = w.length := List.length_set
  have h := kk p e R s m args below meth c H1 locs1 dC dI ad cA A (Cx0_len hlen C) ⟨hP, hS, ow⟩ ol os ls hl
  rw [hlen] at h
  exact h
theorem EV_put {k idx ci j N : Nat} {Cn : String} {T : u_T} {ty0 : Nat → FieldType} {ty : FieldType} {fs : List AV} {v : AV} {w' : List AC} (hd : decode b pc = .ok (.putfield idx, 3)) (hw : w[k]? = some (cO ci fs)) (hc : classes[ci]? = some (Cn, T, N)) (hin : ∀ x ∈ u_ws Cn T N, x ∈ Wt) (hty : ∀ k, k < N → parseFieldDescriptor (T k).2.2.1 = some (ty0 k)) (hnm : ∀ a, a < N → ∀ b, b < N → a ≠ b → (T a).2.1 ≠ (T b).2.1) (hj : j < N) (hlk : Cond.fieldLink own idx (T j).1 (T j).2.1 (T j).2.2.1 ∈ Wt) (hfin : (T j).2.2.2 = false) (hpd : ty0 j = ty) (hnf : ∀ ad, narrow ty (cv ad v) = cv ad v ∧ fits ty (cv ad v) = true) (hjl : j < fs.length) (hw' : w.set k (cO ci (fs.set j v)) = w') (kk : EV l b own nL ret d (pc + 3) lv st w' K) : EV l b own nL ret d pc lv (v :: vR k :: st) w K := by
  intro p e R s m args below meth c H locs dC dI ad cA A C D ol os ls hl
  have of : ∀ x ∈ fs, okv x := D.2.2 _ (List.mem_of_getElem? hw)
  have e1 : (fs.map (cv ad)).set j (cv ad v) = (fs.set j v).map (cv ad) := by rw [List.map_set]
  have e2 : (wsm ad cA w).set k (ad k, .inr (ci, (fs.map (cv ad)).set j (cv ad v))) = wsm ad cA (w.set k (cO ci (fs.set j v))) := by rw [e1]; exact wsm_set (c := cO ci (fs.set j v))
  refine va_put (D := (dC, dI)) C.1 C.2.1 C.2.2.2.2.2.2.1 hin ty0 hty hnm C.2.2.2.2.2.1 C.2.2.2.2.2.2.2.2.1 D.1 (adk_D C.2.2.2.2.2.2.2.2.2.1) D.2.1 k (wsm_at hw) hc j hj (C.2.2.2.2.2.2.1 _ hlk) (fun _ h => h) hfin (by rw [hty j hj, hpd]) (hnf ad).1 (hnf ad).2 (by rw [List.length_map]; exact hjl) hd (fun H1 locs1 hP hD hS => ?_)
  rw [e2] at hP
  exact EV_set hw' C hP hS (okw_set D.2.2 (mem_set of (oks_h os))) ol (oks_t (oks_t os)) hl kk
theorem EV_iald {k n : Nat} {f : Int → Int} {i : Int} (hd : decode b pc = .ok (.iaload, 1)) (hw : w[k]? = some (cI 0 n f)) (h : 0 ≤ i ∧ i < n) (kk : EV l b own nL ret d (pc + 1) lv (vI (f i) :: st) w K) : EV l b own nL ret d pc lv (vI i :: vR k :: st) w K := by
  intro p e R s m args below meth c H locs dC dI ad cA A C D ol os ls hl
  have hi : R32 i := oks_h os
  have ok : ∀ j, R32 (f j) := D.2.2 _ (List.mem_of_getElem? hw)
  refine va_iald C.1 C.2.1 C.2.2.2.2.2.2.2.2.1 D.1 k 0 (wsm_at hw) rfl (oi_in hi h.1 h.2) hd ?_
  show W p l e R s m args below meth c H locs 0 0 _ (F0 m (pc + 1) ls (.int (Int32.ofInt (f (((Int32.ofInt i).toNatClampNeg : Nat) : Int))) :: stm ad st))
  rw [oi_clamp hi h.1, Int.toNat_of_nonneg h.1]
  exact kk p e R s m args below meth c H locs dC dI ad cA A C D ol (oks_c (ok i) (oks_t (oks_t os))) ls hl
theorem EV_cald {k n : Nat} {f : Int → Int} {i : Int} (hd : decode b pc = .ok (.caload, 1)) (hw : w[k]? = some (cI 1 n f)) (h : 0 ≤ i ∧ i < n) (kk : EV l b own nL ret d (pc + 1) lv (vI (f i) :: st) w K) : EV l b own nL ret d pc lv (vI i :: vR k :: st) w K := by
  intro p e R s m args below meth c H locs dC dI ad cA A C D ol os ls hl
  have hi : R32 i := oks_h os
  have ok : ∀ j, R32 (f j) := D.2.2 _ (List.mem_of_getElem? hw)
  refine va_cald C.1 C.2.1 C.2.2.2.2.2.2.2.2.1 D.1 k 1 (wsm_at hw) rfl (oi_in hi h.1 h.2) hd ?_
  show W p l e R s m args below meth c H locs 0 0 _ (F0 m (pc + 1) ls (.int (Int32.ofInt (f (((Int32.ofInt i).toNatClampNeg : Nat) : Int))) :: stm ad st))
  rw [oi_clamp hi h.1, Int.toNat_of_nonneg h.1]
  exact kk p e R s m args below meth c H locs dC dI ad cA A C D ol (oks_c (ok i) (oks_t (oks_t os))) ls hl
theorem EV_lald {k n : Nat} {f : Int → Nat} {i : Int} (hd : decode b pc = .ok (.laload, 1)) (hw : w[k]? = some (cL n f)) (h : 0 ≤ i ∧ i < n) (kk : EV l b own nL ret d (pc + 1) lv (vL (f i) :: st) w K) : EV l b own nL ret d pc lv (vI i :: vR k :: st) w K := by
  intro p e R s m args below meth c H locs dC dI ad cA A C D ol os ls hl
  have hi : R32 i := oks_h os
  have ok : ∀ j, f j < 18446744073709551616 := D.2.2 _ (List.mem_of_getElem? hw)
  refine va_lald C.1 C.2.1 C.2.2.2.2.2.2.2.2.1 D.1 k 2 (wsm_at hw) rfl (oi_in hi h.1 h.2) hd ?_
  show W p l e R s m args below meth c H locs 0 0 _ (F0 m (pc + 1) ls (.long (Int64.ofNat (f (((Int32.ofInt i).toNatClampNeg : Nat) : Int))) :: stm ad st))
  rw [oi_clamp hi h.1, Int.toNat_of_nonneg h.1]
  exact kk p e R s m args below meth c H locs dC dI ad cA A C D ol (oks_c (v := vL (f i)) (ok i) (oks_t (oks_t os))) ls hl
theorem EV_iast {k n : Nat} {f : Int → Int} {i x : Int} {w' : List AC} (hd : decode b pc = .ok (.iastore, 1)) (hw : w[k]? = some (cI 0 n f)) (h : 0 ≤ i ∧ i < n) (hw' : w.set k (cI 0 n (updI f i x)) = w') (kk : EV l b own nL ret d (pc + 1) lv st w' K) : EV l b own nL ret d pc lv (vI x :: vI i :: vR k :: st) w K := by
  intro p e R s m args below meth c H locs dC dI ad cA A C D ol os ls hl
  have hi : R32 i := oks_h (oks_t os)
  have ok : ∀ j, R32 (f j) := D.2.2 _ (List.mem_of_getElem? hw)
  refine va_iast C.1 C.2.1 C.2.2.2.2.2.2.2.2.1 D.1 (adk_D C.2.2.2.2.2.2.2.2.2.1) D.2.1 k 0 (wsm_at hw) rfl (oi_in hi h.1 h.2) hd (fun H1 locs1 hP hD hS => ?_)
  rw [oi_clamp hi h.1, arr_upd h.1] at hP
  have e2 : (wsm ad cA w).set k (ad k, .inl (cA 0, n, .inl (fun j : Nat => Int32.ofInt (updI f i x (j : Int))))) = wsm ad cA (w.set k (cI 0 n (updI f i x))) := wsm_set (c := cI 0 n (updI f i x))
  rw [e2] at hP
  exact EV_set hw' C hP hS (okw_set D.2.2 (okI_upd ok (oks_h os))) ol (oks_t (oks_t (oks_t os))) hl kk
theorem EV_cast {k n : Nat} {f : Int → Int} {i x : Int} {w' : List AC} (hd : decode b pc = .ok (.castore, 1)) (hw : w[k]? = some (cI 1 n f)) (h : 0 ≤ i ∧ i < n) (hc : 0 ≤ x ∧ x < 65536) (hw' : w.set k (cI 1 n (updI f i x)) = w') (kk : EV l b own nL ret d (pc + 1) lv st w' K) : EV l b own nL ret d pc lv (vI x :: vI i :: vR k :: st) w K := by
  intro p e R s m args below meth c H locs dC dI ad cA A C D ol os ls hl
  have hi : R32 i := oks_h (oks_t os)
  have ok : ∀ j, R32 (f j) := D.2.2 _ (List.mem_of_getElem? hw)
  refine va_cast C.1 C.2.1 C.2.2.2.2.2.2.2.2.1 D.1 (adk_D C.2.2.2.2.2.2.2.2.2.1) D.2.1 k 1 (wsm_at hw) rfl (oi_in hi h.1 h.2) hd (fun H1 locs1 hP hD hS => ?_)
  rw [oi_clamp hi h.1, oi_nar hc, arr_upd h.1] at hP
  have e2 : (wsm ad cA w).set k (ad k, .inl (cA 1, n, .inl (fun j : Nat => Int32.ofInt (updI f i x (j : Int))))) = wsm ad cA (w.set k (cI 1 n (updI f i x))) := wsm_set (c := cI 1 n (updI f i x))
  rw [e2] at hP
  exact EV_set hw' C hP hS (okw_set D.2.2 (okI_upd ok (oks_h os))) ol (oks_t (oks_t (oks_t os))) hl kk
theorem EV_last {k n : Nat} {f : Int → Nat} {i : Int} {x : Nat} {w' : List AC} (hd : decode b pc = .ok (.lastore, 1)) (hw : w[k]? = some (cL n f)) (h : 0 ≤ i ∧ i < n) (hw' : w.set k (cL n (updN f i x)) = w') (kk : EV l b own nL ret d (pc + 1) lv st w' K) : EV l b own nL ret d pc lv (vL x :: vI i :: vR k :: st) w K := by
  intro p e R s m args below meth c H locs dC dI ad cA A C D ol os ls hl
  have hi : R32 i := oks_h (oks_t os)
  have ok : ∀ j, f j < 18446744073709551616 := D.2.2 _ (List.mem_of_getElem? hw)
  refine va_last C.1 C.2.1 C.2.2.2.2.2.2.2.2.1 D.1 (adk_D C.2.2.2.2.2.2.2.2.2.1) D.2.1 k 2 (wsm_at hw) rfl (oi_in hi h.1 h.2) hd (fun H1 locs1 hP hD hS => ?_)
  rw [oi_clamp hi h.1, arr_updN h.1] at hP
  have e2 : (wsm ad cA w).set k (ad k, .inl (cA 2, n, .inr (.inl (fun j : Nat => Int64.ofNat (updN f i x (j : Int)))))) = wsm ad cA (w.set k (cL n (updN f i x))) := wsm_set (c := cL n (updN f i x))
  rw [e2] at hP
  exact EV_set hw' C hP hS (okw_set D.2.2 (okN_upd ok (oks_h os))) ol (oks_t (oks_t (oks_t os))) hl kk
theorem EV_alen {k t n : Nat} {f : Int → Int} (ht : t < 2) (hd : decode b pc = .ok (.arraylength, 1)) (hw : w[k]? = some (cI t n f)) (hn : n < 2147483648) (kk : EV l b own nL ret d (pc + 1) lv (vI (n : Int) :: st) w K) : EV l b own nL ret d pc lv (vR k :: st) w K := by
  intro p e R s m args below meth c H locs dC dI ad cA A C D ol os ls hl
  have hr : R32 (n : Int) := ⟨by omega, by omega⟩
  rcases (show t = 0 ∨ t = 1 by omega) with rfl | rfl
  · exact va_alen C.1 C.2.1 C.2.2.2.2.2.2.2.2.1 D.1 k 0 (wsm_at hw) (ty := .int) rfl (oi_nat n).symm hd (kk p e R s m args below meth c H locs dC dI ad cA A C D ol (oks_c hr (oks_t os)) ls hl)
  · exact va_alen C.1 C.2.1 C.2.2.2.2.2.2.2.2.1 D.1 k 1 (wsm_at hw) (ty := .char) rfl (oi_nat n).symm hd (kk p e R s m args below meth c H locs dC dI ad cA A C D ol (oks_c hr (oks_t os)) ls hl)
theorem EV_iret {x : Int} {ty : FieldType} (hd : decode b pc = .ok (.ireturn, 1)) (hr : ret = some ty) (hn : narrow ty (.int (Int32.ofInt x)) = .int (Int32.ofInt x)) (hK : K (some (vI x)) w) : EV l b own nL ret d pc lv ([vI x]) w K := by
  intro p e R s m args below meth c H locs dC dI ad cA A C D ol os ls hl
  exact W.zret C.1 C.2.1 (C.2.2.2.1.trans hr) hn (fun t ht hW => ⟨some (vI x), w, rfl, fun v hv => by cases hv; exact oks_h os, D.2.2, rfl, hK, by rw [ht]; exact D.1, D.2.1.F ht⟩) D.2.1.2.2 hd C.2.2.2.2.1
theorem EV_lret {x : Nat} (hd : decode b pc = .ok (.lreturn, 1)) (hr : ret = some .long) (hK : K (some (vL x)) w) : EV l b own nL ret d pc lv ([vL x]) w K := by
  intro p e R s m args below meth c H locs dC dI ad cA A C D ol os ls hl
  exact W.lret C.1 C.2.1 (C.2.2.2.1.trans hr) (fun t ht hW => ⟨some (vL x), w, rfl, fun v hv => by cases hv; exact oks_h os, D.2.2, rfl, hK, by rw [ht]; exact D.1, D.2.1.F ht⟩) D.2.1.2.2 hd C.2.2.2.2.1
theorem EV_vret (hd : decode b pc = .ok (.return_, 1)) (hr : ret = none) (hK : K none w) : EV l b own nL ret d pc lv ([]) w K := by
  intro p e R s m args below meth c H locs dC dI ad cA A C D ol os ls hl
  exact W.vret C.1 C.2.1 (C.2.2.2.1.trans hr) (fun t ht hW => ⟨none, w, rfl, fun v hv => (by cases hv), D.2.2, rfl, hK, by rw [ht]; exact D.1, D.2.1.F ht⟩) D.2.1.2.2 hd C.2.2.2.2.1
theorem EV_aret {k : Nat} {cn : String} (hd : decode b pc = .ok (.areturn, 1)) (hr : ret = some (.object cn)) (hK : K (some (vR k)) w) : EV l b own nL ret d pc lv ([vR k]) w K := by
  intro p e R s m args below meth c H locs dC dI ad cA A C D ol os ls hl
  exact W.aret C.1 C.2.1 (C.2.2.2.1.trans hr) (Or.inl ⟨cn, rfl⟩) (Or.inr ⟨ad k, rfl⟩) (fun t ht hW => ⟨some (vR k), w, rfl, fun v hv => by cases hv; exact trivial, D.2.2, rfl, hK, by rw [ht]; exact D.1, D.2.1.F ht⟩) D.2.1.2.2 hd C.2.2.2.2.1
theorem nw_int (x : Int) : narrow .int (.int (Int32.ofInt x)) = .int (Int32.ofInt x) := rfl
theorem nw_bool {x : Int} (h : x = 0 ∨ x = 1) : narrow .boolean (.int (Int32.ofInt x)) = .int (Int32.ofInt x) := by
  rcases h with rfl | rfl <;> decide +kernel
theorem nw_char {x : Int} (h : 0 ≤ x ∧ x < 65536) : narrow .char (.int (Int32.ofInt x)) = .int (Int32.ofInt x) := by
  obtain ⟨a, rfl⟩ := nn h.1
  rw [oi_nat]
  exact (pk_charN (q := a) (by omega)).1
end EVH
end
section
/-! calls over abstract worlds -/
theorem good_tbl : GoodIn Wt Wt := fun w h => ⟨h, good_of_word (List.mem_filter.mp h).2⟩
theorem good_code {y : MethodName} {b : ByteArray} {nL : Nat} {ret : Option FieldType} (hc : Cond.code y b nL ret ∈ Wt) : GoodIn Wt (.code y b nL ret :: Wt) := fun w h => by
  rcases List.mem_cons.mp h with rfl | h1
  · exact good_tbl _ hc
  · exact good_tbl w h1
theorem SX_at {ad : Nat → Nat} {A B : Nat → Prop} {s U : State} {H : Heap} {locs : List Loc} (h : SX ad A s) (hS : va_S A s.heap H locs) (hU : U.heap = H) (hW : s.WarmedH U.vm) (hB : ∀ q, B q → A q) : SX ad B U := by
  have hk : ∀ a : Nat, a < s.heap.size → ¬ A a → U.heap[a]? = s.heap[a]? := fun a h1 h2 => by rw [hU]; exact hS.2.1 a h1 h2
  refine ⟨h.1.warm hW, ?_, ?_, fun own idx x host hm => va_Nw.warmM hW (h.2.2.2 own idx x host hm)⟩
  · exact vk_S.moved hW.alike ((h.2.1.kept hk).narrow hB)
  · exact (va_Z.moved hW.alike (h.2.2.1.kept hk)).narrow hB
theorem adk_self {ad : Nat → Nat} {A : Nat → Prop} {n : Nat} (h : adk ad A n) : adk ad (fun q => ∃ k, k < n ∧ q = ad k) n := ⟨h.1, fun i hi => ⟨i, hi, rfl⟩⟩
/-- where the arguments lie -/
def lva : Nat → List AV → List (Nat × AV)
  | _, [] => []
  | i, v :: vs => (i, v) :: lva (if isL v = true then i + 2 else i + 1) vs
def lsz : List AV → Nat
  | [] => 0
  | v :: vs => (if isL v = true then 2 else 1) + lsz vs
theorem lva_m {ad : Nat → Nat} : ∀ (as : List AV) (i : Nat), lv_args i (stm ad as) = lvm ad (lva i as)
  | [], _ => rfl
  | v :: vs, i => by
    have h : ((cv ad v).category = 2) = (isL v = true) := by rw [← cv_cat ad v]; simp
    show (i, cv ad v) :: lv_args (if (cv ad v).category = 2 then i + 2 else i + 1) (stm ad vs) = (i, cv ad v) :: lvm ad (lva (if isL v = true then i + 2 else i + 1) vs)
    simp only [h]
    rw [lva_m vs]
theorem lsz_m {ad : Nat → Nat} : ∀ as : List AV, (lg_sl (stm ad as)).length = lsz as
  | [] => rfl
  | v :: vs => by
    have ih := lsz_m (ad := ad) vs
    have h : ((cv ad v).category = 2) = (isL v = true) := by rw [← cv_cat ad v]; simp
    show (((if (cv ad v).category = 2 then [Slot.val (cv ad v), .second] else [.val (cv ad v)]) ++ lg_sl (stm ad vs))).length = (if isL v = true then 2 else 1) + lsz vs
    simp only [h, List.length_append, ih]
    split <;> simp
theorem okl_lva : ∀ (as : List AV) (i : Nat), oks as → okl (lva i as)
  | [], _, _ => fun _ h => by cases h
  | v :: vs, i, h => fun q hq => by
    rcases List.mem_cons.mp hq with rfl | h1
    · exact oks_h h
    · exact okl_lva vs _ (oks_t h) q h1
section CALL
variable {l : Launch} {b : ByteArray} {own : String} {nL : Nat} {ret : Option FieldType} {d pc : Nat} {lv : List (Nat × AV)} {st : List AV} {w : List AC} {K : Option AV → List AC → Prop}
/-- a contract out of a walk from the entry -/
theorem MT_of {y : MethodName} {as : List AV} (hpl : plainName y.cls = true) (hown : y.cls = own) (hen : lsz as ≤ nL) (hlv : lva 0 as = lv) (k : EV l b own nL ret d 0 lv [] w K) : MT l y b nL ret d as w K := by
  intro oa ow dC dI ad cA
  refine Met.ofW (cc := b) (maxL := nL) (ret := ret) hpl rfl ?_
  intro p e s m args below meth c s₁ B hml hv
  obtain ⟨rfl, hP, hK, hA, hX⟩ := hv
  have hts := atoms_spec (ws := .code y b nL ret :: Wt) B.pre
  have hf : s.vm.findClass own = some m.cls := by rw [← hown]; exact findClass_of_methodNamed B.named
  have hl := lv_entry (stm ad as) (n := nL) (by rw [lsz_m]; exact hen)
  rw [lg_entry_eq]
  generalize (lg_sl (stm ad as) ++ List.replicate (nL - (lg_sl (stm ad as)).length) Slot.unset).toArray = ls at hl ⊢
  rw [lva_m, hlv] at hl
  exact k p e _ s m _ below meth c s.heap [] dC dI ad cA (fun q => ∃ k, k < w.length ∧ q = ad k) ⟨B.exec, B.bytes, hml, B.returns, B.notSynchronized, hf, fun x hx => hts x (List.mem_cons_of_mem _ hx), ⟨Nat.le_refl _, Nat.le_refl _⟩, hK, hA, hX⟩ ⟨hP, va_S.rf, ow⟩ (hlv ▸ okl_lva as 0 oa) (fun v hv => by cases hv) ls hl
/-- behind a call -/
theorem EV_back {p : Program} {e : Env} {R : Room} {s : State} {m : MethodId} {args : Array Value} {below : List Frame} {meth : Method} {c : Code} {H : Heap} {locs : List Loc} {dC : Nat → ClassId} {dI : Nat → Nat → Nat} {ad : Nat → Nat} {cA : Nat → ClassId} {A : Nat → Prop} {ls : Array Slot} {st0 : List Value} {av : Array Value}
    (C : Cx0 p R s m args meth c b own nL ret d dC dI ad cA A w.length) (D : Cx1 s dC dI ad cA A H locs w) (ol : okl lv) (os : oks st) (hl : lv_has ls nL (lvm ad lv))
    (hr : va_Run p l e R s m args below meth c H locs 0 0 0 0 (F0 m pc ls st0) (stm ad st) (Qk dC dI ad cA (fun q => ∃ k, k < w.length ∧ q = ad k) w.length (fun r w' => EV l b own nL ret d (pc + 3) lv (r.toList ++ st) w' K) av) (fun q => ∃ k, k < w.length ∧ q = ad k)) :
    W p l e R s m args below meth c H locs 0 0 (MQ below (Qk dC dI ad cA A w.length K) args s 0 0 A) (F0 m pc ls st0) := by
  intro T hT X
  obtain ⟨v, st₀, t, T', L, h0, X', hL, e1, e2, ⟨r, w', hv, hrok, how, hlen, hk, hP, hF⟩, go⟩ := hr T hT X
  have hv' : v = r.map (cv ad) := by cases hv; rfl
  subst hv'
  have hA : ∀ q, (∃ k, k < w.length ∧ q = ad k) → A q := fun q ⟨k, h1, h2⟩ => by rw [h2]; exact C.2.2.2.2.2.2.2.2.2.1.2 k h1
  have hS : va_S A s.heap T'.heap (locs ++ L) := by
    refine ⟨?_, fun q h1 h2 => ?_, fun q hq => ?_⟩
    · rw [e1]; exact Nat.le_trans D.2.1.1 (by have := hF.1; rw [h0] at this; exact this)
    · have h3 := hF.2 q (by rw [h0]; exact Nat.lt_of_lt_of_le h1 D.2.1.1) (fun z => h2 (hA q z))
      rw [e1, h3, h0]
      exact D.2.1.2.1 q h1 h2
    · rcases List.mem_append.mp hq with h | h
      · exact D.2.1.2.2 q h
      · exact hA _ (hL q h)
  have hoks : oks (r.toList ++ st) := fun x hx => by
    rcases List.mem_append.mp hx with h | h
    · exact hrok x (by simpa using h)
    · exact os x h
  have h := hk p e R s m args below meth c T'.heap (locs ++ L) dC dI ad cA A (Cx0_len hlen C) ⟨by rw [e1]; exact hP, hS, how⟩ ol hoks ls hl
  rw [hlen] at h
  obtain ⟨t2, a1, b1⟩ := h T' rfl X'
  refine ⟨t2, go t2 ?_, b1⟩
  have e3 : stm ad (r.toList ++ st) = (r.map (cv ad)).toList ++ stm ad st := by
    cases r <;> simp [stm]
  rw [e3] at a1
  exact a1
theorem PB {dC : Nat → ClassId} {dI : Nat → Nat → Nat} {ad : Nat → Nat} {cA : Nat → ClassId} {av : List Value} {X : Prop} {B : Nat → Prop} : FrameBlind (va_Pc av (fun U => va_P (dC, dI) classes (wsm ad cA w) U.heap ∧ va_K (dC, dI) classes (tyl cA) U ∧ X ∧ SX ad B U)) := fun a U g mk q => by
  obtain ⟨q0, qP, qK, qX, qS⟩ := q
  have e : (U.calling g mk a).vm = U.vm := rfl
  have hh : (U.calling g mk a).heap = U.heap := rfl
  refine ⟨q0, qP, va_K.moved (u := U) (U := U.calling g mk a) (Vm.Alike.refl U.vm) qK, qX, ?_⟩
  exact ⟨vk_R.same e qS.1, vk_S.moved (u := U) (U := U.calling g mk a) (Vm.Alike.refl U.vm) qS.2.1, va_Z.moved (u := U) (U := U.calling g mk a) (Vm.Alike.refl U.vm) qS.2.2.1, fun own idx x host hm => va_Nw.same rfl e.symm (qS.2.2.2 own idx x host hm)⟩
end CALL
end
section
/-! the call rows -/
theorem stm_cat {ad : Nat → Nat} : ∀ st : List AV, ((stm ad st).map fun v => v.category).sum = lsz st
  | [] => rfl
  | v :: vs => by
    have ih := stm_cat (ad := ad) vs
    show (cv ad v).category + ((stm ad vs).map fun v => v.category).sum = (if isL v = true then 2 else 1) + lsz vs
    rw [ih]
    rcases v with x | n | k <;> rfl
theorem good_V {own : String} {idx : Nat} {y : MethodName} {b : ByteArray} {nL : Nat} {ret : Option FieldType} (hl : Cond.methodLink own idx y ∈ Wt) (hi : Cond.instanceMethod y ∈ Wt) (hs : Cond.selects y.cls y y ∈ Wt) (hini : Cond.initialized y.cls ∈ Wt) (hc : Cond.code y b nL ret ∈ Wt) : GoodIn Wt (wsV own idx y.cls y (.code y b nL ret :: Wt)) := fun w h => by
  unfold wsV at h
  rcases List.mem_append.mp h with h | h
  · simp only [List.mem_cons, List.not_mem_nil, or_false] at h
    rcases h with rfl | rfl | rfl | rfl
    · exact good_tbl _ hl
    · exact good_tbl _ hi
    · exact good_tbl _ hs
    · exact good_tbl _ hini
  · exact good_code hc w h
theorem good_S {own : String} {idx : Nat} {y : MethodName} {b : ByteArray} {nL : Nat} {ret : Option FieldType} (hl : Cond.methodLink own idx y ∈ Wt) (hs : Cond.static y ∈ Wt) (hini : Cond.initialized own ∈ Wt) (hc : Cond.code y b nL ret ∈ Wt) : GoodIn Wt (wsS own idx y (.code y b nL ret :: Wt)) := fun w h => by
  unfold wsS at h
  rcases List.mem_append.mp h with h | h
  · simp only [List.mem_cons, List.not_mem_nil, or_false] at h
    rcases h with rfl | rfl | rfl
    · exact good_tbl _ hl
    · exact good_tbl _ hs
    · exact good_tbl _ hini
  · exact good_code hc w h
section CALL2
variable {l : Launch} {b : ByteArray} {own : String} {nL : Nat} {ret : Option FieldType} {d pc : Nat} {lv : List (Nat × AV)} {st stk : List AV} {w : List AC} {K : Option AV → List AC → Prop}
theorem EV_callV {y : MethodName} {b' : ByteArray} {nL' d' idx k ci N : Nat} {ret' : Option FieldType} {T : u_T} {fs as : List AV} (hd : decode b pc = .ok (.invokevirtual idx, 3)) (hl : Cond.methodLink own idx y ∈ Wt) (hi : Cond.instanceMethod y ∈ Wt) (hs : Cond.selects y.cls y y ∈ Wt) (hini : Cond.initialized y.cls ∈ Wt) (hc : Cond.code y b' nL' ret' ∈ Wt) (hw : w[k]? = some (cO ci fs)) (hcl : classes[ci]? = some (y.cls, T, N)) (hpd : y.cls ≠ "java/lang/invoke/MethodHandle" ∧ y.cls ≠ "java/lang/invoke/VarHandle" ∧ (parseMethodDescriptor y.desc).map (fun d => d.parameters.length) = some as.length) (hdd : d' + 1 ≤ d ∧ nL' ≤ 21 ∧ lsz st ≤ 8) (hstk : stk = as.reverse ++ vR k :: st)
    (hM : MT l y b' nL' ret' d' (vR k :: as) w (fun r w' => EV l b own nL ret d (pc + 3) lv (r.toList ++ st) w' K)) : EV l b own nL ret d pc lv stk w K := by
  subst hstk
  intro p e R s m args below meth c H locs dC dI ad cA A C D ol os lss hll
  have os' : oks st := fun x hx => os x (List.mem_append_right _ (List.mem_cons_of_mem _ hx))
  have oa : oks (vR k :: as) := fun x hx => by
    rcases List.mem_cons.mp hx with rfl | h
    · exact trivial
    · exact os x (List.mem_append_left _ (List.mem_reverse.mpr h))
  have hts := C.2.2.2.2.2.2.1
  have hK := C.2.2.2.2.2.2.2.2.1
  have hA := C.2.2.2.2.2.2.2.2.2.1
  have hX := C.2.2.2.2.2.2.2.2.2.2
  have hR := C.2.2.2.2.2.2.2.1
  have hS := D.2.1
  refine EV_back C D ol os' hll (av := (Value.ref (ad k) :: stm ad as).toArray) (va_runV (As := stm ad as) (b := ad k) (C := y.cls) ⟨C.1, C.2.1, C.2.2.1, C.2.2.2.2.2.1, hts⟩ (hM oa D.2.2 dC dI ad cA) (cwV as.length hts (good_V hl hi hs hini hc) rfl rfl rfl ⟨rfl, hpd⟩ ⟨Nat.le_trans hdd.1 hR.1, ?_⟩) ⟨PB, va_recv hK D.1 hcl (wsm_at hw), fun U hU hW => ⟨rfl, by rw [hU]; exact D.1, va_K.moved hW.alike hK, adk_self hA, SX_at hX hS hU hW (fun q ⟨k, h1, h2⟩ => by rw [h2]; exact hA.2 k h1)⟩⟩ rfl (by simp [stm]) hll.1 ?_ ?_ hd ⟨Nat.zero_le _, Nat.zero_le _⟩)
  · have h1 := hR.2
    have h2 : 40 * (d' + 1) ≤ 40 * d := Nat.mul_le_mul_left 40 hdd.1
    show 8 + (nL' + 11) + 40 * d' ≤ R.locals
    omega
  · simp [stm, cv]
  · show 2 * 0 + ((stm ad st).map fun v => v.category).sum ≤ 8
    rw [stm_cat]
    omega
theorem EV_callS {y : MethodName} {b' : ByteArray} {nL' d' idx : Nat} {ret' : Option FieldType} {as : List AV} (hd : decode b pc = .ok (.invokestatic idx, 3)) (hl : Cond.methodLink own idx y ∈ Wt) (hs : Cond.static y ∈ Wt) (hini : Cond.initialized own ∈ Wt) (hc : Cond.code y b' nL' ret' ∈ Wt) (hpd : y.cls = own ∧ y.cls ≠ "java/lang/invoke/MethodHandle" ∧ y.cls ≠ "java/lang/invoke/VarHandle" ∧ (parseMethodDescriptor y.desc).map (fun d => d.parameters.length) = some as.length) (hdd : d' + 1 ≤ d ∧ nL' ≤ 21 ∧ lsz st ≤ 8) (hstk : stk = as.reverse ++ st)
    (hM : MT l y b' nL' ret' d' as w (fun r w' => EV l b own nL ret d (pc + 3) lv (r.toList ++ st) w' K)) : EV l b own nL ret d pc lv stk w K := by
  subst hstk
  intro p e R s m args below meth c H locs dC dI ad cA A C D ol os lss hll
  have os' : oks st := fun x hx => os x (List.mem_append_right _ hx)
  have oa : oks as := fun x hx => os x (List.mem_append_left _ (List.mem_reverse.mpr hx))
  have hts := C.2.2.2.2.2.2.1
  have hK := C.2.2.2.2.2.2.2.2.1
  have hA := C.2.2.2.2.2.2.2.2.2.1
  have hX := C.2.2.2.2.2.2.2.2.2.2
  have hR := C.2.2.2.2.2.2.2.1
  have hS := D.2.1
  refine EV_back C D ol os' hll (av := (stm ad as).toArray) (va_runS (As := stm ad as) ⟨C.1, C.2.1, C.2.2.1, C.2.2.2.2.2.1, hts⟩ (hM oa D.2.2 dC dI ad cA) (cwS as.length hts (good_S hl hs hini hc) rfl rfl rfl hpd ⟨Nat.le_trans hdd.1 hR.1, ?_⟩) ⟨PB, fun U hU hW => ⟨rfl, by rw [hU]; exact D.1, va_K.moved hW.alike hK, adk_self hA, SX_at hX hS hU hW (fun q ⟨k, h1, h2⟩ => by rw [h2]; exact hA.2 k h1)⟩⟩ rfl (by simp [stm]) hll.1 ?_ ?_ hd ⟨Nat.zero_le _, Nat.zero_le _⟩)
  · have h1 := hR.2
    have h2 : 40 * (d' + 1) ≤ 40 * d := Nat.mul_le_mul_left 40 hdd.1
    show 8 + (nL' + 11) + 40 * d' ≤ R.locals
    omega
  · simp [stm]
  · show 2 * 0 + ((stm ad st).map fun v => v.category).sum ≤ 8
    rw [stm_cat]
    omega
theorem EV_callN {y : MethodName} {host : String} {b' : ByteArray} {nL' d' idx : Nat} {ret' : Option FieldType} {as : List AV} (hd : decode b pc = .ok (.invokestatic idx, 3)) (hl : Cond.methodLinkNest own idx y host ∈ lw_tbl) (hs : Cond.static y ∈ Wt) (hini : Cond.initialized y.cls ∈ Wt) (hc : Cond.code y b' nL' ret' ∈ Wt) (hpd : y.cls ≠ "java/lang/invoke/MethodHandle" ∧ y.cls ≠ "java/lang/invoke/VarHandle" ∧ (parseMethodDescriptor y.desc).map (fun d => d.parameters.length) = some as.length) (hdd : d' + 1 ≤ d ∧ nL' ≤ 21 ∧ lsz st ≤ 8) (hstk : stk = as.reverse ++ st)
    (hM : MT l y b' nL' ret' d' as w (fun r w' => EV l b own nL ret d (pc + 3) lv (r.toList ++ st) w' K)) : EV l b own nL ret d pc lv stk w K := by
  subst hstk
  intro p e R s m args below meth c H locs dC dI ad cA A C D ol os lss hll
  have os' : oks st := fun x hx => os x (List.mem_append_right _ hx)
  have oa : oks as := fun x hx => os x (List.mem_append_left _ (List.mem_reverse.mpr hx))
  have hts := C.2.2.2.2.2.2.1
  have hK := C.2.2.2.2.2.2.2.2.1
  have hA := C.2.2.2.2.2.2.2.2.2.1
  have hX := C.2.2.2.2.2.2.2.2.2.2
  have hR := C.2.2.2.2.2.2.2.1
  have hS := D.2.1
  refine EV_back C D ol os' hll (av := (stm ad as).toArray) (va_runSN (As := stm ad as) ⟨C.1, C.2.1, C.2.2.1, C.2.2.2.2.2.1, hts⟩ (hM oa D.2.2 dC dI ad cA) ⟨va_cnB as.length hts (good_code hc) rfl rfl rfl (hX.2.2.2 own idx y host hl) (hts _ hini) hpd ⟨Nat.le_trans hdd.1 hR.1, ?_⟩, hts _ hs, trivial⟩ ⟨PB, fun U hU hW => ⟨rfl, by rw [hU]; exact D.1, va_K.moved hW.alike hK, adk_self hA, SX_at hX hS hU hW (fun q ⟨k, h1, h2⟩ => by rw [h2]; exact hA.2 k h1)⟩⟩ rfl (by simp [stm]) hll.1 ?_ ?_ hd ⟨Nat.zero_le _, Nat.zero_le _⟩)
  · have h1 := hR.2
    have h2 : 40 * (d' + 1) ≤ 40 * d := Nat.mul_le_mul_left 40 hdd.1
    show 8 + (nL' + 11) + 40 * d' ≤ R.locals
    omega
  · simp [stm]
  · show 2 * 0 + ((stm ad st).map fun v => v.category).sum ≤ 8
    rw [stm_cat]
    omega
end CALL2
end
