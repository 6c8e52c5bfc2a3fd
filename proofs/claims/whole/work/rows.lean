section
-- ===== PART A: goes FIRST, ahead of the names: the tables' words, and 'selects' of the private methods out of them =====
/-- a private method of a class that the tables say can be made, by its rows of tables_1 -/
def lw_okq (q : MethodName × Nat) : Prop := (q.1.cls ≠ "java/lang/invoke/MethodHandle" ∧ q.1.cls ≠ "java/lang/invoke/VarHandle") ∧ Cond.instantiable q.1.cls q.2 ∈ tables_1 ∧ Cond.privateMethod q.1 ∈ tables_1 ∧ Cond.instanceMethod q.1 ∈ tables_1
theorem lw_p0 : lw_okq (⟨"PrunedSearch$ClauseReader", "start", "(LPrunedSearch$Text;)V"⟩, 10) := ⟨⟨by decide +kernel, by decide +kernel⟩, List.mem_of_getElem? (i := 86) (by decide +kernel), List.mem_of_getElem? (i := 476) (by decide +kernel), List.mem_of_getElem? (i := 477) (by decide +kernel)⟩
theorem lw_p1 : lw_okq (⟨"PrunedSearch$Tokens", "lengthenWord", "(CI)V"⟩, 4) := ⟨⟨by decide +kernel, by decide +kernel⟩, List.mem_of_getElem? (i := 92) (by decide +kernel), List.mem_of_getElem? (i := 493) (by decide +kernel), List.mem_of_getElem? (i := 494) (by decide +kernel)⟩
theorem lw_p2 : lw_okq (⟨"PrunedSearch$Tokens", "put", "(CIJ)V"⟩, 4) := ⟨⟨by decide +kernel, by decide +kernel⟩, List.mem_of_getElem? (i := 92) (by decide +kernel), List.mem_of_getElem? (i := 498) (by decide +kernel), List.mem_of_getElem? (i := 499) (by decide +kernel)⟩
theorem lw_p3 : lw_okq (⟨"PrunedSearch$Tokens", "completeNeck", "()V"⟩, 4) := ⟨⟨by decide +kernel, by decide +kernel⟩, List.mem_of_getElem? (i := 92) (by decide +kernel), List.mem_of_getElem? (i := 502) (by decide +kernel), List.mem_of_getElem? (i := 503) (by decide +kernel)⟩
theorem lw_p4 : lw_okq (⟨"PrunedSearch$ClauseReader", "startPart", "()V"⟩, 10) := ⟨⟨by decide +kernel, by decide +kernel⟩, List.mem_of_getElem? (i := 86) (by decide +kernel), List.mem_of_getElem? (i := 510) (by decide +kernel), List.mem_of_getElem? (i := 511) (by decide +kernel)⟩
theorem lw_p5 : lw_okq (⟨"PrunedSearch$ClauseReader", "isAt", "(C)Z"⟩, 10) := ⟨⟨by decide +kernel, by decide +kernel⟩, List.mem_of_getElem? (i := 86) (by decide +kernel), List.mem_of_getElem? (i := 514) (by decide +kernel), List.mem_of_getElem? (i := 515) (by decide +kernel)⟩
theorem lw_p6 : lw_okq (⟨"PrunedSearch$ClauseReader", "readClause", "()Z"⟩, 10) := ⟨⟨by decide +kernel, by decide +kernel⟩, List.mem_of_getElem? (i := 86) (by decide +kernel), List.mem_of_getElem? (i := 522) (by decide +kernel), List.mem_of_getElem? (i := 523) (by decide +kernel)⟩
theorem lw_p7 : lw_okq (⟨"PrunedSearch$ClauseReader", "readTerm", "()Z"⟩, 10) := ⟨⟨by decide +kernel, by decide +kernel⟩, List.mem_of_getElem? (i := 86) (by decide +kernel), List.mem_of_getElem? (i := 526) (by decide +kernel), List.mem_of_getElem? (i := 527) (by decide +kernel)⟩
theorem lw_p8 : lw_okq (⟨"PrunedSearch$ClauseReader", "variableSymbol", "(J)I"⟩, 10) := ⟨⟨by decide +kernel, by decide +kernel⟩, List.mem_of_getElem? (i := 86) (by decide +kernel), List.mem_of_getElem? (i := 534) (by decide +kernel), List.mem_of_getElem? (i := 535) (by decide +kernel)⟩
theorem lw_p9 : lw_okq (⟨"PrunedSearch$ClauseReader", "readArguments", "(I)Z"⟩, 10) := ⟨⟨by decide +kernel, by decide +kernel⟩, List.mem_of_getElem? (i := 86) (by decide +kernel), List.mem_of_getElem? (i := 547) (by decide +kernel), List.mem_of_getElem? (i := 548) (by decide +kernel)⟩
theorem lw_p10 : lw_okq (⟨"PrunedSearch$ClauseReader", "enter", "()Z"⟩, 10) := ⟨⟨by decide +kernel, by decide +kernel⟩, List.mem_of_getElem? (i := 86) (by decide +kernel), List.mem_of_getElem? (i := 551) (by decide +kernel), List.mem_of_getElem? (i := 552) (by decide +kernel)⟩
theorem lw_p11 : lw_okq (⟨"PrunedSearch$ClauseReader", "accept", "(C)Z"⟩, 10) := ⟨⟨by decide +kernel, by decide +kernel⟩, List.mem_of_getElem? (i := 86) (by decide +kernel), List.mem_of_getElem? (i := 555) (by decide +kernel), List.mem_of_getElem? (i := 556) (by decide +kernel)⟩
theorem lw_p12 : lw_okq (⟨"PrunedSearch$ClauseReader", "readList", "()Z"⟩, 10) := ⟨⟨by decide +kernel, by decide +kernel⟩, List.mem_of_getElem? (i := 86) (by decide +kernel), List.mem_of_getElem? (i := 564) (by decide +kernel), List.mem_of_getElem? (i := 565) (by decide +kernel)⟩
theorem lw_p13 : lw_okq (⟨"PrunedSearch$ClauseReader", "readGoals", "()Z"⟩, 10) := ⟨⟨by decide +kernel, by decide +kernel⟩, List.mem_of_getElem? (i := 86) (by decide +kernel), List.mem_of_getElem? (i := 568) (by decide +kernel), List.mem_of_getElem? (i := 569) (by decide +kernel)⟩
theorem lw_p14 : lw_okq (⟨"PrunedSearch$ClauseReader", "endPart", "()Z"⟩, 10) := ⟨⟨by decide +kernel, by decide +kernel⟩, List.mem_of_getElem? (i := 86) (by decide +kernel), List.mem_of_getElem? (i := 572) (by decide +kernel), List.mem_of_getElem? (i := 573) (by decide +kernel)⟩
theorem lw_p15 : lw_okq (⟨"PrunedSearch$Code", "measure", "(I)V"⟩, 5) := ⟨⟨by decide +kernel, by decide +kernel⟩, List.mem_of_getElem? (i := 63) (by decide +kernel), List.mem_of_getElem? (i := 589) (by decide +kernel), List.mem_of_getElem? (i := 590) (by decide +kernel)⟩
def lw_privs_1 : List (MethodName × Nat) := [(⟨"PrunedSearch$ClauseReader", "start", "(LPrunedSearch$Text;)V"⟩, 10), (⟨"PrunedSearch$Tokens", "lengthenWord", "(CI)V"⟩, 4), (⟨"PrunedSearch$Tokens", "put", "(CIJ)V"⟩, 4), (⟨"PrunedSearch$Tokens", "completeNeck", "()V"⟩, 4), (⟨"PrunedSearch$ClauseReader", "startPart", "()V"⟩, 10), (⟨"PrunedSearch$ClauseReader", "isAt", "(C)Z"⟩, 10), (⟨"PrunedSearch$ClauseReader", "readClause", "()Z"⟩, 10), (⟨"PrunedSearch$ClauseReader", "readTerm", "()Z"⟩, 10), (⟨"PrunedSearch$ClauseReader", "variableSymbol", "(J)I"⟩, 10), (⟨"PrunedSearch$ClauseReader", "readArguments", "(I)Z"⟩, 10), (⟨"PrunedSearch$ClauseReader", "enter", "()Z"⟩, 10), (⟨"PrunedSearch$ClauseReader", "accept", "(C)Z"⟩, 10), (⟨"PrunedSearch$ClauseReader", "readList", "()Z"⟩, 10), (⟨"PrunedSearch$ClauseReader", "readGoals", "()Z"⟩, 10), (⟨"PrunedSearch$ClauseReader", "endPart", "()Z"⟩, 10), (⟨"PrunedSearch$Code", "measure", "(I)V"⟩, 5)]
theorem lw_r1 : ∀ q ∈ lw_privs_1, lw_okq q := List.forall_mem_cons.mpr ⟨lw_p0, List.forall_mem_cons.mpr ⟨lw_p1, List.forall_mem_cons.mpr ⟨lw_p2, List.forall_mem_cons.mpr ⟨lw_p3, List.forall_mem_cons.mpr ⟨lw_p4, List.forall_mem_cons.mpr ⟨lw_p5, List.forall_mem_cons.mpr ⟨lw_p6, List.forall_mem_cons.mpr ⟨lw_p7, List.forall_mem_cons.mpr ⟨lw_p8, List.forall_mem_cons.mpr ⟨lw_p9, List.forall_mem_cons.mpr ⟨lw_p10, List.forall_mem_cons.mpr ⟨lw_p11, List.forall_mem_cons.mpr ⟨lw_p12, List.forall_mem_cons.mpr ⟨lw_p13, List.forall_mem_cons.mpr ⟨lw_p14, List.forall_mem_cons.mpr ⟨lw_p15, fun _ h => absurd h List.not_mem_nil⟩⟩⟩⟩⟩⟩⟩⟩⟩⟩⟩⟩⟩⟩⟩⟩
theorem lw_p16 : lw_okq (⟨"PrunedSearch$ClauseReader", "outcome", "(ZI)I"⟩, 10) := ⟨⟨by decide +kernel, by decide +kernel⟩, List.mem_of_getElem? (i := 86) (by decide +kernel), List.mem_of_getElem? (i := 596) (by decide +kernel), List.mem_of_getElem? (i := 597) (by decide +kernel)⟩
theorem lw_p17 : lw_okq (⟨"PrunedSearch$Terms", "sameVariable", "(I)I"⟩, 11) := ⟨⟨by decide +kernel, by decide +kernel⟩, List.mem_of_getElem? (i := 150) (by decide +kernel), List.mem_of_getElem? (i := 665) (by decide +kernel), List.mem_of_getElem? (i := 666) (by decide +kernel)⟩
theorem lw_p18 : lw_okq (⟨"PrunedSearch$Search", "step", "()V"⟩, 14) := ⟨⟨by decide +kernel, by decide +kernel⟩, List.mem_of_getElem? (i := 144) (by decide +kernel), List.mem_of_getElem? (i := 698) (by decide +kernel), List.mem_of_getElem? (i := 699) (by decide +kernel)⟩
theorem lw_p19 : lw_okq (⟨"PrunedSearch$Search", "takeChoice", "()I"⟩, 14) := ⟨⟨by decide +kernel, by decide +kernel⟩, List.mem_of_getElem? (i := 144) (by decide +kernel), List.mem_of_getElem? (i := 702) (by decide +kernel), List.mem_of_getElem? (i := 703) (by decide +kernel)⟩
theorem lw_p20 : lw_okq (⟨"PrunedSearch$Search", "takeGoal", "()I"⟩, 14) := ⟨⟨by decide +kernel, by decide +kernel⟩, List.mem_of_getElem? (i := 144) (by decide +kernel), List.mem_of_getElem? (i := 738) (by decide +kernel), List.mem_of_getElem? (i := 739) (by decide +kernel)⟩
theorem lw_p21 : lw_okq (⟨"PrunedSearch$Search", "candidates", "(I)I"⟩, 14) := ⟨⟨by decide +kernel, by decide +kernel⟩, List.mem_of_getElem? (i := 144) (by decide +kernel), List.mem_of_getElem? (i := 757) (by decide +kernel), List.mem_of_getElem? (i := 758) (by decide +kernel)⟩
theorem lw_p22 : lw_okq (⟨"PrunedSearch$Search", "choose", "(II)I"⟩, 14) := ⟨⟨by decide +kernel, by decide +kernel⟩, List.mem_of_getElem? (i := 144) (by decide +kernel), List.mem_of_getElem? (i := 768) (by decide +kernel), List.mem_of_getElem? (i := 769) (by decide +kernel)⟩
theorem lw_p23 : lw_okq (⟨"PrunedSearch$Search", "resolve", "(I)V"⟩, 14) := ⟨⟨by decide +kernel, by decide +kernel⟩, List.mem_of_getElem? (i := 144) (by decide +kernel), List.mem_of_getElem? (i := 787) (by decide +kernel), List.mem_of_getElem? (i := 788) (by decide +kernel)⟩
theorem lw_p24 : lw_okq (⟨"PrunedSearch$Terms", "push", "(I)V"⟩, 11) := ⟨⟨by decide +kernel, by decide +kernel⟩, List.mem_of_getElem? (i := 150) (by decide +kernel), List.mem_of_getElem? (i := 795) (by decide +kernel), List.mem_of_getElem? (i := 796) (by decide +kernel)⟩
theorem lw_p25 : lw_okq (⟨"PrunedSearch$Terms", "pop", "()I"⟩, 11) := ⟨⟨by decide +kernel, by decide +kernel⟩, List.mem_of_getElem? (i := 150) (by decide +kernel), List.mem_of_getElem? (i := 800) (by decide +kernel), List.mem_of_getElem? (i := 801) (by decide +kernel)⟩
theorem lw_p26 : lw_okq (⟨"PrunedSearch$Terms", "letStand", "(II)V"⟩, 11) := ⟨⟨by decide +kernel, by decide +kernel⟩, List.mem_of_getElem? (i := 150) (by decide +kernel), List.mem_of_getElem? (i := 805) (by decide +kernel), List.mem_of_getElem? (i := 806) (by decide +kernel)⟩
theorem lw_p27 : lw_okq (⟨"PrunedSearch$Terms", "pushPairs", "(II)V"⟩, 11) := ⟨⟨by decide +kernel, by decide +kernel⟩, List.mem_of_getElem? (i := 150) (by decide +kernel), List.mem_of_getElem? (i := 809) (by decide +kernel), List.mem_of_getElem? (i := 810) (by decide +kernel)⟩
theorem lw_p28 : lw_okq (⟨"PrunedSearch$Terms", "pushArguments", "(I)V"⟩, 11) := ⟨⟨by decide +kernel, by decide +kernel⟩, List.mem_of_getElem? (i := 150) (by decide +kernel), List.mem_of_getElem? (i := 818) (by decide +kernel), List.mem_of_getElem? (i := 819) (by decide +kernel)⟩
theorem lw_p29 : lw_okq (⟨"PrunedSearch$Search", "isLarge", "()Z"⟩, 14) := ⟨⟨by decide +kernel, by decide +kernel⟩, List.mem_of_getElem? (i := 144) (by decide +kernel), List.mem_of_getElem? (i := 823) (by decide +kernel), List.mem_of_getElem? (i := 824) (by decide +kernel)⟩
theorem lw_p30 : lw_okq (⟨"PrunedSearch$TermWriter", "write", "(I)V"⟩, 10) := ⟨⟨by decide +kernel, by decide +kernel⟩, List.mem_of_getElem? (i := 240) (by decide +kernel), List.mem_of_getElem? (i := 849) (by decide +kernel), List.mem_of_getElem? (i := 850) (by decide +kernel)⟩
theorem lw_p31 : lw_okq (⟨"PrunedSearch$TermWriter", "push", "(II)V"⟩, 10) := ⟨⟨by decide +kernel, by decide +kernel⟩, List.mem_of_getElem? (i := 240) (by decide +kernel), List.mem_of_getElem? (i := 853) (by decide +kernel), List.mem_of_getElem? (i := 854) (by decide +kernel)⟩
def lw_privs_2 : List (MethodName × Nat) := [(⟨"PrunedSearch$ClauseReader", "outcome", "(ZI)I"⟩, 10), (⟨"PrunedSearch$Terms", "sameVariable", "(I)I"⟩, 11), (⟨"PrunedSearch$Search", "step", "()V"⟩, 14), (⟨"PrunedSearch$Search", "takeChoice", "()I"⟩, 14), (⟨"PrunedSearch$Search", "takeGoal", "()I"⟩, 14), (⟨"PrunedSearch$Search", "candidates", "(I)I"⟩, 14), (⟨"PrunedSearch$Search", "choose", "(II)I"⟩, 14), (⟨"PrunedSearch$Search", "resolve", "(I)V"⟩, 14), (⟨"PrunedSearch$Terms", "push", "(I)V"⟩, 11), (⟨"PrunedSearch$Terms", "pop", "()I"⟩, 11), (⟨"PrunedSearch$Terms", "letStand", "(II)V"⟩, 11), (⟨"PrunedSearch$Terms", "pushPairs", "(II)V"⟩, 11), (⟨"PrunedSearch$Terms", "pushArguments", "(I)V"⟩, 11), (⟨"PrunedSearch$Search", "isLarge", "()Z"⟩, 14), (⟨"PrunedSearch$TermWriter", "write", "(I)V"⟩, 10), (⟨"PrunedSearch$TermWriter", "push", "(II)V"⟩, 10)]
theorem lw_r2 : ∀ q ∈ lw_privs_2, lw_okq q := List.forall_mem_cons.mpr ⟨lw_p16, List.forall_mem_cons.mpr ⟨lw_p17, List.forall_mem_cons.mpr ⟨lw_p18, List.forall_mem_cons.mpr ⟨lw_p19, List.forall_mem_cons.mpr ⟨lw_p20, List.forall_mem_cons.mpr ⟨lw_p21, List.forall_mem_cons.mpr ⟨lw_p22, List.forall_mem_cons.mpr ⟨lw_p23, List.forall_mem_cons.mpr ⟨lw_p24, List.forall_mem_cons.mpr ⟨lw_p25, List.forall_mem_cons.mpr ⟨lw_p26, List.forall_mem_cons.mpr ⟨lw_p27, List.forall_mem_cons.mpr ⟨lw_p28, List.forall_mem_cons.mpr ⟨lw_p29, List.forall_mem_cons.mpr ⟨lw_p30, List.forall_mem_cons.mpr ⟨lw_p31, fun _ h => absurd h List.not_mem_nil⟩⟩⟩⟩⟩⟩⟩⟩⟩⟩⟩⟩⟩⟩⟩⟩
theorem lw_p32 : lw_okq (⟨"PrunedSearch$TermWriter", "put", "(C)V"⟩, 10) := ⟨⟨by decide +kernel, by decide +kernel⟩, List.mem_of_getElem? (i := 240) (by decide +kernel), List.mem_of_getElem? (i := 858) (by decide +kernel), List.mem_of_getElem? (i := 859) (by decide +kernel)⟩
theorem lw_p33 : lw_okq (⟨"PrunedSearch$TermWriter", "writeTerm", "(I)V"⟩, 10) := ⟨⟨by decide +kernel, by decide +kernel⟩, List.mem_of_getElem? (i := 240) (by decide +kernel), List.mem_of_getElem? (i := 863) (by decide +kernel), List.mem_of_getElem? (i := 864) (by decide +kernel)⟩
theorem lw_p34 : lw_okq (⟨"PrunedSearch$TermWriter", "writeVariable", "(I)V"⟩, 10) := ⟨⟨by decide +kernel, by decide +kernel⟩, List.mem_of_getElem? (i := 240) (by decide +kernel), List.mem_of_getElem? (i := 868) (by decide +kernel), List.mem_of_getElem? (i := 869) (by decide +kernel)⟩
theorem lw_p35 : lw_okq (⟨"PrunedSearch$TermWriter", "pushList", "(I)V"⟩, 10) := ⟨⟨by decide +kernel, by decide +kernel⟩, List.mem_of_getElem? (i := 240) (by decide +kernel), List.mem_of_getElem? (i := 872) (by decide +kernel), List.mem_of_getElem? (i := 873) (by decide +kernel)⟩
theorem lw_p36 : lw_okq (⟨"PrunedSearch$TermWriter", "writeWord", "(J)V"⟩, 10) := ⟨⟨by decide +kernel, by decide +kernel⟩, List.mem_of_getElem? (i := 240) (by decide +kernel), List.mem_of_getElem? (i := 881) (by decide +kernel), List.mem_of_getElem? (i := 882) (by decide +kernel)⟩
theorem lw_p37 : lw_okq (⟨"PrunedSearch$TermWriter", "pushArguments", "(II)V"⟩, 10) := ⟨⟨by decide +kernel, by decide +kernel⟩, List.mem_of_getElem? (i := 240) (by decide +kernel), List.mem_of_getElem? (i := 887) (by decide +kernel), List.mem_of_getElem? (i := 888) (by decide +kernel)⟩
theorem lw_p38 : lw_okq (⟨"PrunedSearch$TermWriter", "writeRest", "(I)V"⟩, 10) := ⟨⟨by decide +kernel, by decide +kernel⟩, List.mem_of_getElem? (i := 240) (by decide +kernel), List.mem_of_getElem? (i := 891) (by decide +kernel), List.mem_of_getElem? (i := 892) (by decide +kernel)⟩
theorem lw_p39 : lw_okq (⟨"PrunedSearchModel", "read", "(Z)I"⟩, 55) := ⟨⟨by decide +kernel, by decide +kernel⟩, List.mem_of_getElem? (i := 949) (by decide +kernel), List.mem_of_getElem? (i := 1139) (by decide +kernel), List.mem_of_getElem? (i := 1140) (by decide +kernel)⟩
theorem lw_p40 : lw_okq (⟨"PrunedSearchModel", "beginPiece", "()V"⟩, 55) := ⟨⟨by decide +kernel, by decide +kernel⟩, List.mem_of_getElem? (i := 949) (by decide +kernel), List.mem_of_getElem? (i := 1143) (by decide +kernel), List.mem_of_getElem? (i := 1144) (by decide +kernel)⟩
theorem lw_p41 : lw_okq (⟨"PrunedSearchModel", "take", "()V"⟩, 55) := ⟨⟨by decide +kernel, by decide +kernel⟩, List.mem_of_getElem? (i := 949) (by decide +kernel), List.mem_of_getElem? (i := 1147) (by decide +kernel), List.mem_of_getElem? (i := 1148) (by decide +kernel)⟩
theorem lw_p42 : lw_okq (⟨"PrunedSearchModel", "at", "(I)I"⟩, 55) := ⟨⟨by decide +kernel, by decide +kernel⟩, List.mem_of_getElem? (i := 949) (by decide +kernel), List.mem_of_getElem? (i := 1151) (by decide +kernel), List.mem_of_getElem? (i := 1152) (by decide +kernel)⟩
theorem lw_p43 : lw_okq (⟨"PrunedSearchModel", "push", "(I)Z"⟩, 55) := ⟨⟨by decide +kernel, by decide +kernel⟩, List.mem_of_getElem? (i := 949) (by decide +kernel), List.mem_of_getElem? (i := 1155) (by decide +kernel), List.mem_of_getElem? (i := 1156) (by decide +kernel)⟩
theorem lw_p44 : lw_okq (⟨"PrunedSearchModel", "outside", "(IZ)I"⟩, 55) := ⟨⟨by decide +kernel, by decide +kernel⟩, List.mem_of_getElem? (i := 949) (by decide +kernel), List.mem_of_getElem? (i := 1159) (by decide +kernel), List.mem_of_getElem? (i := 1160) (by decide +kernel)⟩
theorem lw_p45 : lw_okq (⟨"PrunedSearchModel", "beginGoal", "()V"⟩, 55) := ⟨⟨by decide +kernel, by decide +kernel⟩, List.mem_of_getElem? (i := 949) (by decide +kernel), List.mem_of_getElem? (i := 1163) (by decide +kernel), List.mem_of_getElem? (i := 1164) (by decide +kernel)⟩
theorem lw_p46 : lw_okq (⟨"PrunedSearchModel", "emit", "(JI)V"⟩, 55) := ⟨⟨by decide +kernel, by decide +kernel⟩, List.mem_of_getElem? (i := 949) (by decide +kernel), List.mem_of_getElem? (i := 1167) (by decide +kernel), List.mem_of_getElem? (i := 1168) (by decide +kernel)⟩
theorem lw_p47 : lw_okq (⟨"PrunedSearchModel", "endPiece", "()V"⟩, 55) := ⟨⟨by decide +kernel, by decide +kernel⟩, List.mem_of_getElem? (i := 949) (by decide +kernel), List.mem_of_getElem? (i := 1171) (by decide +kernel), List.mem_of_getElem? (i := 1172) (by decide +kernel)⟩
def lw_privs_3 : List (MethodName × Nat) := [(⟨"PrunedSearch$TermWriter", "put", "(C)V"⟩, 10), (⟨"PrunedSearch$TermWriter", "writeTerm", "(I)V"⟩, 10), (⟨"PrunedSearch$TermWriter", "writeVariable", "(I)V"⟩, 10), (⟨"PrunedSearch$TermWriter", "pushList", "(I)V"⟩, 10), (⟨"PrunedSearch$TermWriter", "writeWord", "(J)V"⟩, 10), (⟨"PrunedSearch$TermWriter", "pushArguments", "(II)V"⟩, 10), (⟨"PrunedSearch$TermWriter", "writeRest", "(I)V"⟩, 10), (⟨"PrunedSearchModel", "read", "(Z)I"⟩, 55), (⟨"PrunedSearchModel", "beginPiece", "()V"⟩, 55), (⟨"PrunedSearchModel", "take", "()V"⟩, 55), (⟨"PrunedSearchModel", "at", "(I)I"⟩, 55), (⟨"PrunedSearchModel", "push", "(I)Z"⟩, 55), (⟨"PrunedSearchModel", "outside", "(IZ)I"⟩, 55), (⟨"PrunedSearchModel", "beginGoal", "()V"⟩, 55), (⟨"PrunedSearchModel", "emit", "(JI)V"⟩, 55), (⟨"PrunedSearchModel", "endPiece", "()V"⟩, 55)]
theorem lw_r3 : ∀ q ∈ lw_privs_3, lw_okq q := List.forall_mem_cons.mpr ⟨lw_p32, List.forall_mem_cons.mpr ⟨lw_p33, List.forall_mem_cons.mpr ⟨lw_p34, List.forall_mem_cons.mpr ⟨lw_p35, List.forall_mem_cons.mpr ⟨lw_p36, List.forall_mem_cons.mpr ⟨lw_p37, List.forall_mem_cons.mpr ⟨lw_p38, List.forall_mem_cons.mpr ⟨lw_p39, List.forall_mem_cons.mpr ⟨lw_p40, List.forall_mem_cons.mpr ⟨lw_p41, List.forall_mem_cons.mpr ⟨lw_p42, List.forall_mem_cons.mpr ⟨lw_p43, List.forall_mem_cons.mpr ⟨lw_p44, List.forall_mem_cons.mpr ⟨lw_p45, List.forall_mem_cons.mpr ⟨lw_p46, List.forall_mem_cons.mpr ⟨lw_p47, fun _ h => absurd h List.not_mem_nil⟩⟩⟩⟩⟩⟩⟩⟩⟩⟩⟩⟩⟩⟩⟩⟩
theorem lw_p48 : lw_okq (⟨"PrunedSearchModel", "beginTerm", "()Z"⟩, 55) := ⟨⟨by decide +kernel, by decide +kernel⟩, List.mem_of_getElem? (i := 949) (by decide +kernel), List.mem_of_getElem? (i := 1176) (by decide +kernel), List.mem_of_getElem? (i := 1177) (by decide +kernel)⟩
theorem lw_p49 : lw_okq (⟨"PrunedSearchModel", "emitVariable", "()V"⟩, 55) := ⟨⟨by decide +kernel, by decide +kernel⟩, List.mem_of_getElem? (i := 949) (by decide +kernel), List.mem_of_getElem? (i := 1180) (by decide +kernel), List.mem_of_getElem? (i := 1181) (by decide +kernel)⟩
theorem lw_p50 : lw_okq (⟨"PrunedSearchModel", "goOn", "()Z"⟩, 55) := ⟨⟨by decide +kernel, by decide +kernel⟩, List.mem_of_getElem? (i := 949) (by decide +kernel), List.mem_of_getElem? (i := 1185) (by decide +kernel), List.mem_of_getElem? (i := 1186) (by decide +kernel)⟩
theorem lw_p51 : lw_okq (⟨"PrunedSearchModel", "noSearch", "()V"⟩, 55) := ⟨⟨by decide +kernel, by decide +kernel⟩, List.mem_of_getElem? (i := 949) (by decide +kernel), List.mem_of_getElem? (i := 1189) (by decide +kernel), List.mem_of_getElem? (i := 1190) (by decide +kernel)⟩
theorem lw_p52 : lw_okq (⟨"PrunedSearchModel", "tooMuch", "(I)Z"⟩, 55) := ⟨⟨by decide +kernel, by decide +kernel⟩, List.mem_of_getElem? (i := 949) (by decide +kernel), List.mem_of_getElem? (i := 1193) (by decide +kernel), List.mem_of_getElem? (i := 1194) (by decide +kernel)⟩
theorem lw_p53 : lw_okq (⟨"PrunedSearchModel", "endOf", "(I)I"⟩, 55) := ⟨⟨by decide +kernel, by decide +kernel⟩, List.mem_of_getElem? (i := 949) (by decide +kernel), List.mem_of_getElem? (i := 1197) (by decide +kernel), List.mem_of_getElem? (i := 1198) (by decide +kernel)⟩
theorem lw_p54 : lw_okq (⟨"PrunedSearchModel", "addNames", "()I"⟩, 55) := ⟨⟨by decide +kernel, by decide +kernel⟩, List.mem_of_getElem? (i := 949) (by decide +kernel), List.mem_of_getElem? (i := 1201) (by decide +kernel), List.mem_of_getElem? (i := 1202) (by decide +kernel)⟩
theorem lw_p55 : lw_okq (⟨"PrunedSearchModel", "keep", "(III)V"⟩, 55) := ⟨⟨by decide +kernel, by decide +kernel⟩, List.mem_of_getElem? (i := 949) (by decide +kernel), List.mem_of_getElem? (i := 1205) (by decide +kernel), List.mem_of_getElem? (i := 1206) (by decide +kernel)⟩
theorem lw_p56 : lw_okq (⟨"PrunedSearchModel", "begin", "()V"⟩, 55) := ⟨⟨by decide +kernel, by decide +kernel⟩, List.mem_of_getElem? (i := 949) (by decide +kernel), List.mem_of_getElem? (i := 1213) (by decide +kernel), List.mem_of_getElem? (i := 1214) (by decide +kernel)⟩
theorem lw_p57 : lw_okq (⟨"PrunedSearchModel", "clearFrame", "(I)V"⟩, 55) := ⟨⟨by decide +kernel, by decide +kernel⟩, List.mem_of_getElem? (i := 949) (by decide +kernel), List.mem_of_getElem? (i := 1217) (by decide +kernel), List.mem_of_getElem? (i := 1218) (by decide +kernel)⟩
theorem lw_p58 : lw_okq (⟨"PrunedSearchModel", "prepend", "(III)V"⟩, 55) := ⟨⟨by decide +kernel, by decide +kernel⟩, List.mem_of_getElem? (i := 949) (by decide +kernel), List.mem_of_getElem? (i := 1221) (by decide +kernel), List.mem_of_getElem? (i := 1222) (by decide +kernel)⟩
theorem lw_p59 : lw_okq (⟨"PrunedSearchModel", "end", "(I)V"⟩, 55) := ⟨⟨by decide +kernel, by decide +kernel⟩, List.mem_of_getElem? (i := 949) (by decide +kernel), List.mem_of_getElem? (i := 1229) (by decide +kernel), List.mem_of_getElem? (i := 1230) (by decide +kernel)⟩
theorem lw_p60 : lw_okq (⟨"PrunedSearchModel", "step", "()V"⟩, 55) := ⟨⟨by decide +kernel, by decide +kernel⟩, List.mem_of_getElem? (i := 949) (by decide +kernel), List.mem_of_getElem? (i := 1233) (by decide +kernel), List.mem_of_getElem? (i := 1234) (by decide +kernel)⟩
theorem lw_p61 : lw_okq (⟨"PrunedSearchModel", "forward", "()V"⟩, 55) := ⟨⟨by decide +kernel, by decide +kernel⟩, List.mem_of_getElem? (i := 949) (by decide +kernel), List.mem_of_getElem? (i := 1237) (by decide +kernel), List.mem_of_getElem? (i := 1238) (by decide +kernel)⟩
theorem lw_p62 : lw_okq (⟨"PrunedSearchModel", "isWordAlone", "(IJ)Z"⟩, 55) := ⟨⟨by decide +kernel, by decide +kernel⟩, List.mem_of_getElem? (i := 949) (by decide +kernel), List.mem_of_getElem? (i := 1242) (by decide +kernel), List.mem_of_getElem? (i := 1243) (by decide +kernel)⟩
theorem lw_p63 : lw_okq (⟨"PrunedSearchModel", "candidate", "(III)I"⟩, 55) := ⟨⟨by decide +kernel, by decide +kernel⟩, List.mem_of_getElem? (i := 949) (by decide +kernel), List.mem_of_getElem? (i := 1247) (by decide +kernel), List.mem_of_getElem? (i := 1248) (by decide +kernel)⟩
def lw_privs_4 : List (MethodName × Nat) := [(⟨"PrunedSearchModel", "beginTerm", "()Z"⟩, 55), (⟨"PrunedSearchModel", "emitVariable", "()V"⟩, 55), (⟨"PrunedSearchModel", "goOn", "()Z"⟩, 55), (⟨"PrunedSearchModel", "noSearch", "()V"⟩, 55), (⟨"PrunedSearchModel", "tooMuch", "(I)Z"⟩, 55), (⟨"PrunedSearchModel", "endOf", "(I)I"⟩, 55), (⟨"PrunedSearchModel", "addNames", "()I"⟩, 55), (⟨"PrunedSearchModel", "keep", "(III)V"⟩, 55), (⟨"PrunedSearchModel", "begin", "()V"⟩, 55), (⟨"PrunedSearchModel", "clearFrame", "(I)V"⟩, 55), (⟨"PrunedSearchModel", "prepend", "(III)V"⟩, 55), (⟨"PrunedSearchModel", "end", "(I)V"⟩, 55), (⟨"PrunedSearchModel", "step", "()V"⟩, 55), (⟨"PrunedSearchModel", "forward", "()V"⟩, 55), (⟨"PrunedSearchModel", "isWordAlone", "(IJ)Z"⟩, 55), (⟨"PrunedSearchModel", "candidate", "(III)I"⟩, 55)]
theorem lw_r4 : ∀ q ∈ lw_privs_4, lw_okq q := List.forall_mem_cons.mpr ⟨lw_p48, List.forall_mem_cons.mpr ⟨lw_p49, List.forall_mem_cons.mpr ⟨lw_p50, List.forall_mem_cons.mpr ⟨lw_p51, List.forall_mem_cons.mpr ⟨lw_p52, List.forall_mem_cons.mpr ⟨lw_p53, List.forall_mem_cons.mpr ⟨lw_p54, List.forall_mem_cons.mpr ⟨lw_p55, List.forall_mem_cons.mpr ⟨lw_p56, List.forall_mem_cons.mpr ⟨lw_p57, List.forall_mem_cons.mpr ⟨lw_p58, List.forall_mem_cons.mpr ⟨lw_p59, List.forall_mem_cons.mpr ⟨lw_p60, List.forall_mem_cons.mpr ⟨lw_p61, List.forall_mem_cons.mpr ⟨lw_p62, List.forall_mem_cons.mpr ⟨lw_p63, fun _ h => absurd h List.not_mem_nil⟩⟩⟩⟩⟩⟩⟩⟩⟩⟩⟩⟩⟩⟩⟩⟩
theorem lw_p64 : lw_okq (⟨"PrunedSearchModel", "follow", "(II)V"⟩, 55) := ⟨⟨by decide +kernel, by decide +kernel⟩, List.mem_of_getElem? (i := 949) (by decide +kernel), List.mem_of_getElem? (i := 1251) (by decide +kernel), List.mem_of_getElem? (i := 1252) (by decide +kernel)⟩
theorem lw_p65 : lw_okq (⟨"PrunedSearchModel", "resolve", "(II)V"⟩, 55) := ⟨⟨by decide +kernel, by decide +kernel⟩, List.mem_of_getElem? (i := 949) (by decide +kernel), List.mem_of_getElem? (i := 1255) (by decide +kernel), List.mem_of_getElem? (i := 1256) (by decide +kernel)⟩
theorem lw_p66 : lw_okq (⟨"PrunedSearchModel", "equalize", "(IIII)Z"⟩, 55) := ⟨⟨by decide +kernel, by decide +kernel⟩, List.mem_of_getElem? (i := 949) (by decide +kernel), List.mem_of_getElem? (i := 1259) (by decide +kernel), List.mem_of_getElem? (i := 1260) (by decide +kernel)⟩
theorem lw_p67 : lw_okq (⟨"PrunedSearchModel", "bind", "(IIII)Z"⟩, 55) := ⟨⟨by decide +kernel, by decide +kernel⟩, List.mem_of_getElem? (i := 949) (by decide +kernel), List.mem_of_getElem? (i := 1263) (by decide +kernel), List.mem_of_getElem? (i := 1264) (by decide +kernel)⟩
theorem lw_p68 : lw_okq (⟨"PrunedSearchModel", "stands", "(IIII)Z"⟩, 55) := ⟨⟨by decide +kernel, by decide +kernel⟩, List.mem_of_getElem? (i := 949) (by decide +kernel), List.mem_of_getElem? (i := 1267) (by decide +kernel), List.mem_of_getElem? (i := 1268) (by decide +kernel)⟩
theorem lw_p69 : lw_okq (⟨"PrunedSearchModel", "pushAll", "(III)I"⟩, 55) := ⟨⟨by decide +kernel, by decide +kernel⟩, List.mem_of_getElem? (i := 949) (by decide +kernel), List.mem_of_getElem? (i := 1271) (by decide +kernel), List.mem_of_getElem? (i := 1272) (by decide +kernel)⟩
theorem lw_p70 : lw_okq (⟨"PrunedSearchModel", "behind", "(I)I"⟩, 55) := ⟨⟨by decide +kernel, by decide +kernel⟩, List.mem_of_getElem? (i := 949) (by decide +kernel), List.mem_of_getElem? (i := 1275) (by decide +kernel), List.mem_of_getElem? (i := 1276) (by decide +kernel)⟩
theorem lw_p71 : lw_okq (⟨"PrunedSearchModel", "large", "()Z"⟩, 55) := ⟨⟨by decide +kernel, by decide +kernel⟩, List.mem_of_getElem? (i := 949) (by decide +kernel), List.mem_of_getElem? (i := 1279) (by decide +kernel), List.mem_of_getElem? (i := 1280) (by decide +kernel)⟩
theorem lw_p72 : lw_okq (⟨"PrunedSearchModel", "symbolsOf", "(II)I"⟩, 55) := ⟨⟨by decide +kernel, by decide +kernel⟩, List.mem_of_getElem? (i := 949) (by decide +kernel), List.mem_of_getElem? (i := 1283) (by decide +kernel), List.mem_of_getElem? (i := 1284) (by decide +kernel)⟩
theorem lw_p73 : lw_okq (⟨"PrunedSearchModel", "back", "()V"⟩, 55) := ⟨⟨by decide +kernel, by decide +kernel⟩, List.mem_of_getElem? (i := 949) (by decide +kernel), List.mem_of_getElem? (i := 1287) (by decide +kernel), List.mem_of_getElem? (i := 1288) (by decide +kernel)⟩
theorem lw_p74 : lw_okq (⟨"PrunedSearchModel", "again", "(I)V"⟩, 55) := ⟨⟨by decide +kernel, by decide +kernel⟩, List.mem_of_getElem? (i := 949) (by decide +kernel), List.mem_of_getElem? (i := 1291) (by decide +kernel), List.mem_of_getElem? (i := 1292) (by decide +kernel)⟩
theorem lw_p75 : lw_okq (⟨"PrunedSearchModel", "strip", "()V"⟩, 55) := ⟨⟨by decide +kernel, by decide +kernel⟩, List.mem_of_getElem? (i := 949) (by decide +kernel), List.mem_of_getElem? (i := 1295) (by decide +kernel), List.mem_of_getElem? (i := 1296) (by decide +kernel)⟩
theorem lw_p76 : lw_okq (⟨"PrunedSearchModel", "write", "(I)V"⟩, 55) := ⟨⟨by decide +kernel, by decide +kernel⟩, List.mem_of_getElem? (i := 949) (by decide +kernel), List.mem_of_getElem? (i := 1303) (by decide +kernel), List.mem_of_getElem? (i := 1304) (by decide +kernel)⟩
theorem lw_p77 : lw_okq (⟨"PrunedSearchModel", "later", "(IIII)I"⟩, 55) := ⟨⟨by decide +kernel, by decide +kernel⟩, List.mem_of_getElem? (i := 949) (by decide +kernel), List.mem_of_getElem? (i := 1307) (by decide +kernel), List.mem_of_getElem? (i := 1308) (by decide +kernel)⟩
theorem lw_p78 : lw_okq (⟨"PrunedSearchModel", "put", "(I)V"⟩, 55) := ⟨⟨by decide +kernel, by decide +kernel⟩, List.mem_of_getElem? (i := 949) (by decide +kernel), List.mem_of_getElem? (i := 1311) (by decide +kernel), List.mem_of_getElem? (i := 1312) (by decide +kernel)⟩
theorem lw_p79 : lw_okq (⟨"PrunedSearchModel", "writeTerm", "(III)I"⟩, 55) := ⟨⟨by decide +kernel, by decide +kernel⟩, List.mem_of_getElem? (i := 949) (by decide +kernel), List.mem_of_getElem? (i := 1315) (by decide +kernel), List.mem_of_getElem? (i := 1316) (by decide +kernel)⟩
def lw_privs_5 : List (MethodName × Nat) := [(⟨"PrunedSearchModel", "follow", "(II)V"⟩, 55), (⟨"PrunedSearchModel", "resolve", "(II)V"⟩, 55), (⟨"PrunedSearchModel", "equalize", "(IIII)Z"⟩, 55), (⟨"PrunedSearchModel", "bind", "(IIII)Z"⟩, 55), (⟨"PrunedSearchModel", "stands", "(IIII)Z"⟩, 55), (⟨"PrunedSearchModel", "pushAll", "(III)I"⟩, 55), (⟨"PrunedSearchModel", "behind", "(I)I"⟩, 55), (⟨"PrunedSearchModel", "large", "()Z"⟩, 55), (⟨"PrunedSearchModel", "symbolsOf", "(II)I"⟩, 55), (⟨"PrunedSearchModel", "back", "()V"⟩, 55), (⟨"PrunedSearchModel", "again", "(I)V"⟩, 55), (⟨"PrunedSearchModel", "strip", "()V"⟩, 55), (⟨"PrunedSearchModel", "write", "(I)V"⟩, 55), (⟨"PrunedSearchModel", "later", "(IIII)I"⟩, 55), (⟨"PrunedSearchModel", "put", "(I)V"⟩, 55), (⟨"PrunedSearchModel", "writeTerm", "(III)I"⟩, 55)]
theorem lw_r5 : ∀ q ∈ lw_privs_5, lw_okq q := List.forall_mem_cons.mpr ⟨lw_p64, List.forall_mem_cons.mpr ⟨lw_p65, List.forall_mem_cons.mpr ⟨lw_p66, List.forall_mem_cons.mpr ⟨lw_p67, List.forall_mem_cons.mpr ⟨lw_p68, List.forall_mem_cons.mpr ⟨lw_p69, List.forall_mem_cons.mpr ⟨lw_p70, List.forall_mem_cons.mpr ⟨lw_p71, List.forall_mem_cons.mpr ⟨lw_p72, List.forall_mem_cons.mpr ⟨lw_p73, List.forall_mem_cons.mpr ⟨lw_p74, List.forall_mem_cons.mpr ⟨lw_p75, List.forall_mem_cons.mpr ⟨lw_p76, List.forall_mem_cons.mpr ⟨lw_p77, List.forall_mem_cons.mpr ⟨lw_p78, List.forall_mem_cons.mpr ⟨lw_p79, fun _ h => absurd h List.not_mem_nil⟩⟩⟩⟩⟩⟩⟩⟩⟩⟩⟩⟩⟩⟩⟩⟩
theorem lw_p80 : lw_okq (⟨"PrunedSearchModel", "putVariable", "(I)V"⟩, 55) := ⟨⟨by decide +kernel, by decide +kernel⟩, List.mem_of_getElem? (i := 949) (by decide +kernel), List.mem_of_getElem? (i := 1319) (by decide +kernel), List.mem_of_getElem? (i := 1320) (by decide +kernel)⟩
theorem lw_p81 : lw_okq (⟨"PrunedSearchModel", "putWord", "(J)V"⟩, 55) := ⟨⟨by decide +kernel, by decide +kernel⟩, List.mem_of_getElem? (i := 949) (by decide +kernel), List.mem_of_getElem? (i := 1323) (by decide +kernel), List.mem_of_getElem? (i := 1324) (by decide +kernel)⟩
theorem lw_p82 : lw_okq (⟨"PrunedSearchModel", "writeRest", "(III)I"⟩, 55) := ⟨⟨by decide +kernel, by decide +kernel⟩, List.mem_of_getElem? (i := 949) (by decide +kernel), List.mem_of_getElem? (i := 1327) (by decide +kernel), List.mem_of_getElem? (i := 1328) (by decide +kernel)⟩
def lw_privs_6 : List (MethodName × Nat) := [(⟨"PrunedSearchModel", "putVariable", "(I)V"⟩, 55), (⟨"PrunedSearchModel", "putWord", "(J)V"⟩, 55), (⟨"PrunedSearchModel", "writeRest", "(III)I"⟩, 55)]
theorem lw_r6 : ∀ q ∈ lw_privs_6, lw_okq q := List.forall_mem_cons.mpr ⟨lw_p80, List.forall_mem_cons.mpr ⟨lw_p81, List.forall_mem_cons.mpr ⟨lw_p82, fun _ h => absurd h List.not_mem_nil⟩⟩⟩
def lw_privs : List (MethodName × Nat) := lw_privs_1 ++ (lw_privs_2 ++ (lw_privs_3 ++ (lw_privs_4 ++ (lw_privs_5 ++ (lw_privs_6)))))
def lw_tbl : List Cond := k2_sels lw_privs ++ tables_1
theorem lw_privs_ok : ∀ q ∈ lw_privs, lw_okq q := by
  show ∀ q ∈ lw_privs_1 ++ (lw_privs_2 ++ (lw_privs_3 ++ (lw_privs_4 ++ (lw_privs_5 ++ (lw_privs_6))))), lw_okq q
  exact List.forall_mem_append.mpr ⟨lw_r1, List.forall_mem_append.mpr ⟨lw_r2, List.forall_mem_append.mpr ⟨lw_r3, List.forall_mem_append.mpr ⟨lw_r4, List.forall_mem_append.mpr ⟨lw_r5, lw_r6⟩⟩⟩⟩⟩
end
section
/-! classes, their fields, the words of the tables by their places (printed by wip/gen/names.py) -/
def nC0 : String := "PrunedSearch"
def fT0 : u_T := fun k => match k with
  | 0 => ("PrunedSearch", "text", "LPrunedSearch$Text;", true)
  | 1 => ("PrunedSearch", "names", "LPrunedSearch$Names;", true)
  | 2 => ("PrunedSearch", "program", "LPrunedSearch$Code;", true)
  | 3 => ("PrunedSearch", "reader", "LPrunedSearch$ClauseReader;", true)
  | _ => ("PrunedSearch", "search", "LPrunedSearch$Search;", true)
def fY0 : Nat → FieldType := fun k => match k with
  | 0 => .object "PrunedSearch$Text"
  | 1 => .object "PrunedSearch$Names"
  | 2 => .object "PrunedSearch$Code"
  | 3 => .object "PrunedSearch$ClauseReader"
  | _ => .object "PrunedSearch$Search"
theorem fN0 : ∀ a, a < 5 → ∀ b, b < 5 → a ≠ b → (fT0 a).2.1 ≠ (fT0 b).2.1 := by decide +kernel
theorem fO0 : ∀ k, k < 5 → parseFieldDescriptor (fT0 k).2.2.1 = some (fY0 k) := by decide +kernel
def nC1 : String := "PrunedSearch$Text"
def fT1 : u_T := fun k => match k with
  | 0 => ("PrunedSearch$Text", "row", "[C", true)
  | _ => ("PrunedSearch$Text", "size", "I", false)
def fY1 : Nat → FieldType := fun k => match k with
  | 0 => .array .char
  | _ => .int
theorem fN1 : ∀ a, a < 2 → ∀ b, b < 2 → a ≠ b → (fT1 a).2.1 ≠ (fT1 b).2.1 := by decide +kernel
theorem fO1 : ∀ k, k < 2 → parseFieldDescriptor (fT1 k).2.2.1 = some (fY1 k) := by decide +kernel
def nC2 : String := "PrunedSearch$Tokens"
def fT2 : u_T := fun k => match k with
  | 0 => ("PrunedSearch$Tokens", "kinds", "[C", true)
  | 1 => ("PrunedSearch$Tokens", "places", "[I", true)
  | 2 => ("PrunedSearch$Tokens", "words", "[J", true)
  | _ => ("PrunedSearch$Tokens", "count", "I", false)
def fY2 : Nat → FieldType := fun k => match k with
  | 0 => .array .char
  | 1 => .array .int
  | 2 => .array .long
  | _ => .int
theorem fN2 : ∀ a, a < 4 → ∀ b, b < 4 → a ≠ b → (fT2 a).2.1 ≠ (fT2 b).2.1 := by decide +kernel
theorem fO2 : ∀ k, k < 4 → parseFieldDescriptor (fT2 k).2.2.1 = some (fY2 k) := by decide +kernel
def nC3 : String := "PrunedSearch$Names"
def fT3 : u_T := fun k => match k with
  | 0 => ("PrunedSearch$Names", "words", "[J", true)
  | 1 => ("PrunedSearch$Names", "kept", "I", false)
  | 2 => ("PrunedSearch$Names", "count", "I", false)
  | _ => ("PrunedSearch$Names", "tooMany", "Z", false)
def fY3 : Nat → FieldType := fun k => match k with
  | 0 => .array .long
  | 1 => .int
  | 2 => .int
  | _ => .boolean
theorem fN3 : ∀ a, a < 4 → ∀ b, b < 4 → a ≠ b → (fT3 a).2.1 ≠ (fT3 b).2.1 := by decide +kernel
theorem fO3 : ∀ k, k < 4 → parseFieldDescriptor (fT3 k).2.2.1 = some (fY3 k) := by decide +kernel
def nC4 : String := "PrunedSearch$Code"
def fT4 : u_T := fun k => match k with
  | 0 => ("PrunedSearch$Code", "symbols", "[I", true)
  | 1 => ("PrunedSearch$Code", "sizes", "[I", true)
  | 2 => ("PrunedSearch$Code", "ends", "[I", true)
  | 3 => ("PrunedSearch$Code", "used", "I", false)
  | _ => ("PrunedSearch$Code", "parts", "I", false)
def fY4 : Nat → FieldType := fun k => match k with
  | 0 => .array .int
  | 1 => .array .int
  | 2 => .array .int
  | 3 => .int
  | _ => .int
theorem fN4 : ∀ a, a < 5 → ∀ b, b < 5 → a ≠ b → (fT4 a).2.1 ≠ (fT4 b).2.1 := by decide +kernel
theorem fO4 : ∀ k, k < 5 → parseFieldDescriptor (fT4 k).2.2.1 = some (fY4 k) := by decide +kernel
def nC5 : String := "PrunedSearch$ClauseReader"
def fT5 : u_T := fun k => match k with
  | 0 => ("PrunedSearch$ClauseReader", "names", "LPrunedSearch$Names;", true)
  | 1 => ("PrunedSearch$ClauseReader", "tokens", "LPrunedSearch$Tokens;", true)
  | 2 => ("PrunedSearch$ClauseReader", "code", "LPrunedSearch$Code;", true)
  | 3 => ("PrunedSearch$ClauseReader", "variables", "[J", true)
  | 4 => ("PrunedSearch$ClauseReader", "variableCount", "I", false)
  | 5 => ("PrunedSearch$ClauseReader", "loneCount", "I", false)
  | 6 => ("PrunedSearch$ClauseReader", "goalsRead", "I", false)
  | 7 => ("PrunedSearch$ClauseReader", "open", "I", false)
  | 8 => ("PrunedSearch$ClauseReader", "next", "I", false)
  | _ => ("PrunedSearch$ClauseReader", "much", "Z", false)
def fY5 : Nat → FieldType := fun k => match k with
  | 0 => .object "PrunedSearch$Names"
  | 1 => .object "PrunedSearch$Tokens"
  | 2 => .object "PrunedSearch$Code"
  | 3 => .array .long
  | 4 => .int
  | 5 => .int
  | 6 => .int
  | 7 => .int
  | 8 => .int
  | _ => .boolean
theorem fN5 : ∀ a, a < 10 → ∀ b, b < 10 → a ≠ b → (fT5 a).2.1 ≠ (fT5 b).2.1 := by decide +kernel
theorem fO5 : ∀ k, k < 10 → parseFieldDescriptor (fT5 k).2.2.1 = some (fY5 k) := by decide +kernel
def nC6 : String := "PrunedSearch$Terms"
def fT6 : u_T := fun k => match k with
  | 0 => ("PrunedSearch$Terms", "symbols", "[I", true)
  | 1 => ("PrunedSearch$Terms", "sizes", "[I", true)
  | 2 => ("PrunedSearch$Terms", "stands", "[I", true)
  | 3 => ("PrunedSearch$Terms", "marks", "[I", true)
  | 4 => ("PrunedSearch$Terms", "changed", "[I", true)
  | 5 => ("PrunedSearch$Terms", "waiting", "[I", true)
  | 6 => ("PrunedSearch$Terms", "variableCells", "[I", true)
  | 7 => ("PrunedSearch$Terms", "used", "I", false)
  | 8 => ("PrunedSearch$Terms", "changes", "I", false)
  | 9 => ("PrunedSearch$Terms", "waitingCount", "I", false)
  | _ => ("PrunedSearch$Terms", "lastMark", "I", false)
def fY6 : Nat → FieldType := fun k => match k with
  | 0 => .array .int
  | 1 => .array .int
  | 2 => .array .int
  | 3 => .array .int
  | 4 => .array .int
  | 5 => .array .int
  | 6 => .array .int
  | 7 => .int
  | 8 => .int
  | 9 => .int
  | _ => .int
theorem fN6 : ∀ a, a < 11 → ∀ b, b < 11 → a ≠ b → (fT6 a).2.1 ≠ (fT6 b).2.1 := by decide +kernel
theorem fO6 : ∀ k, k < 11 → parseFieldDescriptor (fT6 k).2.2.1 = some (fY6 k) := by decide +kernel
def nC7 : String := "PrunedSearch$Goals"
def fT7 : u_T := fun k => match k with
  | 0 => ("PrunedSearch$Goals", "terms", "[I", true)
  | 1 => ("PrunedSearch$Goals", "cuts", "[I", true)
  | 2 => ("PrunedSearch$Goals", "behind", "[I", true)
  | 3 => ("PrunedSearch$Goals", "used", "I", false)
  | _ => ("PrunedSearch$Goals", "first", "I", false)
def fY7 : Nat → FieldType := fun k => match k with
  | 0 => .array .int
  | 1 => .array .int
  | 2 => .array .int
  | 3 => .int
  | _ => .int
theorem fN7 : ∀ a, a < 5 → ∀ b, b < 5 → a ≠ b → (fT7 a).2.1 ≠ (fT7 b).2.1 := by decide +kernel
theorem fO7 : ∀ k, k < 5 → parseFieldDescriptor (fT7 k).2.2.1 = some (fY7 k) := by decide +kernel
def nC8 : String := "PrunedSearch$Choices"
def fT8 : u_T := fun k => match k with
  | 0 => ("PrunedSearch$Choices", "firstGoals", "[I", true)
  | 1 => ("PrunedSearch$Choices", "heldGoals", "[I", true)
  | 2 => ("PrunedSearch$Choices", "cells", "[I", true)
  | 3 => ("PrunedSearch$Choices", "changes", "[I", true)
  | 4 => ("PrunedSearch$Choices", "lengths", "[I", true)
  | 5 => ("PrunedSearch$Choices", "candidates", "[I", true)
  | _ => ("PrunedSearch$Choices", "count", "I", false)
def fY8 : Nat → FieldType := fun k => match k with
  | 0 => .array .int
  | 1 => .array .int
  | 2 => .array .int
  | 3 => .array .int
  | 4 => .array .int
  | 5 => .array .int
  | _ => .int
theorem fN8 : ∀ a, a < 7 → ∀ b, b < 7 → a ≠ b → (fT8 a).2.1 ≠ (fT8 b).2.1 := by decide +kernel
theorem fO8 : ∀ k, k < 7 → parseFieldDescriptor (fT8 k).2.2.1 = some (fY8 k) := by decide +kernel
def nC9 : String := "PrunedSearch$Search"
def fT9 : u_T := fun k => match k with
  | 0 => ("PrunedSearch$Search", "program", "LPrunedSearch$Code;", true)
  | 1 => ("PrunedSearch$Search", "names", "LPrunedSearch$Names;", true)
  | 2 => ("PrunedSearch$Search", "terms", "LPrunedSearch$Terms;", true)
  | 3 => ("PrunedSearch$Search", "branch", "LPrunedSearch$Goals;", true)
  | 4 => ("PrunedSearch$Search", "open", "LPrunedSearch$Choices;", true)
  | 5 => ("PrunedSearch$Search", "writer", "LPrunedSearch$TermWriter;", true)
  | 6 => ("PrunedSearch$Search", "asked", "[I", true)
  | 7 => ("PrunedSearch$Search", "askedCount", "I", false)
  | 8 => ("PrunedSearch$Search", "state", "I", false)
  | 9 => ("PrunedSearch$Search", "failed", "Z", false)
  | 10 => ("PrunedSearch$Search", "depth", "I", false)
  | 11 => ("PrunedSearch$Search", "tried", "I", false)
  | 12 => ("PrunedSearch$Search", "taken", "I", false)
  | _ => ("PrunedSearch$Search", "takenCut", "I", false)
def fY9 : Nat → FieldType := fun k => match k with
  | 0 => .object "PrunedSearch$Code"
  | 1 => .object "PrunedSearch$Names"
  | 2 => .object "PrunedSearch$Terms"
  | 3 => .object "PrunedSearch$Goals"
  | 4 => .object "PrunedSearch$Choices"
  | 5 => .object "PrunedSearch$TermWriter"
  | 6 => .array .int
  | 7 => .int
  | 8 => .int
  | 9 => .boolean
  | 10 => .int
  | 11 => .int
  | 12 => .int
  | _ => .int
theorem fN9 : ∀ a, a < 14 → ∀ b, b < 14 → a ≠ b → (fT9 a).2.1 ≠ (fT9 b).2.1 := by decide +kernel
theorem fO9 : ∀ k, k < 14 → parseFieldDescriptor (fT9 k).2.2.1 = some (fY9 k) := by decide +kernel
def nC10 : String := "PrunedSearch$TermWriter"
def fT10 : u_T := fun k => match k with
  | 0 => ("PrunedSearch$TermWriter", "terms", "LPrunedSearch$Terms;", true)
  | 1 => ("PrunedSearch$TermWriter", "names", "LPrunedSearch$Names;", true)
  | 2 => ("PrunedSearch$TermWriter", "written", "[C", true)
  | 3 => ("PrunedSearch$TermWriter", "ends", "[I", true)
  | 4 => ("PrunedSearch$TermWriter", "free", "[I", true)
  | 5 => ("PrunedSearch$TermWriter", "waiting", "[I", true)
  | 6 => ("PrunedSearch$TermWriter", "size", "I", false)
  | 7 => ("PrunedSearch$TermWriter", "freeCount", "I", false)
  | 8 => ("PrunedSearch$TermWriter", "waitingCount", "I", false)
  | _ => ("PrunedSearch$TermWriter", "done", "Z", false)
def fY10 : Nat → FieldType := fun k => match k with
  | 0 => .object "PrunedSearch$Terms"
  | 1 => .object "PrunedSearch$Names"
  | 2 => .array .char
  | 3 => .array .int
  | 4 => .array .int
  | 5 => .array .int
  | 6 => .int
  | 7 => .int
  | 8 => .int
  | _ => .boolean
theorem fN10 : ∀ a, a < 10 → ∀ b, b < 10 → a ≠ b → (fT10 a).2.1 ≠ (fT10 b).2.1 := by decide +kernel
theorem fO10 : ∀ k, k < 10 → parseFieldDescriptor (fT10 k).2.2.1 = some (fY10 k) := by decide +kernel
def nC11 : String := "PrunedSearchModel"
def fT11 : u_T := fun k => match k with
  | 0 => ("PrunedSearchModel", "text", "[I", true)
  | 1 => ("PrunedSearchModel", "typed", "I", false)
  | 2 => ("PrunedSearchModel", "token", "I", false)
  | 3 => ("PrunedSearchModel", "place", "I", false)
  | 4 => ("PrunedSearchModel", "after", "I", false)
  | 5 => ("PrunedSearchModel", "word", "J", false)
  | 6 => ("PrunedSearchModel", "readCode", "[J", true)
  | 7 => ("PrunedSearchModel", "readArity", "[I", true)
  | 8 => ("PrunedSearchModel", "symbols", "I", false)
  | 9 => ("PrunedSearchModel", "pieces", "I", false)
  | 10 => ("PrunedSearchModel", "pieceAt", "[I", true)
  | 11 => ("PrunedSearchModel", "pieceGoals", "[I", true)
  | 12 => ("PrunedSearchModel", "pieceVars", "[I", true)
  | 13 => ("PrunedSearchModel", "goalsRead", "I", false)
  | 14 => ("PrunedSearchModel", "readGoal", "[I", true)
  | 15 => ("PrunedSearchModel", "varWord", "[J", true)
  | 16 => ("PrunedSearchModel", "varAt", "[I", true)
  | 17 => ("PrunedSearchModel", "vars", "I", false)
  | 18 => ("PrunedSearchModel", "open", "I", false)
  | 19 => ("PrunedSearchModel", "kind", "[I", true)
  | 20 => ("PrunedSearchModel", "owner", "[I", true)
  | 21 => ("PrunedSearchModel", "count", "[I", true)
  | 22 => ("PrunedSearchModel", "fresh", "Z", false)
  | 23 => ("PrunedSearchModel", "code", "[J", true)
  | 24 => ("PrunedSearchModel", "arity", "[I", true)
  | 25 => ("PrunedSearchModel", "known", "I", false)
  | 26 => ("PrunedSearchModel", "size", "[I", true)
  | 27 => ("PrunedSearchModel", "goalCount", "[I", true)
  | 28 => ("PrunedSearchModel", "goalAt", "[I", true)
  | 29 => ("PrunedSearchModel", "names", "I", false)
  | 30 => ("PrunedSearchModel", "nameOf", "[J", true)
  | 31 => ("PrunedSearchModel", "asked", "I", false)
  | 32 => ("PrunedSearchModel", "askedAt", "[I", true)
  | 33 => ("PrunedSearchModel", "status", "I", false)
  | 34 => ("PrunedSearchModel", "ending", "I", false)
  | 35 => ("PrunedSearchModel", "tried", "I", false)
  | 36 => ("PrunedSearchModel", "depth", "I", false)
  | 37 => ("PrunedSearchModel", "pathClause", "[I", true)
  | 38 => ("PrunedSearchModel", "pathCut", "[I", true)
  | 39 => ("PrunedSearchModel", "picks", "I", false)
  | 40 => ("PrunedSearchModel", "choiceDepth", "[I", true)
  | 41 => ("PrunedSearchModel", "choiceLast", "[I", true)
  | 42 => ("PrunedSearchModel", "left", "I", false)
  | 43 => ("PrunedSearchModel", "goal", "[I", true)
  | 44 => ("PrunedSearchModel", "goalFrame", "[I", true)
  | 45 => ("PrunedSearchModel", "goalCut", "[I", true)
  | 46 => ("PrunedSearchModel", "standsAt", "[I", true)
  | 47 => ("PrunedSearchModel", "standsIn", "[I", true)
  | 48 => ("PrunedSearchModel", "seenAt", "I", false)
  | 49 => ("PrunedSearchModel", "seenIn", "I", false)
  | 50 => ("PrunedSearchModel", "stack", "[I", true)
  | 51 => ("PrunedSearchModel", "out", "[I", true)
  | 52 => ("PrunedSearchModel", "written", "I", false)
  | 53 => ("PrunedSearchModel", "shown", "[I", true)
  | _ => ("PrunedSearchModel", "numbered", "I", false)
def fY11 : Nat → FieldType := fun k => match k with
  | 0 => .array .int
  | 1 => .int
  | 2 => .int
  | 3 => .int
  | 4 => .int
  | 5 => .long
  | 6 => .array .long
  | 7 => .array .int
  | 8 => .int
  | 9 => .int
  | 10 => .array .int
  | 11 => .array .int
  | 12 => .array .int
  | 13 => .int
  | 14 => .array .int
  | 15 => .array .long
  | 16 => .array .int
  | 17 => .int
  | 18 => .int
  | 19 => .array .int
  | 20 => .array .int
  | 21 => .array .int
  | 22 => .boolean
  | 23 => .array .long
  | 24 => .array .int
  | 25 => .int
  | 26 => .array .int
  | 27 => .array .int
  | 28 => .array .int
  | 29 => .int
  | 30 => .array .long
  | 31 => .int
  | 32 => .array .int
  | 33 => .int
  | 34 => .int
  | 35 => .int
  | 36 => .int
  | 37 => .array .int
  | 38 => .array .int
  | 39 => .int
  | 40 => .array .int
  | 41 => .array .int
  | 42 => .int
  | 43 => .array .int
  | 44 => .array .int
  | 45 => .array .int
  | 46 => .array .int
  | 47 => .array .int
  | 48 => .int
  | 49 => .int
  | 50 => .array .int
  | 51 => .array .int
  | 52 => .int
  | 53 => .array .int
  | _ => .int
theorem fN11 : ∀ a, a < 55 → ∀ b, b < 55 → a ≠ b → (fT11 a).2.1 ≠ (fT11 b).2.1 := by decide +kernel
theorem fO11 : ∀ k, k < 55 → parseFieldDescriptor (fT11 k).2.2.1 = some (fY11 k) := by decide +kernel
/-- the tables' words that stay good -/
def Wt : List Cond := lw_tbl.filter goodWord
abbrev classes : List vw_C := [(nC0, fT0, 5), (nC1, fT1, 2), (nC2, fT2, 4), (nC3, fT3, 4), (nC4, fT4, 5), (nC5, fT5, 10), (nC6, fT6, 11), (nC7, fT7, 5), (nC8, fT8, 7), (nC9, fT9, 14), (nC10, fT10, 10), (nC11, fT11, 55)]
theorem fI0 : ∀ w ∈ u_ws nC0 fT0 5, w ∈ Wt := by decide +kernel
theorem fI1 : ∀ w ∈ u_ws nC1 fT1 2, w ∈ Wt := by decide +kernel
theorem fI2 : ∀ w ∈ u_ws nC2 fT2 4, w ∈ Wt := by decide +kernel
theorem fI3 : ∀ w ∈ u_ws nC3 fT3 4, w ∈ Wt := by decide +kernel
theorem fI4 : ∀ w ∈ u_ws nC4 fT4 5, w ∈ Wt := by decide +kernel
theorem fI5 : ∀ w ∈ u_ws nC5 fT5 10, w ∈ Wt := by decide +kernel
theorem fI6 : ∀ w ∈ u_ws nC6 fT6 11, w ∈ Wt := by decide +kernel
theorem fI7 : ∀ w ∈ u_ws nC7 fT7 5, w ∈ Wt := by decide +kernel
theorem fI8 : ∀ w ∈ u_ws nC8 fT8 7, w ∈ Wt := by decide +kernel
theorem fI9 : ∀ w ∈ u_ws nC9 fT9 14, w ∈ Wt := by decide +kernel
theorem fI10 : ∀ w ∈ u_ws nC10 fT10 10, w ∈ Wt := by decide +kernel
theorem fI11 : ∀ w ∈ u_ws nC11 fT11 55, w ∈ Wt := by decide +kernel
end
section
/-! abstract values, cells, worlds; the judgement EV: a method's run over an abstract world -/
def R32 (x : Int) : Prop := -2147483648 ≤ x ∧ x ≤ 2147483647
abbrev AV : Type := Int ⊕ (Nat ⊕ Nat)
abbrev vI (x : Int) : AV := Sum.inl x
abbrev vL (n : Nat) : AV := Sum.inr (Sum.inl n)
abbrev vR (k : Nat) : AV := Sum.inr (Sum.inr k)
abbrev AC : Type := (Nat × Nat × (Int → Int)) ⊕ ((Nat × (Int → Nat)) ⊕ (Nat × List AV))
abbrev cI (t n : Nat) (f : Int → Int) : AC := Sum.inl (t, n, f)
abbrev cL (n : Nat) (f : Int → Nat) : AC := Sum.inr (Sum.inl (n, f))
abbrev cO (ci : Nat) (fs : List AV) : AC := Sum.inr (Sum.inr (ci, fs))
def cv (ad : Nat → Nat) : AV → Value
  | .inl x => .int (Int32.ofInt x)
  | .inr (.inl n) => .long (Int64.ofNat n)
  | .inr (.inr k) => .ref (ad k)
def ce (ad : Nat → Nat) (cA : Nat → ClassId) : AC → va_E
  | .inl (t, n, f) => .inl (cA t, n, .inl (fun j => Int32.ofInt (f (j : Int))))
  | .inr (.inl (n, f)) => .inl (cA 2, n, .inr (.inl (fun j => Int64.ofNat (f (j : Int)))))
  | .inr (.inr (ci, fs)) => .inr (ci, fs.map (cv ad))
def wsm (ad : Nat → Nat) (cA : Nat → ClassId) (w : List AC) : va_W := w.mapIdx (fun k c => (ad k, ce ad cA c))
def okv : AV → Prop
  | .inl x => R32 x
  | .inr (.inl n) => n < 18446744073709551616
  | .inr (.inr _) => True
def okc : AC → Prop
  | .inl (_, _, f) => ∀ i, R32 (f i)
  | .inr (.inl (_, f)) => ∀ i, f i < 18446744073709551616
  | .inr (.inr (_, fs)) => ∀ v ∈ fs, okv v
def okw (w : List AC) : Prop := ∀ c ∈ w, okc c
def oks (st : List AV) : Prop := ∀ v ∈ st, okv v
def okl (lv : List (Nat × AV)) : Prop := ∀ q ∈ lv, okv q.2
def lvm (ad : Nat → Nat) (lv : List (Nat × AV)) : List (Nat × Value) := lv.map (fun q => (q.1, cv ad q.2))
def stm (ad : Nat → Nat) (st : List AV) : List Value := st.map (cv ad)
def adk (ad : Nat → Nat) (A : Nat → Prop) (n : Nat) : Prop := (∀ i j, i < n → j < n → ad i = ad j → i = j) ∧ ∀ i, i < n → A (ad i)
/-- the one String constant, and String.COMPACT_STRINGS -/
def SX (ad : Nat → Nat) (A : Nat → Prop) (s : State) : Prop := vk_R "PrunedSearch$Text" 23 "(),.:-![]| " (ad 1000) s ∧ vk_S 1 [11] [[40, 41, 44, 46, 58, 45, 33, 91, 93, 124, 32]] (fun _ => ad 1000) (fun _ => ad 1001) A s s.heap ∧ va_Z "java/lang/String" "COMPACT_STRINGS" "Z" (.int 1) A s s.heap ∧ ∀ (own : String) (idx : Nat) (x : MethodName) (host : String), Cond.methodLinkNest own idx x host ∈ lw_tbl → va_Nw (.methodLinkNest own idx x host) s
abbrev tyl (cA : Nat → ClassId) : List (ClassId × FieldType) := [(cA 0, .int), (cA 1, .char), (cA 2, .long)]
def Cx0 (p : Program) (R : Room) (s : State) (m : MethodId) (args : Array Value) (meth : Method) (c : Code) (b : ByteArray) (own : String) (nL : Nat) (ret : Option FieldType) (d : Nat) (dC : Nat → ClassId) (dI : Nat → Nat → Nat) (ad : Nat → Nat) (cA : Nat → ClassId) (A : Nat → Prop) (n : Nat) : Prop :=
  p.tables.exec = Jvm.exec ∧ c.code = b ∧ c.maxLocals = nL ∧ meth.sig.returnType = ret ∧ meth.locks = false ∧ s.vm.findClass own = some m.cls ∧ (∀ x ∈ Wt, x.before args s = true) ∧ (d ≤ R.frames ∧ 40 * d ≤ R.locals) ∧ va_K (dC, dI) classes (tyl cA) s ∧ adk ad A n ∧ SX ad A s
def Cx1 (s : State) (dC : Nat → ClassId) (dI : Nat → Nat → Nat) (ad : Nat → Nat) (cA : Nat → ClassId) (A : Nat → Prop) (H : Heap) (locs : List Loc) (w : List AC) : Prop :=
  va_P (dC, dI) classes (wsm ad cA w) H ∧ va_S A s.heap H locs ∧ okw w
def Qk (dC : Nat → ClassId) (dI : Nat → Nat → Nat) (ad : Nat → Nat) (cA : Nat → ClassId) (A : Nat → Prop) (n : Nat) (K : Option AV → List AC → Prop) : Array Value → State → Outcome → State → Prop := fun _ st oc t =>
  ∃ (r : Option AV) (w' : List AC), oc = .returned (r.map (cv ad)) ∧ (∀ v, r = some v → okv v) ∧ okw w' ∧ w'.length = n ∧ K r w' ∧ va_P (dC, dI) classes (wsm ad cA w') t.heap ∧ va_F A st t
def EV (l : Launch) (b : ByteArray) (own : String) (nL : Nat) (ret : Option FieldType) (d : Nat) (pc : Nat) (lv : List (Nat × AV)) (st : List AV) (w : List AC) (K : Option AV → List AC → Prop) : Prop :=
  ∀ (p : Program) (e : Env) (R : Room) (s : State) (m : MethodId) (args : Array Value) (below : List Frame) (meth : Method) (c : Code) (H : Heap) (locs : List Loc) (dC : Nat → ClassId) (dI : Nat → Nat → Nat) (ad : Nat → Nat) (cA : Nat → ClassId) (A : Nat → Prop),
    Cx0 p R s m args meth c b own nL ret d dC dI ad cA A w.length → Cx1 s dC dI ad cA A H locs w → okl lv → oks st → ∀ ls : Array Slot, lv_has ls nL (lvm ad lv) →
      W p l e R s m args below meth c H locs 0 0 (MQ below (Qk dC dI ad cA A w.length K) args s 0 0 A) (F0 m pc ls (stm ad st))
/-- a method's contract, over an abstract world -/
def MT (l : Launch) (y : MethodName) (b : ByteArray) (nL : Nat) (ret : Option FieldType) (d : Nat) (as : List AV) (w : List AC) (K : Option AV → List AC → Prop) : Prop :=
  oks as → okw w → ∀ (dC : Nat → ClassId) (dI : Nat → Nat → Nat) (ad : Nat → Nat) (cA : Nat → ClassId), Met l y (.code y b nL ret :: Wt) { frames := d, cells := 0, slots := 0, locals := 40 * d }
    (va_Pc (stm ad as) (fun U => va_P (dC, dI) classes (wsm ad cA w) U.heap ∧ va_K (dC, dI) classes (tyl cA) U ∧ adk ad (fun q => ∃ k, k < w.length ∧ q = ad k) w.length ∧ SX ad (fun q => ∃ k, k < w.length ∧ q = ad k) U))
    (Qk dC dI ad cA (fun q => ∃ k, k < w.length ∧ q = ad k) w.length K) 0 0 (fun q => ∃ k, k < w.length ∧ q = ad k)
-- numbers
theorem oi_add (x y : Int) : Int32.ofInt (x + y) = Int32.ofInt x + Int32.ofInt y := Int32.ofInt_add x y
theorem oi_sub (x y : Int) : Int32.ofInt (x - y) = Int32.ofInt x - Int32.ofInt y := Int32.ofInt_sub x y
theorem oi_mul (x y : Int) : Int32.ofInt (x * y) = Int32.ofInt x * Int32.ofInt y := Int32.ofInt_mul x y
theorem oi_toInt {x : Int} (h : R32 x) : (Int32.ofInt x).toInt = x := Int32.toInt_ofInt_of_le (by have := h.1; omega) (by have := h.2; omega)
theorem oi_lt {x y : Int} (hx : R32 x) (hy : R32 y) : Int32.ofInt x < Int32.ofInt y ↔ x < y := by rw [Int32.lt_iff_toInt_lt, oi_toInt hx, oi_toInt hy]
theorem oi_le {x y : Int} (hx : R32 x) (hy : R32 y) : Int32.ofInt x ≤ Int32.ofInt y ↔ x ≤ y := by rw [Int32.le_iff_toInt_le, oi_toInt hx, oi_toInt hy]
theorem oi_eq {x y : Int} (hx : R32 x) (hy : R32 y) : Int32.ofInt x = Int32.ofInt y ↔ x = y := by rw [← Int32.toInt_inj, oi_toInt hx, oi_toInt hy]
theorem oi_0 : Int32.ofInt 0 = 0 := by decide +kernel
theorem R32_0 : R32 0 := ⟨by decide, by decide⟩
theorem oi_clamp {x : Int} (h : R32 x) (h0 : 0 ≤ x) : (Int32.ofInt x).toNatClampNeg = x.toNat := by
  rw [Int32.toNatClampNeg, oi_toInt h]
theorem oi_in {x : Int} {n : Nat} (hx : R32 x) (h0 : 0 ≤ x) (h1 : x < n) : vp_in (Int32.ofInt x) n := by
  rw [vp_in_iff, oi_toInt hx]
  exact ⟨h0, h1⟩
-- lists of values
theorem oks_c {v : AV} {st : List AV} (h : okv v) (hs : oks st) : oks (v :: st) := fun x hx => by
  rcases List.mem_cons.mp hx with rfl | h1
  · exact h
  · exact hs x h1
theorem oks_h {v : AV} {st : List AV} (hs : oks (v :: st)) : okv v := hs v List.mem_cons_self
theorem oks_t {v : AV} {st : List AV} (hs : oks (v :: st)) : oks st := fun x hx => hs x (List.mem_cons_of_mem _ hx)
theorem okl_at {lv : List (Nat × AV)} {k i : Nat} {v : AV} (h : okl lv) (hk : lv[k]? = some (i, v)) : okv v := h (i, v) (List.mem_of_getElem? hk)
theorem lvm_at {ad : Nat → Nat} {lv : List (Nat × AV)} {k i : Nat} {v : AV} (hk : lv[k]? = some (i, v)) : (lvm ad lv)[k]? = some (i, cv ad v) := by
  rw [lvm, List.getElem?_map, hk]; rfl
theorem wsm_at {ad : Nat → Nat} {cA : Nat → ClassId} {w : List AC} {k : Nat} {c : AC} (h : w[k]? = some c) : (wsm ad cA w)[k]? = some (ad k, ce ad cA c) := by
  rw [wsm, List.getElem?_mapIdx, h]; rfl
theorem wsm_set {ad : Nat → Nat} {cA : Nat → ClassId} {w : List AC} {k : Nat} {c : AC} : (wsm ad cA w).set k (ad k, ce ad cA c) = wsm ad cA (w.set k c) := by
  apply List.ext_getElem?
  intro i
  by_cases hi : i = k
  · subst hi
    by_cases hl : i < w.length
    · rw [List.getElem?_set_self (by simpa [wsm] using hl), wsm, List.getElem?_mapIdx, List.getElem?_set_self hl]; rfl
    · rw [List.getElem?_eq_none (by simpa [wsm] using hl), List.getElem?_eq_none (by simpa [wsm] using hl)]
  · rw [List.getElem?_set_ne (Ne.symm hi), wsm, wsm, List.getElem?_mapIdx, List.getElem?_mapIdx, List.getElem?_set_ne (Ne.symm hi)]
theorem wsm_len {ad : Nat → Nat} {cA : Nat → ClassId} {w : List AC} : (wsm ad cA w).length = w.length := by simp [wsm]
theorem wsm_get {ad : Nat → Nat} {cA : Nat → ClassId} {w : List AC} {k : Nat} {q : Nat × va_E} (h : (wsm ad cA w)[k]? = some q) : k < w.length ∧ q.1 = ad k := by
  rw [wsm, List.getElem?_mapIdx] at h
  cases hc : w[k]? with
  | none => rw [hc] at h; cases h
  | some c =>
    rw [hc] at h
    cases h
    exact ⟨(List.getElem?_eq_some_iff.mp hc).1, rfl⟩
theorem adk_D {ad : Nat → Nat} {cA : Nat → ClassId} {A : Nat → Prop} {w : List AC} (h : adk ad A w.length) : va_D A (wsm ad cA w) := by
  refine ⟨fun i j p q hi hj hpq => ?_, fun k q hk => ?_⟩
  · obtain ⟨h1, h2⟩ := wsm_get hi
    obtain ⟨h3, h4⟩ := wsm_get hj
    exact h.1 i j h1 h3 (by rw [← h2, ← h4]; exact hpq)
  · obtain ⟨h1, h2⟩ := wsm_get hk
    rw [h2]; exact h.2 k h1
theorem okw_set {w : List AC} {k : Nat} {c : AC} (h : okw w) (hc : okc c) : okw (w.set k c) := fun x hx => by
  rcases List.mem_or_eq_of_mem_set hx with h1 | rfl
  · exact h x h1
  · exact hc
end
section
/-! rows of EV: locals, stack, numbers, branches (printed by wip/gen/rows.py) -/
def isL : AV → Bool
  | .inr (.inl _) => true
  | _ => false
def st1 (i : Nat) (v : AV) (lv : List (Nat × AV)) : List (Nat × AV) := (i, v) :: lv.filter (fun q => !(q.1 == i) && !(q.1 + 1 == i && isL q.2))
def st2 (i : Nat) (v : AV) (lv : List (Nat × AV)) : List (Nat × AV) := (i, v) :: lv.filter (fun q => !(q.1 == i) && (!(q.1 == i + 1) && !(q.1 + 1 == i && isL q.2)))
def pk (l : List (Nat × AV)) (ks : List Nat) : List (Nat × AV) := ks.filterMap (fun k => l[k]?)
theorem cv_cat (ad : Nat → Nat) (v : AV) : ((cv ad v).category == 2) = isL v := by
  rcases v with x | n | k <;> rfl
theorem lvm_st1 {ad : Nat → Nat} {i : Nat} {v : AV} {lv : List (Nat × AV)} : (i, cv ad v) :: (lvm ad lv).filter (fun q => !(q.1 == i) && !(q.1 + 1 == i && q.2.category == 2)) = lvm ad (st1 i v lv) := by
  simp only [lvm, st1, List.map_cons, List.filter_map, Function.comp_def, cv_cat]
theorem lvm_st2 {ad : Nat → Nat} {i : Nat} {v : AV} {lv : List (Nat × AV)} : (i, cv ad v) :: (lvm ad lv).filter (fun q => !(q.1 == i) && (!(q.1 == i + 1) && !(q.1 + 1 == i && q.2.category == 2))) = lvm ad (st2 i v lv) := by
  simp only [lvm, st2, List.map_cons, List.filter_map, Function.comp_def, cv_cat]
theorem lvm_pk {ad : Nat → Nat} {l : List (Nat × AV)} {ks : List Nat} : lv_pick (lvm ad l) ks = lvm ad (pk l ks) := by
  simp only [lv_pick, lvm, pk, List.map_filterMap, List.getElem?_map]
theorem okl_pk {l : List (Nat × AV)} {ks : List Nat} (h : okl l) : okl (pk l ks) := fun q hq => by
  obtain ⟨k, -, hk⟩ := List.mem_filterMap.mp hq
  exact h q (List.mem_of_getElem? hk)
theorem okl_st1 {i : Nat} {v : AV} {l : List (Nat × AV)} (h : okl l) (hv : okv v) : okl (st1 i v l) := fun q hq => by
  rcases List.mem_cons.mp hq with rfl | h1
  · exact hv
  · exact h q (List.mem_filter.mp h1).1
theorem okl_st2 {i : Nat} {v : AV} {l : List (Nat × AV)} (h : okl l) (hv : okv v) : okl (st2 i v l) := fun q hq => by
  rcases List.mem_cons.mp hq with rfl | h1
  · exact hv
  · exact h q (List.mem_filter.mp h1).1
theorem oi_nat (n : Nat) : Int32.ofInt (n : Int) = nI n := by
  apply Int32.toBitVec_inj.mp
  simp [nI, Int32.ofInt, Int32.ofNat]
section EVR
variable {l : Launch} {b : ByteArray} {own : String} {nL : Nat} {ret : Option FieldType} {d pc : Nat} {lv : List (Nat × AV)} {st : List AV} {w : List AC} {K : Option AV → List AC → Prop}
theorem EV_iconst {n : Int} (hd : decode b pc = .ok (.iconst n, 1)) (hr : R32 n) (k : EV l b own nL ret d (pc + 1) lv (vI n :: st) w K) : EV l b own nL ret d pc lv (st) w K := by
  intro p e R s m args below meth c H locs dC dI ad cA A C D ol os ls hl
  exact lv_iconst C.1 C.2.1 hd rfl (k p e R s m args below meth c H locs dC dI ad cA A C D ol (oks_c hr os) ls hl)
theorem EV_bipush {n : Int} (hd : decode b pc = .ok (.bipush n, 2)) (hv : (Int8.ofInt n).toInt32 = Int32.ofInt n) (hr : R32 n) (k : EV l b own nL ret d (pc + 2) lv (vI n :: st) w K) : EV l b own nL ret d pc lv (st) w K := by
  intro p e R s m args below meth c H locs dC dI ad cA A C D ol os ls hl
  exact lv_bipush C.1 C.2.1 hd hv (k p e R s m args below meth c H locs dC dI ad cA A C D ol (oks_c hr os) ls hl)
theorem EV_sipush {n : Int} (hd : decode b pc = .ok (.sipush n, 3)) (hv : (Int16.ofInt n).toInt32 = Int32.ofInt n) (hr : R32 n) (k : EV l b own nL ret d (pc + 3) lv (vI n :: st) w K) : EV l b own nL ret d pc lv (st) w K := by
  intro p e R s m args below meth c H locs dC dI ad cA A C D ol os ls hl
  exact lv_sipush C.1 C.2.1 hd hv (k p e R s m args below meth c H locs dC dI ad cA A C D ol (oks_c hr os) ls hl)
theorem EV_lconst {n : Fin 2} {v : Nat} (hd : decode b pc = .ok (.lconst n, 1)) (hv : (n : Nat) = v) (k : EV l b own nL ret d (pc + 1) lv (vL v :: st) w K) : EV l b own nL ret d pc lv (st) w K := by
  intro p e R s m args below meth c H locs dC dI ad cA A C D ol os ls hl
  subst hv
  exact lv_lconst C.1 C.2.1 hd rfl (k p e R s m args below meth c H locs dC dI ad cA A C D ol (oks_c (v := vL n) (show (n : Nat) < 18446744073709551616 by omega) os) ls hl)
theorem EV_ldc {n : Int} {v : Int32} {idx : Nat} (hd : decode b pc = .ok (.ldc idx, 2)) (hc : Cond.constant own idx v ∈ Wt) (hv : v = Int32.ofInt n) (hr : R32 n) (k : EV l b own nL ret d (pc + 2) lv (vI n :: st) w K) : EV l b own nL ret d pc lv (st) w K := by
  intro p e R s m args below meth c H locs dC dI ad cA A C D ol os ls hl
  subst hv
  exact lv_ldc C.1 C.2.1 C.2.2.2.2.2.1 (C.2.2.2.2.2.2.1 _ hc) hd (k p e R s m args below meth c H locs dC dI ad cA A C D ol (oks_c hr os) ls hl)
theorem EV_ldc2 {n : Nat} {v : Int64} {idx : Nat} (hd : decode b pc = .ok (.ldc2_w idx, 3)) (hc : Cond.constantLong own idx v ∈ Wt) (hv : v = Int64.ofNat n) (hr : n < 18446744073709551616) (k : EV l b own nL ret d (pc + 3) lv (vL n :: st) w K) : EV l b own nL ret d pc lv (st) w K := by
  intro p e R s m args below meth c H locs dC dI ad cA A C D ol os ls hl
  subst hv
  exact lv_ldc2 C.1 C.2.1 C.2.2.2.2.2.1 (C.2.2.2.2.2.2.1 _ hc) hd (k p e R s m args below meth c H locs dC dI ad cA A C D ol (oks_c (v := vL n) hr os) ls hl)
theorem EV_iload_n {q : Fin 4} {i : Nat} {x : Int} (j : Nat) (hd : decode b pc = .ok (.iload_n q, 1)) (hi : (q : Nat) = i) (hk : lv[j]? = some (i, vI x)) (k : EV l b own nL ret d (pc + 1) lv (vI x :: st) w K) : EV l b own nL ret d pc lv (st) w K := by
  intro p e R s m args below meth c H locs dC dI ad cA A C D ol os ls hl
  exact lv_iload_n C.1 C.2.1 hd hi (lv_at hl j (lvm_at hk)) (k p e R s m args below meth c H locs dC dI ad cA A C D ol (oks_c (okl_at ol hk) os) ls hl)
theorem EV_iload {i : Nat} {x : Int} (j : Nat) (hd : decode b pc = .ok (.iload i, 2)) (hk : lv[j]? = some (i, vI x)) (k : EV l b own nL ret d (pc + 2) lv (vI x :: st) w K) : EV l b own nL ret d pc lv (st) w K := by
  intro p e R s m args below meth c H locs dC dI ad cA A C D ol os ls hl
  exact lv_iload C.1 C.2.1 hd (lv_at hl j (lvm_at hk)) (k p e R s m args below meth c H locs dC dI ad cA A C D ol (oks_c (okl_at ol hk) os) ls hl)
theorem EV_istore {i : Nat} {x : Int} {lv' : List (Nat × AV)} (ks : List Nat) (hd : decode b pc = .ok (.istore i, 2)) (hn : i < nL) (hp : pk (st1 i (vI x) lv) ks = lv') (k : EV l b own nL ret d (pc + 2) lv' st w K) : EV l b own nL ret d pc lv (vI x :: st) w K := by
  intro p e R s m args below meth c H locs dC dI ad cA A C D ol os ls hl
  subst hp
  exact lv_istore C.1 C.2.1 hd hl hn (lvm_st1 (v := vI x)) (fun ls' hl' => k p e R s m args below meth c H locs dC dI ad cA A C D (okl_pk (okl_st1 ol (oks_h os))) (oks_t os) ls' (lv_sub hl' ks lvm_pk))
theorem EV_istore_n {q : Fin 4} {i : Nat} {x : Int} {lv' : List (Nat × AV)} (ks : List Nat) (hd : decode b pc = .ok (.istore_n q, 1)) (hi : (q : Nat) = i) (hn : i < nL) (hp : pk (st1 i (vI x) lv) ks = lv') (k : EV l b own nL ret d (pc + 1) lv' st w K) : EV l b own nL ret d pc lv (vI x :: st) w K := by
  intro p e R s m args below meth c H locs dC dI ad cA A C D ol os ls hl
  subst hp
  exact lv_istore_n C.1 C.2.1 hd hi hl hn (lvm_st1 (v := vI x)) (fun ls' hl' => k p e R s m args below meth c H locs dC dI ad cA A C D (okl_pk (okl_st1 ol (oks_h os))) (oks_t os) ls' (lv_sub hl' ks lvm_pk))
theorem EV_lload_n {q : Fin 4} {i : Nat} {x : Nat} (j : Nat) (hd : decode b pc = .ok (.lload_n q, 1)) (hi : (q : Nat) = i) (hk : lv[j]? = some (i, vL x)) (k : EV l b own nL ret d (pc + 1) lv (vL x :: st) w K) : EV l b own nL ret d pc lv (st) w K := by
  intro p e R s m args below meth c H locs dC dI ad cA A C D ol os ls hl
  exact lv_lload_n C.1 C.2.1 hd hi (lv_at hl j (lvm_at hk)) (k p e R s m args below meth c H locs dC dI ad cA A C D ol (oks_c (okl_at ol hk) os) ls hl)
theorem EV_lload {i : Nat} {x : Nat} (j : Nat) (hd : decode b pc = .ok (.lload i, 2)) (hk : lv[j]? = some (i, vL x)) (k : EV l b own nL ret d (pc + 2) lv (vL x :: st) w K) : EV l b own nL ret d pc lv (st) w K := by
  intro p e R s m args below meth c H locs dC dI ad cA A C D ol os ls hl
  exact lv_lload C.1 C.2.1 hd (lv_at hl j (lvm_at hk)) (k p e R s m args below meth c H locs dC dI ad cA A C D ol (oks_c (okl_at ol hk) os) ls hl)
theorem EV_lstore {i : Nat} {x : Nat} {lv' : List (Nat × AV)} (ks : List Nat) (hd : decode b pc = .ok (.lstore i, 2)) (hn : i + 1 < nL) (hp : pk (st2 i (vL x) lv) ks = lv') (k : EV l b own nL ret d (pc + 2) lv' st w K) : EV l b own nL ret d pc lv (vL x :: st) w K := by
  intro p e R s m args below meth c H locs dC dI ad cA A C D ol os ls hl
  subst hp
  exact lv_lstore C.1 C.2.1 hd hl hn (lvm_st2 (v := vL x)) (fun ls' hl' => k p e R s m args below meth c H locs dC dI ad cA A C D (okl_pk (okl_st2 ol (oks_h os))) (oks_t os) ls' (lv_sub hl' ks lvm_pk))
theorem EV_lstore_n {q : Fin 4} {i : Nat} {x : Nat} {lv' : List (Nat × AV)} (ks : List Nat) (hd : decode b pc = .ok (.lstore_n q, 1)) (hi : (q : Nat) = i) (hn : i + 1 < nL) (hp : pk (st2 i (vL x) lv) ks = lv') (k : EV l b own nL ret d (pc + 1) lv' st w K) : EV l b own nL ret d pc lv (vL x :: st) w K := by
  intro p e R s m args below meth c H locs dC dI ad cA A C D ol os ls hl
  subst hp
  exact lv_lstore_n C.1 C.2.1 hd hi hl hn (lvm_st2 (v := vL x)) (fun ls' hl' => k p e R s m args below meth c H locs dC dI ad cA A C D (okl_pk (okl_st2 ol (oks_h os))) (oks_t os) ls' (lv_sub hl' ks lvm_pk))
theorem EV_aload_n {q : Fin 4} {i : Nat} {x : Nat} (j : Nat) (hd : decode b pc = .ok (.aload_n q, 1)) (hi : (q : Nat) = i) (hk : lv[j]? = some (i, vR x)) (k : EV l b own nL ret d (pc + 1) lv (vR x :: st) w K) : EV l b own nL ret d pc lv (st) w K := by
  intro p e R s m args below meth c H locs dC dI ad cA A C D ol os ls hl
  exact lv_aload_n C.1 C.2.1 hd hi (lv_at hl j (lvm_at hk)) (k p e R s m args below meth c H locs dC dI ad cA A C D ol (oks_c (okl_at ol hk) os) ls hl)
theorem EV_aload {i : Nat} {x : Nat} (j : Nat) (hd : decode b pc = .ok (.aload i, 2)) (hk : lv[j]? = some (i, vR x)) (k : EV l b own nL ret d (pc + 2) lv (vR x :: st) w K) : EV l b own nL ret d pc lv (st) w K := by
  intro p e R s m args below meth c H locs dC dI ad cA A C D ol os ls hl
  exact lv_aload C.1 C.2.1 hd (lv_at hl j (lvm_at hk)) (k p e R s m args below meth c H locs dC dI ad cA A C D ol (oks_c (okl_at ol hk) os) ls hl)
theorem EV_astore {i : Nat} {x : Nat} {lv' : List (Nat × AV)} (ks : List Nat) (hd : decode b pc = .ok (.astore i, 2)) (hn : i < nL) (hp : pk (st1 i (vR x) lv) ks = lv') (k : EV l b own nL ret d (pc + 2) lv' st w K) : EV l b own nL ret d pc lv (vR x :: st) w K := by
  intro p e R s m args below meth c H locs dC dI ad cA A C D ol os ls hl
  subst hp
  exact lv_astore C.1 C.2.1 hd hl hn (lvm_st1 (v := vR x)) (fun ls' hl' => k p e R s m args below meth c H locs dC dI ad cA A C D (okl_pk (okl_st1 ol (oks_h os))) (oks_t os) ls' (lv_sub hl' ks lvm_pk))
theorem EV_astore_n {q : Fin 4} {i : Nat} {x : Nat} {lv' : List (Nat × AV)} (ks : List Nat) (hd : decode b pc = .ok (.astore_n q, 1)) (hi : (q : Nat) = i) (hn : i < nL) (hp : pk (st1 i (vR x) lv) ks = lv') (k : EV l b own nL ret d (pc + 1) lv' st w K) : EV l b own nL ret d pc lv (vR x :: st) w K := by
  intro p e R s m args below meth c H locs dC dI ad cA A C D ol os ls hl
  subst hp
  exact lv_astore_n C.1 C.2.1 hd hi hl hn (lvm_st1 (v := vR x)) (fun ls' hl' => k p e R s m args below meth c H locs dC dI ad cA A C D (okl_pk (okl_st1 ol (oks_h os))) (oks_t os) ls' (lv_sub hl' ks lvm_pk))
theorem EV_iinc {i : Nat} {n x : Int} {lv' : List (Nat × AV)} (j : Nat) (ks : List Nat) (hd : decode b pc = .ok (.iinc i n, 3)) (hk : lv[j]? = some (i, vI x)) (hn : i < nL) (hr : R32 (x + n)) (hp : pk (st1 i (vI (x + n)) lv) ks = lv') (k : EV l b own nL ret d (pc + 3) lv' st w K) : EV l b own nL ret d pc lv st w K := by
  intro p e R s m args below meth c H locs dC dI ad cA A C D ol os ls hl
  subst hp
  exact lv_iinc C.1 C.2.1 hd hl (k := j) (lvm_at hk) (oi_add x n).symm hn (lvm_st1 (v := vI (x + n))) (fun ls' hl' => k p e R s m args below meth c H locs dC dI ad cA A C D (okl_pk (okl_st1 ol hr)) os ls' (lv_sub hl' ks lvm_pk))
theorem EV_lv {lv' : List (Nat × AV)} (ks : List Nat) (hp : pk lv ks = lv') (k : EV l b own nL ret d pc lv' st w K) : EV l b own nL ret d pc lv st w K := by
  intro p e R s m args below meth c H locs dC dI ad cA A C D ol os ls hl
  subst hp
  exact k p e R s m args below meth c H locs dC dI ad cA A C D (okl_pk ol) os ls (lv_sub hl ks lvm_pk)
theorem EV_iadd {x y : Int} (hd : decode b pc = .ok (.iadd, 1)) (hr : R32 (x + y)) (k : EV l b own nL ret d (pc + 1) lv (vI (x + y) :: st) w K) : EV l b own nL ret d pc lv (vI y :: vI x :: st) w K := by
  intro p e R s m args below meth c H locs dC dI ad cA A C D ol os ls hl
  refine lv_iadd C.1 C.2.1 hd ?_
  rw [← oi_add]
  exact k p e R s m args below meth c H locs dC dI ad cA A C D ol (oks_c hr (oks_t (oks_t os))) ls hl
theorem EV_isub {x y : Int} (hd : decode b pc = .ok (.isub, 1)) (hr : R32 (x - y)) (k : EV l b own nL ret d (pc + 1) lv (vI (x - y) :: st) w K) : EV l b own nL ret d pc lv (vI y :: vI x :: st) w K := by
  intro p e R s m args below meth c H locs dC dI ad cA A C D ol os ls hl
  refine lv_isub C.1 C.2.1 hd ?_
  rw [← oi_sub]
  exact k p e R s m args below meth c H locs dC dI ad cA A C D ol (oks_c hr (oks_t (oks_t os))) ls hl
theorem EV_imul {x y : Int} (hd : decode b pc = .ok (.imul, 1)) (hr : R32 (x * y)) (k : EV l b own nL ret d (pc + 1) lv (vI (x * y) :: st) w K) : EV l b own nL ret d pc lv (vI y :: vI x :: st) w K := by
  intro p e R s m args below meth c H locs dC dI ad cA A C D ol os ls hl
  refine lv_imul C.1 C.2.1 hd ?_
  rw [← oi_mul]
  exact k p e R s m args below meth c H locs dC dI ad cA A C D ol (oks_c hr (oks_t (oks_t os))) ls hl
theorem EV_icmp_eq {x y off : Int} {tgt : Nat} (hd : decode b pc = .ok (.if_icmp .eq off, 3)) (ht : (pc : Int) + off = (tgt : Int)) (kt : x = y → EV l b own nL ret d tgt lv st w K) (kf : ¬ x = y → EV l b own nL ret d (pc + 3) lv st w K) : EV l b own nL ret d pc lv (vI y :: vI x :: st) w K := by
  intro p e R s m args below meth c H locs dC dI ad cA A C D ol os ls hl
  have hx : R32 x := oks_h (oks_t os)
  have hy : R32 y := oks_h os
  exact lv_icmp_eq C.1 C.2.1 hd ht (fun q => kt ((oi_eq hx hy).mp q) p e R s m args below meth c H locs dC dI ad cA A C D ol (oks_t (oks_t os)) ls hl) (fun q => kf (fun z => q ((oi_eq hx hy).mpr z)) p e R s m args below meth c H locs dC dI ad cA A C D ol (oks_t (oks_t os)) ls hl)
theorem EV_if_eq {x off : Int} {tgt : Nat} (hd : decode b pc = .ok (.ifCond .eq off, 3)) (ht : (pc : Int) + off = (tgt : Int)) (kt : x = 0 → EV l b own nL ret d tgt lv st w K) (kf : ¬ x = 0 → EV l b own nL ret d (pc + 3) lv st w K) : EV l b own nL ret d pc lv (vI x :: st) w K := by
  intro p e R s m args below meth c H locs dC dI ad cA A C D ol os ls hl
  have hx : R32 x := oks_h os
  have hz : Int32.ofInt x = 0 ↔ x = 0 := by have h0 := oi_eq hx R32_0; rw [oi_0] at h0; exact h0
  exact lv_if_eq C.1 C.2.1 hd ht (fun q => kt (hz.mp q) p e R s m args below meth c H locs dC dI ad cA A C D ol (oks_t os) ls hl) (fun q => kf (fun z => q (hz.mpr z)) p e R s m args below meth c H locs dC dI ad cA A C D ol (oks_t os) ls hl)
theorem EV_icmp_ne {x y off : Int} {tgt : Nat} (hd : decode b pc = .ok (.if_icmp .ne off, 3)) (ht : (pc : Int) + off = (tgt : Int)) (kt : ¬ x = y → EV l b own nL ret d tgt lv st w K) (kf : x = y → EV l b own nL ret d (pc + 3) lv st w K) : EV l b own nL ret d pc lv (vI y :: vI x :: st) w K := by
  intro p e R s m args below meth c H locs dC dI ad cA A C D ol os ls hl
  have hx : R32 x := oks_h (oks_t os)
  have hy : R32 y := oks_h os
  exact lv_icmp_ne C.1 C.2.1 hd ht (fun q => kt (fun z => q ((oi_eq hx hy).mpr z)) p e R s m args below meth c H locs dC dI ad cA A C D ol (oks_t (oks_t os)) ls hl) (fun q => kf ((oi_eq hx hy).mp q) p e R s m args below meth c H locs dC dI ad cA A C D ol (oks_t (oks_t os)) ls hl)
theorem EV_if_ne {x off : Int} {tgt : Nat} (hd : decode b pc = .ok (.ifCond .ne off, 3)) (ht : (pc : Int) + off = (tgt : Int)) (kt : ¬ x = 0 → EV l b own nL ret d tgt lv st w K) (kf : x = 0 → EV l b own nL ret d (pc + 3) lv st w K) : EV l b own nL ret d pc lv (vI x :: st) w K := by
  intro p e R s m args below meth c H locs dC dI ad cA A C D ol os ls hl
  have hx : R32 x := oks_h os
  have hz : Int32.ofInt x = 0 ↔ x = 0 := by have h0 := oi_eq hx R32_0; rw [oi_0] at h0; exact h0
  exact lv_if_ne C.1 C.2.1 hd ht (fun q => kt (fun z => q (hz.mpr z)) p e R s m args below meth c H locs dC dI ad cA A C D ol (oks_t os) ls hl) (fun q => kf (hz.mp q) p e R s m args below meth c H locs dC dI ad cA A C D ol (oks_t os) ls hl)
theorem EV_icmp_lt {x y off : Int} {tgt : Nat} (hd : decode b pc = .ok (.if_icmp .lt off, 3)) (ht : (pc : Int) + off = (tgt : Int)) (kt : x < y → EV l b own nL ret d tgt lv st w K) (kf : ¬ x < y → EV l b own nL ret d (pc + 3) lv st w K) : EV l b own nL ret d pc lv (vI y :: vI x :: st) w K := by
  intro p e R s m args below meth c H locs dC dI ad cA A C D ol os ls hl
  have hx : R32 x := oks_h (oks_t os)
  have hy : R32 y := oks_h os
  exact lv_icmp_lt C.1 C.2.1 hd ht (fun q => kt ((oi_lt hx hy).mp q) p e R s m args below meth c H locs dC dI ad cA A C D ol (oks_t (oks_t os)) ls hl) (fun q => kf (fun z => q ((oi_lt hx hy).mpr z)) p e R s m args below meth c H locs dC dI ad cA A C D ol (oks_t (oks_t os)) ls hl)
theorem EV_if_lt {x off : Int} {tgt : Nat} (hd : decode b pc = .ok (.ifCond .lt off, 3)) (ht : (pc : Int) + off = (tgt : Int)) (kt : x < 0 → EV l b own nL ret d tgt lv st w K) (kf : ¬ x < 0 → EV l b own nL ret d (pc + 3) lv st w K) : EV l b own nL ret d pc lv (vI x :: st) w K := by
  intro p e R s m args below meth c H locs dC dI ad cA A C D ol os ls hl
  have hx : R32 x := oks_h os
  have hz : Int32.ofInt x < 0 ↔ x < 0 := by have h0 := oi_lt hx R32_0; rw [oi_0] at h0; exact h0
  exact lv_if_lt C.1 C.2.1 hd ht (fun q => kt (hz.mp q) p e R s m args below meth c H locs dC dI ad cA A C D ol (oks_t os) ls hl) (fun q => kf (fun z => q (hz.mpr z)) p e R s m args below meth c H locs dC dI ad cA A C D ol (oks_t os) ls hl)
theorem EV_icmp_ge {x y off : Int} {tgt : Nat} (hd : decode b pc = .ok (.if_icmp .ge off, 3)) (ht : (pc : Int) + off = (tgt : Int)) (kt : y ≤ x → EV l b own nL ret d tgt lv st w K) (kf : ¬ y ≤ x → EV l b own nL ret d (pc + 3) lv st w K) : EV l b own nL ret d pc lv (vI y :: vI x :: st) w K := by
  intro p e R s m args below meth c H locs dC dI ad cA A C D ol os ls hl
  have hx : R32 x := oks_h (oks_t os)
  have hy : R32 y := oks_h os
  exact lv_icmp_ge C.1 C.2.1 hd ht (fun q => kt ((oi_le hy hx).mp q) p e R s m args below meth c H locs dC dI ad cA A C D ol (oks_t (oks_t os)) ls hl) (fun q => kf (fun z => q ((oi_le hy hx).mpr z)) p e R s m args below meth c H locs dC dI ad cA A C D ol (oks_t (oks_t os)) ls hl)
theorem EV_if_ge {x off : Int} {tgt : Nat} (hd : decode b pc = .ok (.ifCond .ge off, 3)) (ht : (pc : Int) + off = (tgt : Int)) (kt : 0 ≤ x → EV l b own nL ret d tgt lv st w K) (kf : ¬ 0 ≤ x → EV l b own nL ret d (pc + 3) lv st w K) : EV l b own nL ret d pc lv (vI x :: st) w K := by
  intro p e R s m args below meth c H locs dC dI ad cA A C D ol os ls hl
  have hx : R32 x := oks_h os
  have hz : 0 ≤ Int32.ofInt x ↔ 0 ≤ x := by have h0 := oi_le R32_0 hx; rw [oi_0] at h0; exact h0
  exact lv_if_ge C.1 C.2.1 hd ht (fun q => kt (hz.mp q) p e R s m args below meth c H locs dC dI ad cA A C D ol (oks_t os) ls hl) (fun q => kf (fun z => q (hz.mpr z)) p e R s m args below meth c H locs dC dI ad cA A C D ol (oks_t os) ls hl)
theorem EV_icmp_gt {x y off : Int} {tgt : Nat} (hd : decode b pc = .ok (.if_icmp .gt off, 3)) (ht : (pc : Int) + off = (tgt : Int)) (kt : y < x → EV l b own nL ret d tgt lv st w K) (kf : ¬ y < x → EV l b own nL ret d (pc + 3) lv st w K) : EV l b own nL ret d pc lv (vI y :: vI x :: st) w K := by
  intro p e R s m args below meth c H locs dC dI ad cA A C D ol os ls hl
  have hx : R32 x := oks_h (oks_t os)
  have hy : R32 y := oks_h os
  exact lv_icmp_gt C.1 C.2.1 hd ht (fun q => kt ((oi_lt hy hx).mp q) p e R s m args below meth c H locs dC dI ad cA A C D ol (oks_t (oks_t os)) ls hl) (fun q => kf (fun z => q ((oi_lt hy hx).mpr z)) p e R s m args below meth c H locs dC dI ad cA A C D ol (oks_t (oks_t os)) ls hl)
theorem EV_if_gt {x off : Int} {tgt : Nat} (hd : decode b pc = .ok (.ifCond .gt off, 3)) (ht : (pc : Int) + off = (tgt : Int)) (kt : 0 < x → EV l b own nL ret d tgt lv st w K) (kf : ¬ 0 < x → EV l b own nL ret d (pc + 3) lv st w K) : EV l b own nL ret d pc lv (vI x :: st) w K := by
  intro p e R s m args below meth c H locs dC dI ad cA A C D ol os ls hl
  have hx : R32 x := oks_h os
  have hz : 0 < Int32.ofInt x ↔ 0 < x := by have h0 := oi_lt R32_0 hx; rw [oi_0] at h0; exact h0
  exact lv_if_gt C.1 C.2.1 hd ht (fun q => kt (hz.mp q) p e R s m args below meth c H locs dC dI ad cA A C D ol (oks_t os) ls hl) (fun q => kf (fun z => q (hz.mpr z)) p e R s m args below meth c H locs dC dI ad cA A C D ol (oks_t os) ls hl)
theorem EV_icmp_le {x y off : Int} {tgt : Nat} (hd : decode b pc = .ok (.if_icmp .le off, 3)) (ht : (pc : Int) + off = (tgt : Int)) (kt : x ≤ y → EV l b own nL ret d tgt lv st w K) (kf : ¬ x ≤ y → EV l b own nL ret d (pc + 3) lv st w K) : EV l b own nL ret d pc lv (vI y :: vI x :: st) w K := by
  intro p e R s m args below meth c H locs dC dI ad cA A C D ol os ls hl
  have hx : R32 x := oks_h (oks_t os)
  have hy : R32 y := oks_h os
  exact lv_icmp_le C.1 C.2.1 hd ht (fun q => kt ((oi_le hx hy).mp q) p e R s m args below meth c H locs dC dI ad cA A C D ol (oks_t (oks_t os)) ls hl) (fun q => kf (fun z => q ((oi_le hx hy).mpr z)) p e R s m args below meth c H locs dC dI ad cA A C D ol (oks_t (oks_t os)) ls hl)
theorem EV_if_le {x off : Int} {tgt : Nat} (hd : decode b pc = .ok (.ifCond .le off, 3)) (ht : (pc : Int) + off = (tgt : Int)) (kt : x ≤ 0 → EV l b own nL ret d tgt lv st w K) (kf : ¬ x ≤ 0 → EV l b own nL ret d (pc + 3) lv st w K) : EV l b own nL ret d pc lv (vI x :: st) w K := by
  intro p e R s m args below meth c H locs dC dI ad cA A C D ol os ls hl
  have hx : R32 x := oks_h os
  have hz : Int32.ofInt x ≤ 0 ↔ x ≤ 0 := by have h0 := oi_le hx R32_0; rw [oi_0] at h0; exact h0
  exact lv_if_le C.1 C.2.1 hd ht (fun q => kt (hz.mp q) p e R s m args below meth c H locs dC dI ad cA A C D ol (oks_t os) ls hl) (fun q => kf (fun z => q (hz.mpr z)) p e R s m args below meth c H locs dC dI ad cA A C D ol (oks_t os) ls hl)
theorem EV_goto {off : Int} {tgt : Nat} (hd : decode b pc = .ok (.goto off, 3)) (ht : (pc : Int) + off = (tgt : Int)) (k : EV l b own nL ret d tgt lv st w K) : EV l b own nL ret d pc lv (st) w K := by
  intro p e R s m args below meth c H locs dC dI ad cA A C D ol os ls hl
  exact lv_goto C.1 C.2.1 hd ht (k p e R s m args below meth c H locs dC dI ad cA A C D ol os ls hl)
theorem cv_c1 {ad : Nat → Nat} {v : AV} (h : isL v = false) : (cv ad v).category = 1 := by
  rcases v with x | n | k
  · rfl
  · cases h
  · rfl
theorem EV_dup {v : AV} (hd : decode b pc = .ok (.dup, 1)) (hv : isL v = false) (k : EV l b own nL ret d (pc + 1) lv (v :: v :: st) w K) : EV l b own nL ret d pc lv (v :: st) w K := by
  intro p e R s m args below meth c H locs dC dI ad cA A C D ol os ls hl
  exact lv_dup C.1 C.2.1 hd (cv_c1 hv) (k p e R s m args below meth c H locs dC dI ad cA A C D ol (oks_c (oks_h os) os) ls hl)
theorem EV_pop {v : AV} (hd : decode b pc = .ok (.pop, 1)) (hv : isL v = false) (k : EV l b own nL ret d (pc + 1) lv (st) w K) : EV l b own nL ret d pc lv (v :: st) w K := by
  intro p e R s m args below meth c H locs dC dI ad cA A C D ol os ls hl
  exact lv_pop C.1 C.2.1 hd (cv_c1 hv) (k p e R s m args below meth c H locs dC dI ad cA A C D ol (oks_t os) ls hl)
theorem EV_dup2 {v u : AV} (hd : decode b pc = .ok (.dup2, 1)) (hv : isL v = false) (hu : isL u = false) (k : EV l b own nL ret d (pc + 1) lv (v :: u :: v :: u :: st) w K) : EV l b own nL ret d pc lv (v :: u :: st) w K := by
  intro p e R s m args below meth c H locs dC dI ad cA A C D ol os ls hl
  exact lv_dup2_11 C.1 C.2.1 hd (cv_c1 hv) (cv_c1 hu) (k p e R s m args below meth c H locs dC dI ad cA A C D ol (oks_c (oks_h os) (oks_c (oks_h (oks_t os)) os)) ls hl)
end EVR
end
section
/-! rows of EV: fields, arrays, wide numbers, returns (printed by wip/gen/heap.py; the wb_ rows are the kit's own, pasted) -/
theorem wb_tb (n : Nat) : (lN n).toBitVec = BitVec.ofNat 64 n := rfl
theorem wb_inj {a b : Int64} (h : a.toBitVec = b.toBitVec) : a = b := Int64.toBitVec_inj.mp h
theorem wb_tn {n : Nat} (h : n < 2 ^ 64) : (lN n).toBitVec.toNat = n := by rw [wb_tb, BitVec.toNat_ofNat, Nat.mod_eq_of_lt h]
theorem wb_of (x : Int64) : ∃ n, n < 2 ^ 64 ∧ x = lN n := ⟨x.toBitVec.toNat, x.toBitVec.isLt, wb_inj (by rw [wb_tb]; simp)⟩
theorem wb_of32 (x : Int32) : ∃ n, n < 2 ^ 32 ∧ x = nI n := ⟨x.toBitVec.toNat, x.toBitVec.isLt, Int32.toBitVec_inj.mp (by show _ = BitVec.ofNat 32 _; simp)⟩
theorem wb_c : ∀ k, k < 64 → ((nI k).toInt64 &&& 63) = lN k := by decide +kernel
theorem wb_cu : ∀ k, k < 64 → ((nI k).toInt64.toUInt64 &&& Int64.toUInt64 63) = UInt64.ofNat k := by decide +kernel
theorem wb_sm : ∀ k, k < 64 → (BitVec.ofNat 64 k).smod 64 = BitVec.ofNat 64 k := by decide +kernel
theorem wb_pw {a b : Nat} (h : a ≤ b) : 2 ^ b = 2 ^ a * 2 ^ (b - a) := by rw [← Nat.pow_add]; congr 1; omega
theorem wb_lt2 {a b : Nat} (h : a < b) : 2 ^ a < 2 ^ b := Nat.pow_lt_pow_right (by decide) h
theorem wb_mod (n : Nat) : lN n = lN (n % 2 ^ 64) := wb_inj (by rw [wb_tb, wb_tb]; apply BitVec.eq_of_toNat_eq; rw [BitVec.toNat_ofNat, BitVec.toNat_ofNat, Nat.mod_mod])
theorem wb_shr {n k : Nat} (hn : n < 2 ^ 64) (hk : k < 64) : ((lN n).toUInt64 >>> ((nI k).toInt64.toUInt64 &&& Int64.toUInt64 63)).toInt64 = lN (n / 2 ^ k) := by
  rw [wb_cu k hk]
  apply wb_inj
  apply BitVec.eq_of_toNat_eq
  show ((lN n).toUInt64 >>> UInt64.ofNat k).toNat = (BitVec.ofNat 64 _).toNat
  have h1 : (UInt64.ofNat k).toNat = k := by
    show (BitVec.ofNat 64 k).toNat = k
    rw [BitVec.toNat_ofNat, Nat.mod_eq_of_lt (by omega)]
  have h2 : (lN n).toUInt64.toNat = n := wb_tn hn
  rw [UInt64.toNat_shiftRight, h1, h2, Nat.mod_eq_of_lt hk, Nat.shiftRight_eq_div_pow, BitVec.toNat_ofNat, Nat.mod_eq_of_lt (Nat.lt_of_le_of_lt (Nat.div_le_self _ _) hn)]
theorem wb_shl (n : Nat) {k : Nat} (hk : k < 64) : lN n <<< ((nI k).toInt64 &&& 63) = lN (n * 2 ^ k) := by
  rw [wb_c k hk]
  apply wb_inj
  rw [Int64.toBitVec_shiftLeft, wb_tb, wb_tb, wb_tb, wb_sm k hk]
  apply BitVec.eq_of_toNat_eq
  rw [BitVec.shiftLeft_eq', BitVec.toNat_shiftLeft, BitVec.toNat_ofNat, BitVec.toNat_ofNat, BitVec.toNat_ofNat, Nat.mod_eq_of_lt (show k < 2 ^ 64 by omega), Nat.shiftLeft_eq, Nat.mul_mod, Nat.mod_mod, ← Nat.mul_mod]
theorem wb_and {a b : Nat} (ha : a < 2 ^ 64) (hb : b < 2 ^ 64) : lN a &&& lN b = lN (a &&& b) := by
  apply wb_inj
  rw [Int64.toBitVec_and, wb_tb, wb_tb, wb_tb]
  apply BitVec.eq_of_toNat_eq
  rw [BitVec.toNat_and, BitVec.toNat_ofNat, BitVec.toNat_ofNat, BitVec.toNat_ofNat, Nat.mod_eq_of_lt ha, Nat.mod_eq_of_lt hb, Nat.mod_eq_of_lt (Nat.and_lt_two_pow _ hb)]
theorem wb_or {a b : Nat} (ha : a < 2 ^ 64) (hb : b < 2 ^ 64) : lN a ||| lN b = lN (a ||| b) := by
  apply wb_inj
  rw [Int64.toBitVec_or, wb_tb, wb_tb, wb_tb]
  apply BitVec.eq_of_toNat_eq
  rw [BitVec.toNat_or, BitVec.toNat_ofNat, BitVec.toNat_ofNat, BitVec.toNat_ofNat, Nat.mod_eq_of_lt ha, Nat.mod_eq_of_lt hb, Nat.mod_eq_of_lt (Nat.or_lt_two_pow ha hb)]
def updI (f : Int → Int) (i v : Int) : Int → Int := fun j => if j = i then v else f j
def updN (f : Int → Nat) (i : Int) (v : Nat) : Int → Nat := fun j => if j = i then v else f j
/-- arithmetic shift of a long, by its bits -/
def sar (n k : Nat) : Nat := ((BitVec.ofNat 64 n).sshiftRight k).toNat
theorem lnN (n : Nat) : Int64.ofNat n = lN n := rfl
theorem nn {x : Int} (h : 0 ≤ x) : ∃ n : Nat, x = (n : Int) := ⟨x.toNat, by omega⟩
theorem oi_div {x y : Int} (hx : R32 x) (hy : R32 y) (h0 : 0 ≤ x) (h1 : 0 < y) : Int32.ofInt x / Int32.ofInt y = Int32.ofInt (x / y) := by
  obtain ⟨a, rfl⟩ := nn h0
  obtain ⟨c, rfl⟩ := nn (Int.le_of_lt h1)
  have e : ((a : Int) / (c : Int)) = ((a / c : Nat) : Int) := by simp
  rw [e, oi_nat, oi_nat, oi_nat]
  exact pk_div (by have := hx.2; omega) (by omega) (by have := hy.2; omega)
theorem oi_rem {x y : Int} (hx : R32 x) (hy : R32 y) (h0 : 0 ≤ x) (h1 : 0 < y) : Int32.ofInt x - Int32.ofInt x / Int32.ofInt y * Int32.ofInt y = Int32.ofInt (x % y) := by
  obtain ⟨a, rfl⟩ := nn h0
  obtain ⟨c, rfl⟩ := nn (Int.le_of_lt h1)
  have e : ((a : Int) % (c : Int)) = ((a % c : Nat) : Int) := by simp
  rw [e, oi_nat, oi_nat, oi_nat]
  exact pk_rem (by have := hx.2; omega) (by omega) (by have := hy.2; omega)
theorem oi_ne0 {y : Int} (hy : R32 y) (h1 : 0 < y) : ¬ Int32.ofInt y = 0 := by
  rw [← oi_0, oi_eq hy R32_0]; omega
theorem sh_l : ∀ n, n < 32 → ((nI n &&& 31).toBitVec.smod 32).toNat = n := by decide +kernel
theorem oi_shl {x s : Int} (h0 : 0 ≤ x) (hs : 0 ≤ s ∧ s < 32) (h : x * 2 ^ s.toNat < 4294967296) : Int32.ofInt x <<< (Int32.ofInt s &&& 31) = Int32.ofInt (x * 2 ^ s.toNat) := by
  obtain ⟨a, rfl⟩ := nn h0
  obtain ⟨c, rfl⟩ := nn hs.1
  have e : ((a : Int) * 2 ^ (c : Int).toNat) = ((a * 2 ^ c : Nat) : Int) := by simp
  rw [e] at h ⊢
  rw [oi_nat, oi_nat, oi_nat]
  exact pk_shlN _ c (sh_l c (by omega)) (by omega)
theorem oi_shr {x s : Int} (hx : R32 x) (h0 : 0 ≤ x) (hs : 0 ≤ s ∧ s < 32) : Int32.ofInt x >>> (Int32.ofInt s &&& 31) = Int32.ofInt (x / 2 ^ s.toNat) := by
  obtain ⟨a, rfl⟩ := nn h0
  obtain ⟨c, rfl⟩ := nn hs.1
  have e : ((a : Int) / 2 ^ (c : Int).toNat) = ((a / 2 ^ c : Nat) : Int) := by simp
  rw [e, oi_nat, oi_nat, oi_nat]
  exact pk_shrN (by have := hx.2; omega) _ c (sh_l c (by omega))
theorem oi_and {x y : Int} (h0 : 0 ≤ x) (h1 : 0 ≤ y) : Int32.ofInt x &&& Int32.ofInt y = Int32.ofInt ((x.toNat &&& y.toNat : Nat) : Int) := by
  obtain ⟨a, rfl⟩ := nn h0
  obtain ⟨c, rfl⟩ := nn h1
  rw [oi_nat, oi_nat, oi_nat]
  apply Int32.toBitVec_inj.mp
  apply BitVec.eq_of_toNat_eq
  simp [nI, Nat.and_mod_two_pow]
theorem oi_or {x y : Int} (h0 : 0 ≤ x) (h1 : 0 ≤ y) : Int32.ofInt x ||| Int32.ofInt y = Int32.ofInt ((x.toNat ||| y.toNat : Nat) : Int) := by
  obtain ⟨a, rfl⟩ := nn h0
  obtain ⟨c, rfl⟩ := nn h1
  rw [oi_nat, oi_nat, oi_nat]
  apply Int32.toBitVec_inj.mp
  apply BitVec.eq_of_toNat_eq
  simp [nI, Nat.or_mod_two_pow]
theorem R32_and {x y : Int} (hx : R32 x) (h0 : 0 ≤ x) : R32 ((x.toNat &&& y.toNat : Nat) : Int) := by
  have h := Nat.and_le_left (n := x.toNat) (m := y.toNat)
  have := hx.2
  constructor <;> omega
theorem R32_or {x y : Int} (hx : R32 x) (hy : R32 y) (h0 : 0 ≤ x) (h1 : 0 ≤ y) : R32 ((x.toNat ||| y.toNat : Nat) : Int) := by
  have h := Nat.or_lt_two_pow (n := 31) (x := x.toNat) (y := y.toNat) (by have := hx.2; omega) (by have := hy.2; omega)
  constructor <;> omega
theorem R32_div {x y : Int} (hx : R32 x) (h0 : 0 ≤ x) (h1 : 0 < y) : R32 (x / y) := by
  have h2 : x / y ≤ x := Int.ediv_le_self y h0
  have h3 : 0 ≤ x / y := Int.ediv_nonneg h0 (Int.le_of_lt h1)
  have := hx.2
  constructor <;> omega
theorem R32_mod {x y : Int} (hy : R32 y) (h1 : 0 < y) : R32 (x % y) := by
  have h2 := Int.emod_nonneg x (show y ≠ 0 by omega)
  have h3 := Int.emod_lt_of_pos x h1
  have := hy.2
  constructor <;> omega
theorem oi_i2l {x : Int} (hx : R32 x) (h0 : 0 ≤ x) : (Int32.ofInt x).toInt64 = Int64.ofNat x.toNat := by
  obtain ⟨a, rfl⟩ := nn h0
  rw [oi_nat, nI_l (by have := hx.2; omega)]; rfl
theorem oi_l2i {n : Nat} (h : n < 2147483648) : (Int64.ofNat n).toInt32 = Int32.ofInt (n : Int) := by
  rw [oi_nat, lnN, lN_i]
theorem oi_i2c {x : Int} (h : 0 ≤ x ∧ x < 65536) : ((Int32.ofInt x).toUInt32 % 65536).toInt32 = Int32.ofInt x := by
  obtain ⟨a, rfl⟩ := nn h.1
  rw [oi_nat, pk_char, pk_tn (by omega), Nat.mod_eq_of_lt (by omega)]
theorem oi_nar {x : Int} (h : 0 ≤ x ∧ x < 65536) : vp_nar .char (Int32.ofInt x) = Int32.ofInt x := by
  obtain ⟨a, rfl⟩ := nn h.1
  rw [oi_nat]
  have := (pk_charN (q := a) (by omega)).1
  simp only [vp_nar, this]
theorem oi_lushr {n : Nat} {s : Int} (hn : n < 18446744073709551616) (hs : 0 ≤ s ∧ s < 64) : ((Int64.ofNat n).toUInt64 >>> ((Int32.ofInt s).toInt64.toUInt64 &&& Int64.toUInt64 63)).toInt64 = Int64.ofNat (n / 2 ^ s.toNat) := by
  obtain ⟨c, rfl⟩ := nn hs.1
  rw [oi_nat, lnN, lnN]
  exact wb_shr hn (by omega)
theorem oi_lshl {n : Nat} {s : Int} (hs : 0 ≤ s ∧ s < 64) : (Int64.ofNat n) <<< ((Int32.ofInt s).toInt64 &&& 63) = Int64.ofNat (n * 2 ^ s.toNat) := by
  obtain ⟨c, rfl⟩ := nn hs.1
  rw [oi_nat, lnN, lnN]
  exact wb_shl n (by omega)
theorem oi_lshr {n : Nat} {s : Int} (hs : 0 ≤ s ∧ s < 64) : (Int64.ofNat n) >>> ((Int32.ofInt s).toInt64 &&& 63) = Int64.ofNat (sar n s.toNat) := by
  obtain ⟨c, rfl⟩ := nn hs.1
  rw [oi_nat, wb_c c (by omega)]
  apply Int64.toBitVec_inj.mp
  apply BitVec.eq_of_toNat_eq
  rw [Int64.toBitVec_shiftRight, lnN, wb_tb, wb_tb, wb_sm c (by omega)]
  simp [sar, lN]
  rw [Nat.mod_eq_of_lt (a := c) (by omega)]
theorem sar_lt (n k : Nat) : sar n k < 18446744073709551616 := BitVec.isLt _
theorem arr_upd {f : Int → Int} {i v : Int} (h0 : 0 ≤ i) : upd (fun j : Nat => Int32.ofInt (f (j : Int))) i.toNat (Int32.ofInt v) = fun j : Nat => Int32.ofInt (updI f i v (j : Int)) := by
  funext j
  by_cases hj : j = i.toNat
  · subst hj
    rw [pk_us, Int.toNat_of_nonneg h0]
    simp [updI]
  · rw [pk_un hj, updI, if_neg (by omega)]
theorem arr_updN {f : Int → Nat} {i : Int} {v : Nat} (h0 : 0 ≤ i) : vp_updL (fun j : Nat => Int64.ofNat (f (j : Int))) i.toNat (Int64.ofNat v) = fun j : Nat => Int64.ofNat (updN f i v (j : Int)) := by
  funext j
  by_cases hj : j = i.toNat
  · subst hj
    rw [pk_uLs, Int.toNat_of_nonneg h0]
    simp [updN]
  · rw [pk_uLn hj, updN, if_neg (by omega)]
theorem okI_upd {f : Int → Int} {i v : Int} (h : ∀ j, R32 (f j)) (hv : R32 v) : ∀ j, R32 (updI f i v j) := fun j => by
  unfold updI
  split
  · exact hv
  · exact h j
theorem okN_upd {f : Int → Nat} {i : Int} {v : Nat} (h : ∀ j, f j < 18446744073709551616) (hv : v < 18446744073709551616) : ∀ j, updN f i v j < 18446744073709551616 := fun j => by
  unfold updN
  split
  · exact hv
  · exact h j
theorem mem_set {fs : List AV} {j : Nat} {v : AV} (h : ∀ x ∈ fs, okv x) (hv : okv v) : ∀ x ∈ fs.set j v, okv x := fun x hx => by
  rcases List.mem_or_eq_of_mem_set hx with h1 | rfl
  · exact h x h1
  · exact hv
theorem nf_int (ad : Nat → Nat) (x : Int) : narrow .int (cv ad (vI x)) = cv ad (vI x) ∧ fits .int (cv ad (vI x)) = true := ⟨rfl, rfl⟩
theorem nf_long (ad : Nat → Nat) (n : Nat) : narrow .long (cv ad (vL n)) = cv ad (vL n) ∧ fits .long (cv ad (vL n)) = true := ⟨rfl, rfl⟩
theorem nf_bool (ad : Nat → Nat) {x : Int} (h : x = 0 ∨ x = 1) : narrow .boolean (cv ad (vI x)) = cv ad (vI x) ∧ fits .boolean (cv ad (vI x)) = true := by
  rcases h with rfl | rfl
  · exact ⟨(by decide +kernel : narrow .boolean (.int (Int32.ofInt 0)) = .int (Int32.ofInt 0)), (by decide +kernel : fits .boolean (.int (Int32.ofInt 0)) = true)⟩
  · exact ⟨(by decide +kernel : narrow .boolean (.int (Int32.ofInt 1)) = .int (Int32.ofInt 1)), (by decide +kernel : fits .boolean (.int (Int32.ofInt 1)) = true)⟩
section EVH
variable {l : Launch} {b : ByteArray} {own : String} {nL : Nat} {ret : Option FieldType} {d pc : Nat} {lv : List (Nat × AV)} {st : List AV} {w : List AC} {K : Option AV → List AC → Prop}
theorem EV_idiv {x y : Int} (hd : decode b pc = .ok (.idiv, 1)) (h0 : 0 ≤ x) (h1 : 0 < y) (k : EV l b own nL ret d (pc + 1) lv (vI (x / y) :: st) w K) : EV l b own nL ret d pc lv (vI y :: vI x :: st) w K := by
  intro p e R s m args below meth c H locs dC dI ad cA A C D ol os ls hl
  have hx : R32 x := oks_h (oks_t os)
  have hy : R32 y := oks_h os
  refine lv_idiv C.1 C.2.1 hd (oi_ne0 hy h1) ?_
  rw [oi_div hx hy h0 h1]
  exact k p e R s m args below meth c H locs dC dI ad cA A C D ol (oks_c (R32_div hx h0 h1) (oks_t (oks_t os))) ls hl
theorem EV_irem {x y : Int} (hd : decode b pc = .ok (.irem, 1)) (h0 : 0 ≤ x) (h1 : 0 < y) (k : EV l b own nL ret d (pc + 1) lv (vI (x % y) :: st) w K) : EV l b own nL ret d pc lv (vI y :: vI x :: st) w K := by
  intro p e R s m args below meth c H locs dC dI ad cA A C D ol os ls hl
  have hx : R32 x := oks_h (oks_t os)
  have hy : R32 y := oks_h os
  refine lv_irem C.1 C.2.1 hd (oi_ne0 hy h1) ?_
  rw [oi_rem hx hy h0 h1]
  exact k p e R s m args below meth c H locs dC dI ad cA A C D ol (oks_c (R32_mod hy h1) (oks_t (oks_t os))) ls hl
theorem EV_ishl {x y : Int} (hd : decode b pc = .ok (.ishl, 1)) (h0 : 0 ≤ x) (h1 : 0 ≤ y ∧ y < 32) (hr : R32 (x * 2 ^ y.toNat)) (k : EV l b own nL ret d (pc + 1) lv (vI (x * 2 ^ y.toNat) :: st) w K) : EV l b own nL ret d pc lv (vI y :: vI x :: st) w K := by
  intro p e R s m args below meth c H locs dC dI ad cA A C D ol os ls hl
  refine lv_ishl C.1 C.2.1 hd ?_
  rw [oi_shl h0 h1 (by have := hr.2; omega)]
  exact k p e R s m args below meth c H locs dC dI ad cA A C D ol (oks_c hr (oks_t (oks_t os))) ls hl
theorem EV_ishr {x y : Int} (hd : decode b pc = .ok (.ishr, 1)) (h0 : 0 ≤ x) (h1 : 0 ≤ y ∧ y < 32) (k : EV l b own nL ret d (pc + 1) lv (vI (x / 2 ^ y.toNat) :: st) w K) : EV l b own nL ret d pc lv (vI y :: vI x :: st) w K := by
  intro p e R s m args below meth c H locs dC dI ad cA A C D ol os ls hl
  have hx : R32 x := oks_h (oks_t os)
  refine lv_ishr C.1 C.2.1 hd ?_
  rw [oi_shr hx h0 h1]
  exact k p e R s m args below meth c H locs dC dI ad cA A C D ol (oks_c (R32_div hx h0 (Int.pow_pos (by decide))) (oks_t (oks_t os))) ls hl
theorem EV_iand {x y : Int} (hd : decode b pc = .ok (.iand, 1)) (h0 : 0 ≤ x) (h1 : 0 ≤ y) (k : EV l b own nL ret d (pc + 1) lv (vI ((x.toNat &&& y.toNat : Nat) : Int) :: st) w K) : EV l b own nL ret d pc lv (vI y :: vI x :: st) w K := by
  intro p e R s m args below meth c H locs dC dI ad cA A C D ol os ls hl
  have hx : R32 x := oks_h (oks_t os)
  have hy : R32 y := oks_h os
  refine lv_iand C.1 C.2.1 hd ?_
  rw [oi_and h0 h1]
  exact k p e R s m args below meth c H locs dC dI ad cA A C D ol (oks_c (R32_and hx h0) (oks_t (oks_t os))) ls hl
theorem EV_ior {x y : Int} (hd : decode b pc = .ok (.ior, 1)) (h0 : 0 ≤ x) (h1 : 0 ≤ y) (k : EV l b own nL ret d (pc + 1) lv (vI ((x.toNat ||| y.toNat : Nat) : Int) :: st) w K) : EV l b own nL ret d pc lv (vI y :: vI x :: st) w K := by
  intro p e R s m args below meth c H locs dC dI ad cA A C D ol os ls hl
  have hx : R32 x := oks_h (oks_t os)
  have hy : R32 y := oks_h os
  refine lv_ior C.1 C.2.1 hd ?_
  rw [oi_or h0 h1]
  exact k p e R s m args below meth c H locs dC dI ad cA A C D ol (oks_c (R32_or hx hy h0 h1) (oks_t (oks_t os))) ls hl
theorem EV_i2l {x : Int} (hd : decode b pc = .ok (.i2l, 1)) (h0 : 0 ≤ x) (k : EV l b own nL ret d (pc + 1) lv (vL x.toNat :: st) w K) : EV l b own nL ret d pc lv (vI x :: st) w K := by
  intro p e R s m args below meth c H locs dC dI ad cA A C D ol os ls hl
  have hx : R32 x := oks_h os
  exact lv_i2l C.1 C.2.1 hd (oi_i2l hx h0) (k p e R s m args below meth c H locs dC dI ad cA A C D ol (oks_c (v := vL x.toNat) (show x.toNat < 18446744073709551616 by have := hx.2; omega) (oks_t os)) ls hl)
theorem EV_l2i {n : Nat} (hd : decode b pc = .ok (.l2i, 1)) (h0 : n < 2147483648) (k : EV l b own nL ret d (pc + 1) lv (vI (n : Int) :: st) w K) : EV l b own nL ret d pc lv (vL n :: st) w K := by
  intro p e R s m args below meth c H locs dC dI ad cA A C D ol os ls hl
  exact lv_l2i C.1 C.2.1 hd (oi_l2i h0) (k p e R s m args below meth c H locs dC dI ad cA A C D ol (oks_c (v := vI (n : Int)) (show R32 (n : Int) from ⟨by omega, by omega⟩) (oks_t os)) ls hl)
theorem EV_i2c {x : Int} (hd : decode b pc = .ok (.i2c, 1)) (h0 : 0 ≤ x ∧ x < 65536) (k : EV l b own nL ret d (pc + 1) lv (vI x :: st) w K) : EV l b own nL ret d pc lv (vI x :: st) w K := by
  intro p e R s m args below meth c H locs dC dI ad cA A C D ol os ls hl
  exact lv_i2c C.1 C.2.1 hd (oi_i2c h0) (k p e R s m args below meth c H locs dC dI ad cA A C D ol os ls hl)
theorem EV_lushr {n : Nat} {y : Int} (hd : decode b pc = .ok (.lushr, 1)) (h1 : 0 ≤ y ∧ y < 64) (k : EV l b own nL ret d (pc + 1) lv (vL (n / 2 ^ y.toNat) :: st) w K) : EV l b own nL ret d pc lv (vI y :: vL n :: st) w K := by
  intro p e R s m args below meth c H locs dC dI ad cA A C D ol os ls hl
  have hn : n < 18446744073709551616 := oks_h (oks_t os)
  exact lv_lushr C.1 C.2.1 hd (oi_lushr hn h1) (k p e R s m args below meth c H locs dC dI ad cA A C D ol (oks_c (v := vL (n / 2 ^ y.toNat)) (Nat.lt_of_le_of_lt (Nat.div_le_self _ _) hn) (oks_t (oks_t os))) ls hl)
theorem EV_lshl {n : Nat} {y : Int} (hd : decode b pc = .ok (.lshl, 1)) (h1 : 0 ≤ y ∧ y < 64) (h2 : n * 2 ^ y.toNat < 18446744073709551616) (k : EV l b own nL ret d (pc + 1) lv (vL (n * 2 ^ y.toNat) :: st) w K) : EV l b own nL ret d pc lv (vI y :: vL n :: st) w K := by
  intro p e R s m args below meth c H locs dC dI ad cA A C D ol os ls hl
  exact lv_lshl C.1 C.2.1 hd (oi_lshl h1) (k p e R s m args below meth c H locs dC dI ad cA A C D ol (oks_c (v := vL (n * 2 ^ y.toNat)) h2 (oks_t (oks_t os))) ls hl)
theorem EV_lshr {n : Nat} {y : Int} (hd : decode b pc = .ok (.lshr, 1)) (h1 : 0 ≤ y ∧ y < 64) (k : EV l b own nL ret d (pc + 1) lv (vL (sar n y.toNat) :: st) w K) : EV l b own nL ret d pc lv (vI y :: vL n :: st) w K := by
  intro p e R s m args below meth c H locs dC dI ad cA A C D ol os ls hl
  exact lv_lshr C.1 C.2.1 hd (oi_lshr h1) (k p e R s m args below meth c H locs dC dI ad cA A C D ol (oks_c (v := vL (sar n y.toNat)) (sar_lt _ _) (oks_t (oks_t os))) ls hl)
theorem EV_land {x y : Nat} (hd : decode b pc = .ok (.land, 1)) (k : EV l b own nL ret d (pc + 1) lv (vL (x &&& y) :: st) w K) : EV l b own nL ret d pc lv (vL y :: vL x :: st) w K := by
  intro p e R s m args below meth c H locs dC dI ad cA A C D ol os ls hl
  have hx : x < 18446744073709551616 := oks_h (oks_t os)
  have hy : y < 18446744073709551616 := oks_h os
  refine lv_land C.1 C.2.1 hd ?_
  rw [lnN, lnN, wb_and hx hy]
  exact k p e R s m args below meth c H locs dC dI ad cA A C D ol (oks_c (v := vL (x &&& y)) (Nat.lt_of_le_of_lt Nat.and_le_left hx) (oks_t (oks_t os))) ls hl
theorem EV_lor {x y : Nat} (hd : decode b pc = .ok (.lor, 1)) (k : EV l b own nL ret d (pc + 1) lv (vL (x ||| y) :: st) w K) : EV l b own nL ret d pc lv (vL y :: vL x :: st) w K := by
  intro p e R s m args below meth c H locs dC dI ad cA A C D ol os ls hl
  have hx : x < 18446744073709551616 := oks_h (oks_t os)
  have hy : y < 18446744073709551616 := oks_h os
  refine lv_lor C.1 C.2.1 hd ?_
  rw [lnN, lnN, wb_or hx hy]
  exact k p e R s m args below meth c H locs dC dI ad cA A C D ol (oks_c (v := vL (x ||| y)) (Nat.or_lt_two_pow (n := 64) hx hy) (oks_t (oks_t os))) ls hl
theorem lg_cmp0 {x y : Nat} (hx : x < 18446744073709551616) (hy : y < 18446744073709551616) : lg_cmp (Int64.ofNat x) (Int64.ofNat y) = 0 ↔ x = y := by
  have e : Int64.ofNat x = Int64.ofNat y ↔ x = y := by
    constructor
    · intro h
      have h1 : (lN x).toBitVec.toNat = (lN y).toBitVec.toNat := congrArg (fun z : Int64 => z.toBitVec.toNat) h
      rwa [wb_tn hx, wb_tn hy] at h1
    · intro h; rw [h]
  rw [← e]
  unfold lg_cmp
  simp only [gt_iff_lt, Int64.lt_iff_toInt_lt, ← Int64.toInt_inj]
  repeat' split
  all_goals (constructor <;> intro hh <;> first | omega | decide | exact absurd hh (by decide))
theorem EV_lcmp_eq {x y : Nat} {off : Int} {tgt : Nat} (hd : decode b pc = .ok (.lcmp, 1)) (hd2 : decode b (pc + 1) = .ok (.ifCond .eq off, 3)) (ht : ((pc + 1 : Nat) : Int) + off = (tgt : Int)) (kt : x = y → EV l b own nL ret d tgt lv st w K) (kf : ¬ x = y → EV l b own nL ret d (pc + 1 + 3) lv st w K) : EV l b own nL ret d pc lv (vL y :: vL x :: st) w K := by
  intro p e R s m args below meth c H locs dC dI ad cA A C D ol os ls hl
  have hx : x < 18446744073709551616 := oks_h (oks_t os)
  have hy : y < 18446744073709551616 := oks_h os
  have hz := lg_cmp0 hx hy
  refine W.lcmp C.1 C.2.1 hd ?_
  exact lv_if_eq C.1 C.2.1 hd2 ht (fun q => kt (hz.mp q) p e R s m args below meth c H locs dC dI ad cA A C D ol (oks_t (oks_t os)) ls hl) (fun q => kf (fun z => q (hz.mpr z)) p e R s m args below meth c H locs dC dI ad cA A C D ol (oks_t (oks_t os)) ls hl)
theorem EV_lcmp_ne {x y : Nat} {off : Int} {tgt : Nat} (hd : decode b pc = .ok (.lcmp, 1)) (hd2 : decode b (pc + 1) = .ok (.ifCond .ne off, 3)) (ht : ((pc + 1 : Nat) : Int) + off = (tgt : Int)) (kt : ¬ x = y → EV l b own nL ret d tgt lv st w K) (kf : x = y → EV l b own nL ret d (pc + 1 + 3) lv st w K) : EV l b own nL ret d pc lv (vL y :: vL x :: st) w K := by
  intro p e R s m args below meth c H locs dC dI ad cA A C D ol os ls hl
  have hx : x < 18446744073709551616 := oks_h (oks_t os)
  have hy : y < 18446744073709551616 := oks_h os
  have hz := lg_cmp0 hx hy
  refine W.lcmp C.1 C.2.1 hd ?_
  exact lv_if_ne C.1 C.2.1 hd2 ht (fun q => kt (fun z => q (hz.mpr z)) p e R s m args below meth c H locs dC dI ad cA A C D ol (oks_t (oks_t os)) ls hl) (fun q => kf (hz.mp q) p e R s m args below meth c H locs dC dI ad cA A C D ol (oks_t (oks_t os)) ls hl)
theorem EV_get {k idx ci j N : Nat} {Cn : String} {T : u_T} {fs : List AV} {v : AV} (hd : decode b pc = .ok (.getfield idx, 3)) (hw : w[k]? = some (cO ci fs)) (hc : classes[ci]? = some (Cn, T, N)) (hin : ∀ x ∈ u_ws Cn T N, x ∈ Wt) (hj : j < N) (hlk : Cond.fieldLink own idx (T j).1 (T j).2.1 (T j).2.2.1 ∈ Wt) (hv : fs[j]? = some v) (kk : EV l b own nL ret d (pc + 3) lv (v :: st) w K) : EV l b own nL ret d pc lv (vR k :: st) w K := by
  intro p e R s m args below meth c H locs dC dI ad cA A C D ol os ls hl
  have ok : okv v := (D.2.2 _ (List.mem_of_getElem? hw)) v (List.mem_of_getElem? hv)
  exact va_get (D := (dC, dI)) C.1 C.2.1 C.2.2.2.2.2.2.1 hin C.2.2.2.2.2.1 C.2.2.2.2.2.2.2.2.1 D.1 k (wsm_at hw) hc j hj (C.2.2.2.2.2.2.1 _ hlk) (fun _ h => h) (by rw [List.getElem?_map, hv]; rfl) hd (kk p e R s m args below meth c H locs dC dI ad cA A C D ol (oks_c ok (oks_t os)) ls hl)
theorem Qk_len {dC : Nat → ClassId} {dI : Nat → Nat → Nat} {ad : Nat → Nat} {cA : Nat → ClassId} {A : Nat → Prop} {n n' : Nat} {K : Option AV → List AC → Prop} (h : n' = n) : Qk dC dI ad cA A n' K = Qk dC dI ad cA A n K := by rw [h]
theorem Cx0_len {p : Program} {R : Room} {s : State} {m : MethodId} {args : Array Value} {meth : Method} {c : Code} {b : ByteArray} {own : String} {nL : Nat} {ret : Option FieldType} {d : Nat} {dC : Nat → ClassId} {dI : Nat → Nat → Nat} {ad : Nat → Nat} {cA : Nat → ClassId} {A : Nat → Prop} {n n' : Nat} (h : n' = n) (C : Cx0 p R s m args meth c b own nL ret d dC dI ad cA A n) : Cx0 p R s m args meth c b own nL ret d dC dI ad cA A n' := by rw [h]; exact C
theorem EV_set {p : Program} {e : Env} {R : Room} {s : State} {m : MethodId} {args : Array Value} {below : List Frame} {meth : Method} {c : Code} {H1 : Heap} {locs1 : List Loc} {dC : Nat → ClassId} {dI : Nat → Nat → Nat} {ad : Nat → Nat} {cA : Nat → ClassId} {A : Nat → Prop} {ls : Array Slot} {k : Nat} {cl : AC} {w' : List AC} (hw' : w.set k cl = w') (C : Cx0 p R s m args meth c b own nL ret d dC dI ad cA A w.length) (hP : va_P (dC, dI) classes (wsm ad cA (w.set k cl)) H1) (hS : va_S A s.heap H1 locs1) (ow : okw (w.set k cl)) (ol : okl lv) (os : oks st) (hl : lv_has ls nL (lvm ad lv)) (kk : EV l b own nL ret d pc lv st w' K) :
    W p l e R s m args below meth c H1 locs1 0 0 (MQ below (Qk dC dI ad cA A w.length K) args s 0 0 A) (F0 m pc ls (stm ad st)) := by
  subst hw'
  have hlen : (w.set k cl).length = w.length := List.length_set
  have h := kk p e R s m args below meth c H1 locs1 dC dI ad cA A (Cx0_len hlen C) ⟨hP, hS, ow⟩ ol os ls hl
  rw [hlen] at h
  exact h
theorem EV_put {k idx ci j N : Nat} {Cn : String} {T : u_T} {ty0 : Nat → FieldType} {ty : FieldType} {fs : List AV} {v : AV} {w' : List AC} (hd : decode b pc = .ok (.putfield idx, 3)) (hw : w[k]? = some (cO ci fs)) (hc : classes[ci]? = some (Cn, T, N)) (hin : ∀ x ∈ u_ws Cn T N, x ∈ Wt) (hty : ∀ k, k < N → parseFieldDescriptor (T k).2.2.1 = some (ty0 k)) (hnm : ∀ a, a < N → ∀ b, b < N → a ≠ b → (T a).2.1 ≠ (T b).2.1) (hj : j < N) (hlk : Cond.fieldLink own idx (T j).1 (T j).2.1 (T j).2.2.1 ∈ Wt) (hfin : (T j).2.2.2 = false) (hpd : ty0 j = ty) (hnf : ∀ ad, narrow ty (cv ad v) = cv ad v ∧ fits ty (cv ad v) = true) (hjl : j < fs.length) (hw' : w.set k (cO ci (fs.set j v)) = w') (kk : EV l b own nL ret d (pc + 3) lv st w' K) : EV l b own nL ret d pc lv (v :: vR k :: st) w K := by
  intro p e R s m args below meth c H locs dC dI ad cA A C D ol os ls hl
  have of : ∀ x ∈ fs, okv x := D.2.2 _ (List.mem_of_getElem? hw)
  have e1 : (fs.map (cv ad)).set j (cv ad v) = (fs.set j v).map (cv ad) := by rw [List.map_set]
  have e2 : (wsm ad cA w).set k (ad k, .inr (ci, (fs.map (cv ad)).set j (cv ad v))) = wsm ad cA (w.set k (cO ci (fs.set j v))) := by rw [e1]; exact wsm_set (c := cO ci (fs.set j v))
  refine va_put (D := (dC, dI)) C.1 C.2.1 C.2.2.2.2.2.2.1 hin ty0 hty hnm C.2.2.2.2.2.1 C.2.2.2.2.2.2.2.2.1 D.1 (adk_D C.2.2.2.2.2.2.2.2.2.1) D.2.1 k (wsm_at hw) hc j hj (C.2.2.2.2.2.2.1 _ hlk) (fun _ h => h) hfin (by rw [hty j hj, hpd]) (hnf ad).1 (hnf ad).2 (by rw [List.length_map]; exact hjl) hd (fun H1 locs1 hP hD hS => ?_)
  rw [e2] at hP
  exact EV_set hw' C hP hS (okw_set D.2.2 (mem_set of (oks_h os))) ol (oks_t (oks_t os)) hl kk
theorem EV_iald {k n : Nat} {f : Int → Int} {i : Int} (hd : decode b pc = .ok (.iaload, 1)) (hw : w[k]? = some (cI 0 n f)) (h : 0 ≤ i ∧ i < n) (kk : EV l b own nL ret d (pc + 1) lv (vI (f i) :: st) w K) : EV l b own nL ret d pc lv (vI i :: vR k :: st) w K := by
  intro p e R s m args below meth c H locs dC dI ad cA A C D ol os ls hl
  have hi : R32 i := oks_h os
  have ok : ∀ j, R32 (f j) := D.2.2 _ (List.mem_of_getElem? hw)
  refine va_iald C.1 C.2.1 C.2.2.2.2.2.2.2.2.1 D.1 k 0 (wsm_at hw) rfl (oi_in hi h.1 h.2) hd ?_
  show W p l e R s m args below meth c H locs 0 0 _ (F0 m (pc + 1) ls (.int (Int32.ofInt (f (((Int32.ofInt i).toNatClampNeg : Nat) : Int))) :: stm ad st))
  rw [oi_clamp hi h.1, Int.toNat_of_nonneg h.1]
  exact kk p e R s m args below meth c H locs dC dI ad cA A C D ol (oks_c (ok i) (oks_t (oks_t os))) ls hl
theorem EV_cald {k n : Nat} {f : Int → Int} {i : Int} (hd : decode b pc = .ok (.caload, 1)) (hw : w[k]? = some (cI 1 n f)) (h : 0 ≤ i ∧ i < n) (kk : EV l b own nL ret d (pc + 1) lv (vI (f i) :: st) w K) : EV l b own nL ret d pc lv (vI i :: vR k :: st) w K := by
  intro p e R s m args below meth c H locs dC dI ad cA A C D ol os ls hl
  have hi : R32 i := oks_h os
  have ok : ∀ j, R32 (f j) := D.2.2 _ (List.mem_of_getElem? hw)
  refine va_cald C.1 C.2.1 C.2.2.2.2.2.2.2.2.1 D.1 k 1 (wsm_at hw) rfl (oi_in hi h.1 h.2) hd ?_
  show W p l e R s m args below meth c H locs 0 0 _ (F0 m (pc + 1) ls (.int (Int32.ofInt (f (((Int32.ofInt i).toNatClampNeg : Nat) : Int))) :: stm ad st))
  rw [oi_clamp hi h.1, Int.toNat_of_nonneg h.1]
  exact kk p e R s m args below meth c H locs dC dI ad cA A C D ol (oks_c (ok i) (oks_t (oks_t os))) ls hl
theorem EV_lald {k n : Nat} {f : Int → Nat} {i : Int} (hd : decode b pc = .ok (.laload, 1)) (hw : w[k]? = some (cL n f)) (h : 0 ≤ i ∧ i < n) (kk : EV l b own nL ret d (pc + 1) lv (vL (f i) :: st) w K) : EV l b own nL ret d pc lv (vI i :: vR k :: st) w K := by
  intro p e R s m args below meth c H locs dC dI ad cA A C D ol os ls hl
  have hi : R32 i := oks_h os
  have ok : ∀ j, f j < 18446744073709551616 := D.2.2 _ (List.mem_of_getElem? hw)
  refine va_lald C.1 C.2.1 C.2.2.2.2.2.2.2.2.1 D.1 k 2 (wsm_at hw) rfl (oi_in hi h.1 h.2) hd ?_
  show W p l e R s m args below meth c H locs 0 0 _ (F0 m (pc + 1) ls (.long (Int64.ofNat (f (((Int32.ofInt i).toNatClampNeg : Nat) : Int))) :: stm ad st))
  rw [oi_clamp hi h.1, Int.toNat_of_nonneg h.1]
  exact kk p e R s m args below meth c H locs dC dI ad cA A C D ol (oks_c (v := vL (f i)) (ok i) (oks_t (oks_t os))) ls hl
theorem EV_iast {k n : Nat} {f : Int → Int} {i x : Int} {w' : List AC} (hd : decode b pc = .ok (.iastore, 1)) (hw : w[k]? = some (cI 0 n f)) (h : 0 ≤ i ∧ i < n) (hw' : w.set k (cI 0 n (updI f i x)) = w') (kk : EV l b own nL ret d (pc + 1) lv st w' K) : EV l b own nL ret d pc lv (vI x :: vI i :: vR k :: st) w K := by
  intro p e R s m args below meth c H locs dC dI ad cA A C D ol os ls hl
  have hi : R32 i := oks_h (oks_t os)
  have ok : ∀ j, R32 (f j) := D.2.2 _ (List.mem_of_getElem? hw)
  refine va_iast C.1 C.2.1 C.2.2.2.2.2.2.2.2.1 D.1 (adk_D C.2.2.2.2.2.2.2.2.2.1) D.2.1 k 0 (wsm_at hw) rfl (oi_in hi h.1 h.2) hd (fun H1 locs1 hP hD hS => ?_)
  rw [oi_clamp hi h.1, arr_upd h.1] at hP
  have e2 : (wsm ad cA w).set k (ad k, .inl (cA 0, n, .inl (fun j : Nat => Int32.ofInt (updI f i x (j : Int))))) = wsm ad cA (w.set k (cI 0 n (updI f i x))) := wsm_set (c := cI 0 n (updI f i x))
  rw [e2] at hP
  exact EV_set hw' C hP hS (okw_set D.2.2 (okI_upd ok (oks_h os))) ol (oks_t (oks_t (oks_t os))) hl kk
theorem EV_cast {k n : Nat} {f : Int → Int} {i x : Int} {w' : List AC} (hd : decode b pc = .ok (.castore, 1)) (hw : w[k]? = some (cI 1 n f)) (h : 0 ≤ i ∧ i < n) (hc : 0 ≤ x ∧ x < 65536) (hw' : w.set k (cI 1 n (updI f i x)) = w') (kk : EV l b own nL ret d (pc + 1) lv st w' K) : EV l b own nL ret d pc lv (vI x :: vI i :: vR k :: st) w K := by
  intro p e R s m args below meth c H locs dC dI ad cA A C D ol os ls hl
  have hi : R32 i := oks_h (oks_t os)
  have ok : ∀ j, R32 (f j) := D.2.2 _ (List.mem_of_getElem? hw)
  refine va_cast C.1 C.2.1 C.2.2.2.2.2.2.2.2.1 D.1 (adk_D C.2.2.2.2.2.2.2.2.2.1) D.2.1 k 1 (wsm_at hw) rfl (oi_in hi h.1 h.2) hd (fun H1 locs1 hP hD hS => ?_)
  rw [oi_clamp hi h.1, oi_nar hc, arr_upd h.1] at hP
  have e2 : (wsm ad cA w).set k (ad k, .inl (cA 1, n, .inl (fun j : Nat => Int32.ofInt (updI f i x (j : Int))))) = wsm ad cA (w.set k (cI 1 n (updI f i x))) := wsm_set (c := cI 1 n (updI f i x))
  rw [e2] at hP
  exact EV_set hw' C hP hS (okw_set D.2.2 (okI_upd ok (oks_h os))) ol (oks_t (oks_t (oks_t os))) hl kk
theorem EV_last {k n : Nat} {f : Int → Nat} {i : Int} {x : Nat} {w' : List AC} (hd : decode b pc = .ok (.lastore, 1)) (hw : w[k]? = some (cL n f)) (h : 0 ≤ i ∧ i < n) (hw' : w.set k (cL n (updN f i x)) = w') (kk : EV l b own nL ret d (pc + 1) lv st w' K) : EV l b own nL ret d pc lv (vL x :: vI i :: vR k :: st) w K := by
  intro p e R s m args below meth c H locs dC dI ad cA A C D ol os ls hl
  have hi : R32 i := oks_h (oks_t os)
  have ok : ∀ j, f j < 18446744073709551616 := D.2.2 _ (List.mem_of_getElem? hw)
  refine va_last C.1 C.2.1 C.2.2.2.2.2.2.2.2.1 D.1 (adk_D C.2.2.2.2.2.2.2.2.2.1) D.2.1 k 2 (wsm_at hw) rfl (oi_in hi h.1 h.2) hd (fun H1 locs1 hP hD hS => ?_)
  rw [oi_clamp hi h.1, arr_updN h.1] at hP
  have e2 : (wsm ad cA w).set k (ad k, .inl (cA 2, n, .inr (.inl (fun j : Nat => Int64.ofNat (updN f i x (j : Int)))))) = wsm ad cA (w.set k (cL n (updN f i x))) := wsm_set (c := cL n (updN f i x))
  rw [e2] at hP
  exact EV_set hw' C hP hS (okw_set D.2.2 (okN_upd ok (oks_h os))) ol (oks_t (oks_t (oks_t os))) hl kk
theorem EV_alen {k t n : Nat} {f : Int → Int} (ht : t < 2) (hd : decode b pc = .ok (.arraylength, 1)) (hw : w[k]? = some (cI t n f)) (hn : n < 2147483648) (kk : EV l b own nL ret d (pc + 1) lv (vI (n : Int) :: st) w K) : EV l b own nL ret d pc lv (vR k :: st) w K := by
  intro p e R s m args below meth c H locs dC dI ad cA A C D ol os ls hl
  have hr : R32 (n : Int) := ⟨by omega, by omega⟩
  rcases (show t = 0 ∨ t = 1 by omega) with rfl | rfl
  · exact va_alen C.1 C.2.1 C.2.2.2.2.2.2.2.2.1 D.1 k 0 (wsm_at hw) (ty := .int) rfl (oi_nat n).symm hd (kk p e R s m args below meth c H locs dC dI ad cA A C D ol (oks_c hr (oks_t os)) ls hl)
  · exact va_alen C.1 C.2.1 C.2.2.2.2.2.2.2.2.1 D.1 k 1 (wsm_at hw) (ty := .char) rfl (oi_nat n).symm hd (kk p e R s m args below meth c H locs dC dI ad cA A C D ol (oks_c hr (oks_t os)) ls hl)
theorem EV_iret {x : Int} {ty : FieldType} (hd : decode b pc = .ok (.ireturn, 1)) (hr : ret = some ty) (hn : narrow ty (.int (Int32.ofInt x)) = .int (Int32.ofInt x)) (hK : K (some (vI x)) w) : EV l b own nL ret d pc lv ([vI x]) w K := by
  intro p e R s m args below meth c H locs dC dI ad cA A C D ol os ls hl
  exact W.zret C.1 C.2.1 (C.2.2.2.1.trans hr) hn (fun t ht hW => ⟨some (vI x), w, rfl, fun v hv => by cases hv; exact oks_h os, D.2.2, rfl, hK, by rw [ht]; exact D.1, D.2.1.F ht⟩) D.2.1.2.2 hd C.2.2.2.2.1
theorem EV_lret {x : Nat} (hd : decode b pc = .ok (.lreturn, 1)) (hr : ret = some .long) (hK : K (some (vL x)) w) : EV l b own nL ret d pc lv ([vL x]) w K := by
  intro p e R s m args below meth c H locs dC dI ad cA A C D ol os ls hl
  exact W.lret C.1 C.2.1 (C.2.2.2.1.trans hr) (fun t ht hW => ⟨some (vL x), w, rfl, fun v hv => by cases hv; exact oks_h os, D.2.2, rfl, hK, by rw [ht]; exact D.1, D.2.1.F ht⟩) D.2.1.2.2 hd C.2.2.2.2.1
theorem EV_vret (hd : decode b pc = .ok (.return_, 1)) (hr : ret = none) (hK : K none w) : EV l b own nL ret d pc lv ([]) w K := by
  intro p e R s m args below meth c H locs dC dI ad cA A C D ol os ls hl
  exact W.vret C.1 C.2.1 (C.2.2.2.1.trans hr) (fun t ht hW => ⟨none, w, rfl, fun v hv => (by cases hv), D.2.2, rfl, hK, by rw [ht]; exact D.1, D.2.1.F ht⟩) D.2.1.2.2 hd C.2.2.2.2.1
theorem EV_aret {k : Nat} {cn : String} (hd : decode b pc = .ok (.areturn, 1)) (hr : ret = some (.object cn)) (hK : K (some (vR k)) w) : EV l b own nL ret d pc lv ([vR k]) w K := by
  intro p e R s m args below meth c H locs dC dI ad cA A C D ol os ls hl
  exact W.aret C.1 C.2.1 (C.2.2.2.1.trans hr) (Or.inl ⟨cn, rfl⟩) (Or.inr ⟨ad k, rfl⟩) (fun t ht hW => ⟨some (vR k), w, rfl, fun v hv => by cases hv; exact trivial, D.2.2, rfl, hK, by rw [ht]; exact D.1, D.2.1.F ht⟩) D.2.1.2.2 hd C.2.2.2.2.1
theorem nw_int (x : Int) : narrow .int (.int (Int32.ofInt x)) = .int (Int32.ofInt x) := rfl
theorem nw_bool {x : Int} (h : x = 0 ∨ x = 1) : narrow .boolean (.int (Int32.ofInt x)) = .int (Int32.ofInt x) := by
  rcases h with rfl | rfl <;> decide +kernel
theorem nw_char {x : Int} (h : 0 ≤ x ∧ x < 65536) : narrow .char (.int (Int32.ofInt x)) = .int (Int32.ofInt x) := by
  obtain ⟨a, rfl⟩ := nn h.1
  rw [oi_nat]
  exact (pk_charN (q := a) (by omega)).1
end EVH
end
section
/-! calls over abstract worlds -/
theorem good_tbl : GoodIn Wt Wt := fun w h => ⟨h, good_of_word (List.mem_filter.mp h).2⟩
theorem good_code {y : MethodName} {b : ByteArray} {nL : Nat} {ret : Option FieldType} (hc : Cond.code y b nL ret ∈ Wt) : GoodIn Wt (.code y b nL ret :: Wt) := fun w h => by
  rcases List.mem_cons.mp h with rfl | h1
  · exact good_tbl _ hc
  · exact good_tbl w h1
theorem SX_at {ad : Nat → Nat} {A B : Nat → Prop} {s U : State} {H : Heap} {locs : List Loc} (h : SX ad A s) (hS : va_S A s.heap H locs) (hU : U.heap = H) (hW : s.WarmedH U.vm) (hB : ∀ q, B q → A q) : SX ad B U := by
  have hk : ∀ a : Nat, a < s.heap.size → ¬ A a → U.heap[a]? = s.heap[a]? := fun a h1 h2 => by rw [hU]; exact hS.2.1 a h1 h2
  refine ⟨h.1.warm hW, ?_, ?_, fun own idx x host hm => va_Nw.warmM hW (h.2.2.2 own idx x host hm)⟩
  · exact vk_S.moved hW.alike ((h.2.1.kept hk).narrow hB)
  · exact (va_Z.moved hW.alike (h.2.2.1.kept hk)).narrow hB
theorem adk_self {ad : Nat → Nat} {A : Nat → Prop} {n : Nat} (h : adk ad A n) : adk ad (fun q => ∃ k, k < n ∧ q = ad k) n := ⟨h.1, fun i hi => ⟨i, hi, rfl⟩⟩
/-- where the arguments lie -/
def lva : Nat → List AV → List (Nat × AV)
  | _, [] => []
  | i, v :: vs => (i, v) :: lva (if isL v = true then i + 2 else i + 1) vs
def lsz : List AV → Nat
  | [] => 0
  | v :: vs => (if isL v = true then 2 else 1) + lsz vs
theorem lva_m {ad : Nat → Nat} : ∀ (as : List AV) (i : Nat), lv_args i (stm ad as) = lvm ad (lva i as)
  | [], _ => rfl
  | v :: vs, i => by
    have h : ((cv ad v).category = 2) = (isL v = true) := by rw [← cv_cat ad v]; simp
    show (i, cv ad v) :: lv_args (if (cv ad v).category = 2 then i + 2 else i + 1) (stm ad vs) = (i, cv ad v) :: lvm ad (lva (if isL v = true then i + 2 else i + 1) vs)
    simp only [h]
    rw [lva_m vs]
theorem lsz_m {ad : Nat → Nat} : ∀ as : List AV, (lg_sl (stm ad as)).length = lsz as
  | [] => rfl
  | v :: vs => by
    have ih := lsz_m (ad := ad) vs
    have h : ((cv ad v).category = 2) = (isL v = true) := by rw [← cv_cat ad v]; simp
    show (((if (cv ad v).category = 2 then [Slot.val (cv ad v), .second] else [.val (cv ad v)]) ++ lg_sl (stm ad vs))).length = (if isL v = true then 2 else 1) + lsz vs
    simp only [h, List.length_append, ih]
    split <;> simp
theorem okl_lva : ∀ (as : List AV) (i : Nat), oks as → okl (lva i as)
  | [], _, _ => fun _ h => by cases h
  | v :: vs, i, h => fun q hq => by
    rcases List.mem_cons.mp hq with rfl | h1
    · exact oks_h h
    · exact okl_lva vs _ (oks_t h) q h1
section CALL
variable {l : Launch} {b : ByteArray} {own : String} {nL : Nat} {ret : Option FieldType} {d pc : Nat} {lv : List (Nat × AV)} {st : List AV} {w : List AC} {K : Option AV → List AC → Prop}
/-- a contract out of a walk from the entry -/
theorem MT_of {y : MethodName} {as : List AV} (hpl : plainName y.cls = true) (hown : y.cls = own) (hen : lsz as ≤ nL) (hlv : lva 0 as = lv) (k : EV l b own nL ret d 0 lv [] w K) : MT l y b nL ret d as w K := by
  intro oa ow dC dI ad cA
  refine Met.ofW (cc := b) (maxL := nL) (ret := ret) hpl rfl ?_
  intro p e s m args below meth c s₁ B hml hv
  obtain ⟨rfl, hP, hK, hA, hX⟩ := hv
  have hts := atoms_spec (ws := .code y b nL ret :: Wt) B.pre
  have hf : s.vm.findClass own = some m.cls := by rw [← hown]; exact findClass_of_methodNamed B.named
  have hl := lv_entry (stm ad as) (n := nL) (by rw [lsz_m]; exact hen)
  rw [lg_entry_eq]
  generalize (lg_sl (stm ad as) ++ List.replicate (nL - (lg_sl (stm ad as)).length) Slot.unset).toArray = ls at hl ⊢
  rw [lva_m, hlv] at hl
  exact k p e _ s m _ below meth c s.heap [] dC dI ad cA (fun q => ∃ k, k < w.length ∧ q = ad k) ⟨B.exec, B.bytes, hml, B.returns, B.notSynchronized, hf, fun x hx => hts x (List.mem_cons_of_mem _ hx), ⟨Nat.le_refl _, Nat.le_refl _⟩, hK, hA, hX⟩ ⟨hP, va_S.rf, ow⟩ (hlv ▸ okl_lva as 0 oa) (fun v hv => by cases hv) ls hl
/-- behind a call -/
theorem EV_back {p : Program} {e : Env} {R : Room} {s : State} {m : MethodId} {args : Array Value} {below : List Frame} {meth : Method} {c : Code} {H : Heap} {locs : List Loc} {dC : Nat → ClassId} {dI : Nat → Nat → Nat} {ad : Nat → Nat} {cA : Nat → ClassId} {A : Nat → Prop} {ls : Array Slot} {st0 : List Value} {av : Array Value}
    (C : Cx0 p R s m args meth c b own nL ret d dC dI ad cA A w.length) (D : Cx1 s dC dI ad cA A H locs w) (ol : okl lv) (os : oks st) (hl : lv_has ls nL (lvm ad lv))
    (hr : va_Run p l e R s m args below meth c H locs 0 0 0 0 (F0 m pc ls st0) (stm ad st) (Qk dC dI ad cA (fun q => ∃ k, k < w.length ∧ q = ad k) w.length (fun r w' => EV l b own nL ret d (pc + 3) lv (r.toList ++ st) w' K) av) (fun q => ∃ k, k < w.length ∧ q = ad k)) :
    W p l e R s m args below meth c H locs 0 0 (MQ below (Qk dC dI ad cA A w.length K) args s 0 0 A) (F0 m pc ls st0) := by
  intro T hT X
  obtain ⟨v, st₀, t, T', L, h0, X', hL, e1, e2, ⟨r, w', hv, hrok, how, hlen, hk, hP, hF⟩, go⟩ := hr T hT X
  have hv' : v = r.map (cv ad) := by cases hv; rfl
  subst hv'
  have hA : ∀ q, (∃ k, k < w.length ∧ q = ad k) → A q := fun q ⟨k, h1, h2⟩ => by rw [h2]; exact C.2.2.2.2.2.2.2.2.2.1.2 k h1
  have hS : va_S A s.heap T'.heap (locs ++ L) := by
    refine ⟨?_, fun q h1 h2 => ?_, fun q hq => ?_⟩
    · rw [e1]; exact Nat.le_trans D.2.1.1 (by have := hF.1; rw [h0] at this; exact this)
    · have h3 := hF.2 q (by rw [h0]; exact Nat.lt_of_lt_of_le h1 D.2.1.1) (fun z => h2 (hA q z))
      rw [e1, h3, h0]
      exact D.2.1.2.1 q h1 h2
    · rcases List.mem_append.mp hq with h | h
      · exact D.2.1.2.2 q h
      · exact hA _ (hL q h)
  have hoks : oks (r.toList ++ st) := fun x hx => by
    rcases List.mem_append.mp hx with h | h
    · exact hrok x (by simpa using h)
    · exact os x h
  have h := hk p e R s m args below meth c T'.heap (locs ++ L) dC dI ad cA A (Cx0_len hlen C) ⟨by rw [e1]; exact hP, hS, how⟩ ol hoks ls hl
  rw [hlen] at h
  obtain ⟨t2, a1, b1⟩ := h T' rfl X'
  refine ⟨t2, go t2 ?_, b1⟩
  have e3 : stm ad (r.toList ++ st) = (r.map (cv ad)).toList ++ stm ad st := by
    cases r <;> simp [stm]
  rw [e3] at a1
  exact a1
theorem PB {dC : Nat → ClassId} {dI : Nat → Nat → Nat} {ad : Nat → Nat} {cA : Nat → ClassId} {av : List Value} {X : Prop} {B : Nat → Prop} : FrameBlind (va_Pc av (fun U => va_P (dC, dI) classes (wsm ad cA w) U.heap ∧ va_K (dC, dI) classes (tyl cA) U ∧ X ∧ SX ad B U)) := fun a U g mk q => by
  obtain ⟨q0, qP, qK, qX, qS⟩ := q
  have e : (U.calling g mk a).vm = U.vm := rfl
  have hh : (U.calling g mk a).heap = U.heap := rfl
  refine ⟨q0, qP, va_K.moved (u := U) (U := U.calling g mk a) (Vm.Alike.refl U.vm) qK, qX, ?_⟩
  exact ⟨vk_R.same e qS.1, vk_S.moved (u := U) (U := U.calling g mk a) (Vm.Alike.refl U.vm) qS.2.1, va_Z.moved (u := U) (U := U.calling g mk a) (Vm.Alike.refl U.vm) qS.2.2.1, fun own idx x host hm => va_Nw.same rfl e.symm (qS.2.2.2 own idx x host hm)⟩
end CALL
end
section
/-! the call rows -/
theorem stm_cat {ad : Nat → Nat} : ∀ st : List AV, ((stm ad st).map fun v => v.category).sum = lsz st
  | [] => rfl
  | v :: vs => by
    have ih := stm_cat (ad := ad) vs
    show (cv ad v).category + ((stm ad vs).map fun v => v.category).sum = (if isL v = true then 2 else 1) + lsz vs
    rw [ih]
    rcases v with x | n | k <;> rfl
theorem good_V {own : String} {idx : Nat} {y : MethodName} {b : ByteArray} {nL : Nat} {ret : Option FieldType} (hl : Cond.methodLink own idx y ∈ Wt) (hi : Cond.instanceMethod y ∈ Wt) (hs : Cond.selects y.cls y y ∈ Wt) (hini : Cond.initialized y.cls ∈ Wt) (hc : Cond.code y b nL ret ∈ Wt) : GoodIn Wt (wsV own idx y.cls y (.code y b nL ret :: Wt)) := fun w h => by
  unfold wsV at h
  rcases List.mem_append.mp h with h | h
  · simp only [List.mem_cons, List.not_mem_nil, or_false] at h
    rcases h with rfl | rfl | rfl | rfl
    · exact good_tbl _ hl
    · exact good_tbl _ hi
    · exact good_tbl _ hs
    · exact good_tbl _ hini
  · exact good_code hc w h
theorem good_S {own : String} {idx : Nat} {y : MethodName} {b : ByteArray} {nL : Nat} {ret : Option FieldType} (hl : Cond.methodLink own idx y ∈ Wt) (hs : Cond.static y ∈ Wt) (hini : Cond.initialized own ∈ Wt) (hc : Cond.code y b nL ret ∈ Wt) : GoodIn Wt (wsS own idx y (.code y b nL ret :: Wt)) := fun w h => by
  unfold wsS at h
  rcases List.mem_append.mp h with h | h
  · simp only [List.mem_cons, List.not_mem_nil, or_false] at h
    rcases h with rfl | rfl | rfl
    · exact good_tbl _ hl
    · exact good_tbl _ hs
    · exact good_tbl _ hini
  · exact good_code hc w h
section CALL2
variable {l : Launch} {b : ByteArray} {own : String} {nL : Nat} {ret : Option FieldType} {d pc : Nat} {lv : List (Nat × AV)} {st stk : List AV} {w : List AC} {K : Option AV → List AC → Prop}
theorem EV_callV {y : MethodName} {b' : ByteArray} {nL' d' idx k ci N : Nat} {ret' : Option FieldType} {T : u_T} {fs as : List AV} (hd : decode b pc = .ok (.invokevirtual idx, 3)) (hl : Cond.methodLink own idx y ∈ Wt) (hi : Cond.instanceMethod y ∈ Wt) (hs : Cond.selects y.cls y y ∈ Wt) (hini : Cond.initialized y.cls ∈ Wt) (hc : Cond.code y b' nL' ret' ∈ Wt) (hw : w[k]? = some (cO ci fs)) (hcl : classes[ci]? = some (y.cls, T, N)) (hpd : y.cls ≠ "java/lang/invoke/MethodHandle" ∧ y.cls ≠ "java/lang/invoke/VarHandle" ∧ (parseMethodDescriptor y.desc).map (fun d => d.parameters.length) = some as.length) (hdd : d' + 1 ≤ d ∧ nL' ≤ 21 ∧ lsz st ≤ 8) (hstk : stk = as.reverse ++ vR k :: st)
    (hM : MT l y b' nL' ret' d' (vR k :: as) w (fun r w' => EV l b own nL ret d (pc + 3) lv (r.toList ++ st) w' K)) : EV l b own nL ret d pc lv stk w K := by
  subst hstk
  intro p e R s m args below meth c H locs dC dI ad cA A C D ol os lss hll
  have os' : oks st := fun x hx => os x (List.mem_append_right _ (List.mem_cons_of_mem _ hx))
  have oa : oks (vR k :: as) := fun x hx => by
    rcases List.mem_cons.mp hx with rfl | h
    · exact trivial
    · exact os x (List.mem_append_left _ (List.mem_reverse.mpr h))
  have hts := C.2.2.2.2.2.2.1
  have hK := C.2.2.2.2.2.2.2.2.1
  have hA := C.2.2.2.2.2.2.2.2.2.1
  have hX := C.2.2.2.2.2.2.2.2.2.2
  have hR := C.2.2.2.2.2.2.2.1
  have hS := D.2.1
  refine EV_back C D ol os' hll (av := (Value.ref (ad k) :: stm ad as).toArray) (va_runV (As := stm ad as) (b := ad k) (C := y.cls) ⟨C.1, C.2.1, C.2.2.1, C.2.2.2.2.2.1, hts⟩ (hM oa D.2.2 dC dI ad cA) (cwV as.length hts (good_V hl hi hs hini hc) rfl rfl rfl ⟨rfl, hpd⟩ ⟨Nat.le_trans hdd.1 hR.1, ?_⟩) ⟨PB, va_recv hK D.1 hcl (wsm_at hw), fun U hU hW => ⟨rfl, by rw [hU]; exact D.1, va_K.moved hW.alike hK, adk_self hA, SX_at hX hS hU hW (fun q ⟨k, h1, h2⟩ => by rw [h2]; exact hA.2 k h1)⟩⟩ rfl (by simp [stm]) hll.1 ?_ ?_ hd ⟨Nat.zero_le _, Nat.zero_le _⟩)
  · have h1 := hR.2
    have h2 : 40 * (d' + 1) ≤ 40 * d := Nat.mul_le_mul_left 40 hdd.1
    show 8 + (nL' + 11) + 40 * d' ≤ R.locals
    omega
  · simp [stm, cv]
  · show 2 * 0 + ((stm ad st).map fun v => v.category).sum ≤ 8
    rw [stm_cat]
    omega
theorem EV_callS {y : MethodName} {b' : ByteArray} {nL' d' idx : Nat} {ret' : Option FieldType} {as : List AV} (hd : decode b pc = .ok (.invokestatic idx, 3)) (hl : Cond.methodLink own idx y ∈ Wt) (hs : Cond.static y ∈ Wt) (hini : Cond.initialized own ∈ Wt) (hc : Cond.code y b' nL' ret' ∈ Wt) (hpd : y.cls = own ∧ y.cls ≠ "java/lang/invoke/MethodHandle" ∧ y.cls ≠ "java/lang/invoke/VarHandle" ∧ (parseMethodDescriptor y.desc).map (fun d => d.parameters.length) = some as.length) (hdd : d' + 1 ≤ d ∧ nL' ≤ 21 ∧ lsz st ≤ 8) (hstk : stk = as.reverse ++ st)
    (hM : MT l y b' nL' ret' d' as w (fun r w' => EV l b own nL ret d (pc + 3) lv (r.toList ++ st) w' K)) : EV l b own nL ret d pc lv stk w K := by
  subst hstk
  intro p e R s m args below meth c H locs dC dI ad cA A C D ol os lss hll
  have os' : oks st := fun x hx => os x (List.mem_append_right _ hx)
  have oa : oks as := fun x hx => os x (List.mem_append_left _ (List.mem_reverse.mpr hx))
  have hts := C.2.2.2.2.2.2.1
  have hK := C.2.2.2.2.2.2.2.2.1
  have hA := C.2.2.2.2.2.2.2.2.2.1
  have hX := C.2.2.2.2.2.2.2.2.2.2
  have hR := C.2.2.2.2.2.2.2.1
  have hS := D.2.1
  refine EV_back C D ol os' hll (av := (stm ad as).toArray) (va_runS (As := stm ad as) ⟨C.1, C.2.1, C.2.2.1, C.2.2.2.2.2.1, hts⟩ (hM oa D.2.2 dC dI ad cA) (cwS as.length hts (good_S hl hs hini hc) rfl rfl rfl hpd ⟨Nat.le_trans hdd.1 hR.1, ?_⟩) ⟨PB, fun U hU hW => ⟨rfl, by rw [hU]; exact D.1, va_K.moved hW.alike hK, adk_self hA, SX_at hX hS hU hW (fun q ⟨k, h1, h2⟩ => by rw [h2]; exact hA.2 k h1)⟩⟩ rfl (by simp [stm]) hll.1 ?_ ?_ hd ⟨Nat.zero_le _, Nat.zero_le _⟩)
  · have h1 := hR.2
    have h2 : 40 * (d' + 1) ≤ 40 * d := Nat.mul_le_mul_left 40 hdd.1
    show 8 + (nL' + 11) + 40 * d' ≤ R.locals
    omega
  · simp [stm]
  · show 2 * 0 + ((stm ad st).map fun v => v.category).sum ≤ 8
    rw [stm_cat]
    omega
theorem EV_callT {y : MethodName} {b' : ByteArray} {nL' d' idx : Nat} {ret' : Option FieldType} {as : List AV} (hd : decode b pc = .ok (.invokestatic idx, 3)) (hl : Cond.methodLink own idx y ∈ Wt) (hs : Cond.static y ∈ Wt) (hini : Cond.initialized y.cls ∈ Wt) (hc : Cond.code y b' nL' ret' ∈ Wt) (hpd : y.cls ≠ "java/lang/invoke/MethodHandle" ∧ y.cls ≠ "java/lang/invoke/VarHandle" ∧ (parseMethodDescriptor y.desc).map (fun d => d.parameters.length) = some as.length) (hdd : d' + 1 ≤ d ∧ nL' ≤ 21 ∧ lsz st ≤ 8) (hstk : stk = as.reverse ++ st)
    (hM : MT l y b' nL' ret' d' as w (fun r w' => EV l b own nL ret d (pc + 3) lv (r.toList ++ st) w' K)) : EV l b own nL ret d pc lv stk w K := by
  subst hstk
  intro p e R s m args below meth c H locs dC dI ad cA A C D ol os lss hll
  have os' : oks st := fun x hx => os x (List.mem_append_right _ hx)
  have oa : oks as := fun x hx => os x (List.mem_append_left _ (List.mem_reverse.mpr hx))
  have hts := C.2.2.2.2.2.2.1
  have hK := C.2.2.2.2.2.2.2.2.1
  have hA := C.2.2.2.2.2.2.2.2.2.1
  have hX := C.2.2.2.2.2.2.2.2.2.2
  have hR := C.2.2.2.2.2.2.2.1
  have hS := D.2.1
  refine EV_back C D ol os' hll (av := (stm ad as).toArray) (va_runS (As := stm ad as) ⟨C.1, C.2.1, C.2.2.1, C.2.2.2.2.2.1, hts⟩ (hM oa D.2.2 dC dI ad cA) ⟨callB_of as.length hts (good_code hc) rfl rfl rfl (hts _ hini) (hts _ hl) hpd ⟨Nat.le_trans hdd.1 hR.1, ?_⟩, hts _ hs⟩ ⟨PB, fun U hU hW => ⟨rfl, by rw [hU]; exact D.1, va_K.moved hW.alike hK, adk_self hA, SX_at hX hS hU hW (fun q ⟨k, h1, h2⟩ => by rw [h2]; exact hA.2 k h1)⟩⟩ rfl (by simp [stm]) hll.1 ?_ ?_ hd ⟨Nat.zero_le _, Nat.zero_le _⟩)
  · have h1 := hR.2
    have h2 : 40 * (d' + 1) ≤ 40 * d := Nat.mul_le_mul_left 40 hdd.1
    show 8 + (nL' + 11) + 40 * d' ≤ R.locals
    omega
  · simp [stm]
  · show 2 * 0 + ((stm ad st).map fun v => v.category).sum ≤ 8
    rw [stm_cat]
    omega
theorem EV_callN {y : MethodName} {host : String} {b' : ByteArray} {nL' d' idx : Nat} {ret' : Option FieldType} {as : List AV} (hd : decode b pc = .ok (.invokestatic idx, 3)) (hl : Cond.methodLinkNest own idx y host ∈ lw_tbl) (hs : Cond.static y ∈ Wt) (hini : Cond.initialized y.cls ∈ Wt) (hc : Cond.code y b' nL' ret' ∈ Wt) (hpd : y.cls ≠ "java/lang/invoke/MethodHandle" ∧ y.cls ≠ "java/lang/invoke/VarHandle" ∧ (parseMethodDescriptor y.desc).map (fun d => d.parameters.length) = some as.length) (hdd : d' + 1 ≤ d ∧ nL' ≤ 21 ∧ lsz st ≤ 8) (hstk : stk = as.reverse ++ st)
    (hM : MT l y b' nL' ret' d' as w (fun r w' => EV l b own nL ret d (pc + 3) lv (r.toList ++ st) w' K)) : EV l b own nL ret d pc lv stk w K := by
  subst hstk
  intro p e R s m args below meth c H locs dC dI ad cA A C D ol os lss hll
  have os' : oks st := fun x hx => os x (List.mem_append_right _ hx)
  have oa : oks as := fun x hx => os x (List.mem_append_left _ (List.mem_reverse.mpr hx))
  have hts := C.2.2.2.2.2.2.1
  have hK := C.2.2.2.2.2.2.2.2.1
  have hA := C.2.2.2.2.2.2.2.2.2.1
  have hX := C.2.2.2.2.2.2.2.2.2.2
  have hR := C.2.2.2.2.2.2.2.1
  have hS := D.2.1
  refine EV_back C D ol os' hll (av := (stm ad as).toArray) (va_runSN (As := stm ad as) ⟨C.1, C.2.1, C.2.2.1, C.2.2.2.2.2.1, hts⟩ (hM oa D.2.2 dC dI ad cA) ⟨va_cnB as.length hts (good_code hc) rfl rfl rfl (hX.2.2.2 own idx y host hl) (hts _ hini) hpd ⟨Nat.le_trans hdd.1 hR.1, ?_⟩, hts _ hs, trivial⟩ ⟨PB, fun U hU hW => ⟨rfl, by rw [hU]; exact D.1, va_K.moved hW.alike hK, adk_self hA, SX_at hX hS hU hW (fun q ⟨k, h1, h2⟩ => by rw [h2]; exact hA.2 k h1)⟩⟩ rfl (by simp [stm]) hll.1 ?_ ?_ hd ⟨Nat.zero_le _, Nat.zero_le _⟩)
  · have h1 := hR.2
    have h2 : 40 * (d' + 1) ≤ 40 * d := Nat.mul_le_mul_left 40 hdd.1
    show 8 + (nL' + 11) + 40 * d' ≤ R.locals
    omega
  · simp [stm]
  · show 2 * 0 + ((stm ad st).map fun v => v.category).sum ≤ 8
    rw [stm_cat]
    omega
end CALL2
end
section
/-! the two worlds: the class's objects and the reference's, by registers (printed by wip/gen/worlds.py) -/
abbrev Ob : Type := (Nat → Int) × (Nat → Int → Int) × (Nat → Nat) × (Nat → Int → Nat)
def sI (o : Ob) (k : Nat) (v : Int) : Ob := (fun j => if j = k then v else o.1 j, o.2)
def sA (o : Ob) (k : Nat) (i v : Int) : Ob := (o.1, fun j => if j = k then updI (o.2.1 k) i v else o.2.1 j, o.2.2)
def sJ (o : Ob) (k : Nat) (v : Nat) : Ob := (o.1, o.2.1, fun j => if j = k then v else o.2.2.1 j, o.2.2.2)
def sL (o : Ob) (k : Nat) (i : Int) (v : Nat) : Ob := (o.1, o.2.1, o.2.2.1, fun j => if j = k then updN (o.2.2.2 k) i v else o.2.2.2 j)
def shC (o0 o1 o2 o3 o4 o5 o6 o7 o8 o9 o10 : Ob) : List AC := [cO 0 [vR 1, vR 7, vR 9, vR 17, vR 38],
  cO 1 [vR 2, vI (o0.1 0)],
  cI 1 240 (o0.2.1 0),
  cO 2 [vR 4, vR 5, vR 6, vI (o1.1 0)],
  cI 1 241 (o1.2.1 0),
  cI 0 241 (o1.2.1 1),
  cL 241 (o1.2.2.2 0),
  cO 3 [vR 8, vI (o2.1 0), vI (o2.1 1), vI (o2.1 2)],
  cL 32 (o2.2.2.2 0),
  cO 4 [vR 10, vR 11, vR 12, vI (o3.1 0), vI (o3.1 1)],
  cI 0 960 (o3.2.1 0),
  cI 0 960 (o3.2.1 1),
  cI 0 24 (o3.2.1 2),
  cO 4 [vR 14, vR 15, vR 16, vI (o4.1 0), vI (o4.1 1)],
  cI 0 240 (o4.2.1 0),
  cI 0 240 (o4.2.1 1),
  cI 0 24 (o4.2.1 2),
  cO 5 [vR 7, vR 3, vR 13, vR 18, vI (o5.1 0), vI (o5.1 1), vI (o5.1 2), vI (o5.1 3), vI (o5.1 4), vI (o5.1 5)],
  cL 8 (o5.2.2.2 0),
  cO 6 [vR 20, vR 21, vR 22, vR 23, vR 24, vR 25, vR 26, vI (o6.1 0), vI (o6.1 1), vI (o6.1 2), vI (o6.1 3)],
  cI 0 2440 (o6.2.1 0),
  cI 0 2440 (o6.2.1 1),
  cI 0 2440 (o6.2.1 2),
  cI 0 2440 (o6.2.1 3),
  cI 0 2440 (o6.2.1 4),
  cI 0 512 (o6.2.1 5),
  cI 0 8 (o6.2.1 6),
  cO 7 [vR 28, vR 29, vR 30, vI (o7.1 0), vI (o7.1 1)],
  cI 0 488 (o7.2.1 0),
  cI 0 488 (o7.2.1 1),
  cI 0 488 (o7.2.1 2),
  cO 8 [vR 32, vR 33, vR 34, vR 35, vR 36, vR 37, vI (o8.1 0)],
  cI 0 60 (o8.2.1 0),
  cI 0 60 (o8.2.1 1),
  cI 0 60 (o8.2.1 2),
  cI 0 60 (o8.2.1 3),
  cI 0 60 (o8.2.1 4),
  cI 0 60 (o8.2.1 5),
  cO 9 [vR 9, vR 7, vR 19, vR 27, vR 31, vR 40, vR 39, vI (o9.1 0), vI (o9.1 1), vI (o9.1 2), vI (o9.1 3), vI (o9.1 4), vI (o9.1 5), vI (o9.1 6)],
  cI 0 8 (o9.2.1 0),
  cO 10 [vR 19, vR 7, vR 41, vR 42, vR 43, vR 44, vI (o10.1 0), vI (o10.1 1), vI (o10.1 2), vI (o10.1 3)],
  cI 1 1200 (o10.2.1 0),
  cI 0 8 (o10.2.1 1),
  cI 0 120 (o10.2.1 2),
  cI 0 512 (o10.2.1 3)]
theorem shC_0 {o0 o1 o2 o3 o4 o5 o6 o7 o8 o9 o10 : Ob} : (shC o0 o1 o2 o3 o4 o5 o6 o7 o8 o9 o10)[0]? = some (cO 0 [vR 1, vR 7, vR 9, vR 17, vR 38]) := rfl
theorem shC_1 {o0 o1 o2 o3 o4 o5 o6 o7 o8 o9 o10 : Ob} : (shC o0 o1 o2 o3 o4 o5 o6 o7 o8 o9 o10)[1]? = some (cO 1 [vR 2, vI (o0.1 0)]) := rfl
theorem shC_2 {o0 o1 o2 o3 o4 o5 o6 o7 o8 o9 o10 : Ob} : (shC o0 o1 o2 o3 o4 o5 o6 o7 o8 o9 o10)[2]? = some (cI 1 240 (o0.2.1 0)) := rfl
theorem shC_3 {o0 o1 o2 o3 o4 o5 o6 o7 o8 o9 o10 : Ob} : (shC o0 o1 o2 o3 o4 o5 o6 o7 o8 o9 o10)[3]? = some (cO 2 [vR 4, vR 5, vR 6, vI (o1.1 0)]) := rfl
theorem shC_4 {o0 o1 o2 o3 o4 o5 o6 o7 o8 o9 o10 : Ob} : (shC o0 o1 o2 o3 o4 o5 o6 o7 o8 o9 o10)[4]? = some (cI 1 241 (o1.2.1 0)) := rfl
theorem shC_5 {o0 o1 o2 o3 o4 o5 o6 o7 o8 o9 o10 : Ob} : (shC o0 o1 o2 o3 o4 o5 o6 o7 o8 o9 o10)[5]? = some (cI 0 241 (o1.2.1 1)) := rfl
theorem shC_6 {o0 o1 o2 o3 o4 o5 o6 o7 o8 o9 o10 : Ob} : (shC o0 o1 o2 o3 o4 o5 o6 o7 o8 o9 o10)[6]? = some (cL 241 (o1.2.2.2 0)) := rfl
theorem shC_7 {o0 o1 o2 o3 o4 o5 o6 o7 o8 o9 o10 : Ob} : (shC o0 o1 o2 o3 o4 o5 o6 o7 o8 o9 o10)[7]? = some (cO 3 [vR 8, vI (o2.1 0), vI (o2.1 1), vI (o2.1 2)]) := rfl
theorem shC_8 {o0 o1 o2 o3 o4 o5 o6 o7 o8 o9 o10 : Ob} : (shC o0 o1 o2 o3 o4 o5 o6 o7 o8 o9 o10)[8]? = some (cL 32 (o2.2.2.2 0)) := rfl
theorem shC_9 {o0 o1 o2 o3 o4 o5 o6 o7 o8 o9 o10 : Ob} : (shC o0 o1 o2 o3 o4 o5 o6 o7 o8 o9 o10)[9]? = some (cO 4 [vR 10, vR 11, vR 12, vI (o3.1 0), vI (o3.1 1)]) := rfl
theorem shC_10 {o0 o1 o2 o3 o4 o5 o6 o7 o8 o9 o10 : Ob} : (shC o0 o1 o2 o3 o4 o5 o6 o7 o8 o9 o10)[10]? = some (cI 0 960 (o3.2.1 0)) := rfl
theorem shC_11 {o0 o1 o2 o3 o4 o5 o6 o7 o8 o9 o10 : Ob} : (shC o0 o1 o2 o3 o4 o5 o6 o7 o8 o9 o10)[11]? = some (cI 0 960 (o3.2.1 1)) := rfl
theorem shC_12 {o0 o1 o2 o3 o4 o5 o6 o7 o8 o9 o10 : Ob} : (shC o0 o1 o2 o3 o4 o5 o6 o7 o8 o9 o10)[12]? = some (cI 0 24 (o3.2.1 2)) := rfl
theorem shC_13 {o0 o1 o2 o3 o4 o5 o6 o7 o8 o9 o10 : Ob} : (shC o0 o1 o2 o3 o4 o5 o6 o7 o8 o9 o10)[13]? = some (cO 4 [vR 14, vR 15, vR 16, vI (o4.1 0), vI (o4.1 1)]) := rfl
theorem shC_14 {o0 o1 o2 o3 o4 o5 o6 o7 o8 o9 o10 : Ob} : (shC o0 o1 o2 o3 o4 o5 o6 o7 o8 o9 o10)[14]? = some (cI 0 240 (o4.2.1 0)) := rfl
theorem shC_15 {o0 o1 o2 o3 o4 o5 o6 o7 o8 o9 o10 : Ob} : (shC o0 o1 o2 o3 o4 o5 o6 o7 o8 o9 o10)[15]? = some (cI 0 240 (o4.2.1 1)) := rfl
theorem shC_16 {o0 o1 o2 o3 o4 o5 o6 o7 o8 o9 o10 : Ob} : (shC o0 o1 o2 o3 o4 o5 o6 o7 o8 o9 o10)[16]? = some (cI 0 24 (o4.2.1 2)) := rfl
theorem shC_17 {o0 o1 o2 o3 o4 o5 o6 o7 o8 o9 o10 : Ob} : (shC o0 o1 o2 o3 o4 o5 o6 o7 o8 o9 o10)[17]? = some (cO 5 [vR 7, vR 3, vR 13, vR 18, vI (o5.1 0), vI (o5.1 1), vI (o5.1 2), vI (o5.1 3), vI (o5.1 4), vI (o5.1 5)]) := rfl
theorem shC_18 {o0 o1 o2 o3 o4 o5 o6 o7 o8 o9 o10 : Ob} : (shC o0 o1 o2 o3 o4 o5 o6 o7 o8 o9 o10)[18]? = some (cL 8 (o5.2.2.2 0)) := rfl
theorem shC_19 {o0 o1 o2 o3 o4 o5 o6 o7 o8 o9 o10 : Ob} : (shC o0 o1 o2 o3 o4 o5 o6 o7 o8 o9 o10)[19]? = some (cO 6 [vR 20, vR 21, vR 22, vR 23, vR 24, vR 25, vR 26, vI (o6.1 0), vI (o6.1 1), vI (o6.1 2), vI (o6.1 3)]) := rfl
theorem shC_20 {o0 o1 o2 o3 o4 o5 o6 o7 o8 o9 o10 : Ob} : (shC o0 o1 o2 o3 o4 o5 o6 o7 o8 o9 o10)[20]? = some (cI 0 2440 (o6.2.1 0)) := rfl
theorem shC_21 {o0 o1 o2 o3 o4 o5 o6 o7 o8 o9 o10 : Ob} : (shC o0 o1 o2 o3 o4 o5 o6 o7 o8 o9 o10)[21]? = some (cI 0 2440 (o6.2.1 1)) := rfl
theorem shC_22 {o0 o1 o2 o3 o4 o5 o6 o7 o8 o9 o10 : Ob} : (shC o0 o1 o2 o3 o4 o5 o6 o7 o8 o9 o10)[22]? = some (cI 0 2440 (o6.2.1 2)) := rfl
theorem shC_23 {o0 o1 o2 o3 o4 o5 o6 o7 o8 o9 o10 : Ob} : (shC o0 o1 o2 o3 o4 o5 o6 o7 o8 o9 o10)[23]? = some (cI 0 2440 (o6.2.1 3)) := rfl
theorem shC_24 {o0 o1 o2 o3 o4 o5 o6 o7 o8 o9 o10 : Ob} : (shC o0 o1 o2 o3 o4 o5 o6 o7 o8 o9 o10)[24]? = some (cI 0 2440 (o6.2.1 4)) := rfl
theorem shC_25 {o0 o1 o2 o3 o4 o5 o6 o7 o8 o9 o10 : Ob} : (shC o0 o1 o2 o3 o4 o5 o6 o7 o8 o9 o10)[25]? = some (cI 0 512 (o6.2.1 5)) := rfl
theorem shC_26 {o0 o1 o2 o3 o4 o5 o6 o7 o8 o9 o10 : Ob} : (shC o0 o1 o2 o3 o4 o5 o6 o7 o8 o9 o10)[26]? = some (cI 0 8 (o6.2.1 6)) := rfl
theorem shC_27 {o0 o1 o2 o3 o4 o5 o6 o7 o8 o9 o10 : Ob} : (shC o0 o1 o2 o3 o4 o5 o6 o7 o8 o9 o10)[27]? = some (cO 7 [vR 28, vR 29, vR 30, vI (o7.1 0), vI (o7.1 1)]) := rfl
theorem shC_28 {o0 o1 o2 o3 o4 o5 o6 o7 o8 o9 o10 : Ob} : (shC o0 o1 o2 o3 o4 o5 o6 o7 o8 o9 o10)[28]? = some (cI 0 488 (o7.2.1 0)) := rfl
theorem shC_29 {o0 o1 o2 o3 o4 o5 o6 o7 o8 o9 o10 : Ob} : (shC o0 o1 o2 o3 o4 o5 o6 o7 o8 o9 o10)[29]? = some (cI 0 488 (o7.2.1 1)) := rfl
theorem shC_30 {o0 o1 o2 o3 o4 o5 o6 o7 o8 o9 o10 : Ob} : (shC o0 o1 o2 o3 o4 o5 o6 o7 o8 o9 o10)[30]? = some (cI 0 488 (o7.2.1 2)) := rfl
theorem shC_31 {o0 o1 o2 o3 o4 o5 o6 o7 o8 o9 o10 : Ob} : (shC o0 o1 o2 o3 o4 o5 o6 o7 o8 o9 o10)[31]? = some (cO 8 [vR 32, vR 33, vR 34, vR 35, vR 36, vR 37, vI (o8.1 0)]) := rfl
theorem shC_32 {o0 o1 o2 o3 o4 o5 o6 o7 o8 o9 o10 : Ob} : (shC o0 o1 o2 o3 o4 o5 o6 o7 o8 o9 o10)[32]? = some (cI 0 60 (o8.2.1 0)) := rfl
theorem shC_33 {o0 o1 o2 o3 o4 o5 o6 o7 o8 o9 o10 : Ob} : (shC o0 o1 o2 o3 o4 o5 o6 o7 o8 o9 o10)[33]? = some (cI 0 60 (o8.2.1 1)) := rfl
theorem shC_34 {o0 o1 o2 o3 o4 o5 o6 o7 o8 o9 o10 : Ob} : (shC o0 o1 o2 o3 o4 o5 o6 o7 o8 o9 o10)[34]? = some (cI 0 60 (o8.2.1 2)) := rfl
theorem shC_35 {o0 o1 o2 o3 o4 o5 o6 o7 o8 o9 o10 : Ob} : (shC o0 o1 o2 o3 o4 o5 o6 o7 o8 o9 o10)[35]? = some (cI 0 60 (o8.2.1 3)) := rfl
theorem shC_36 {o0 o1 o2 o3 o4 o5 o6 o7 o8 o9 o10 : Ob} : (shC o0 o1 o2 o3 o4 o5 o6 o7 o8 o9 o10)[36]? = some (cI 0 60 (o8.2.1 4)) := rfl
theorem shC_37 {o0 o1 o2 o3 o4 o5 o6 o7 o8 o9 o10 : Ob} : (shC o0 o1 o2 o3 o4 o5 o6 o7 o8 o9 o10)[37]? = some (cI 0 60 (o8.2.1 5)) := rfl
theorem shC_38 {o0 o1 o2 o3 o4 o5 o6 o7 o8 o9 o10 : Ob} : (shC o0 o1 o2 o3 o4 o5 o6 o7 o8 o9 o10)[38]? = some (cO 9 [vR 9, vR 7, vR 19, vR 27, vR 31, vR 40, vR 39, vI (o9.1 0), vI (o9.1 1), vI (o9.1 2), vI (o9.1 3), vI (o9.1 4), vI (o9.1 5), vI (o9.1 6)]) := rfl
theorem shC_39 {o0 o1 o2 o3 o4 o5 o6 o7 o8 o9 o10 : Ob} : (shC o0 o1 o2 o3 o4 o5 o6 o7 o8 o9 o10)[39]? = some (cI 0 8 (o9.2.1 0)) := rfl
theorem shC_40 {o0 o1 o2 o3 o4 o5 o6 o7 o8 o9 o10 : Ob} : (shC o0 o1 o2 o3 o4 o5 o6 o7 o8 o9 o10)[40]? = some (cO 10 [vR 19, vR 7, vR 41, vR 42, vR 43, vR 44, vI (o10.1 0), vI (o10.1 1), vI (o10.1 2), vI (o10.1 3)]) := rfl
theorem shC_41 {o0 o1 o2 o3 o4 o5 o6 o7 o8 o9 o10 : Ob} : (shC o0 o1 o2 o3 o4 o5 o6 o7 o8 o9 o10)[41]? = some (cI 1 1200 (o10.2.1 0)) := rfl
theorem shC_42 {o0 o1 o2 o3 o4 o5 o6 o7 o8 o9 o10 : Ob} : (shC o0 o1 o2 o3 o4 o5 o6 o7 o8 o9 o10)[42]? = some (cI 0 8 (o10.2.1 1)) := rfl
theorem shC_43 {o0 o1 o2 o3 o4 o5 o6 o7 o8 o9 o10 : Ob} : (shC o0 o1 o2 o3 o4 o5 o6 o7 o8 o9 o10)[43]? = some (cI 0 120 (o10.2.1 2)) := rfl
theorem shC_44 {o0 o1 o2 o3 o4 o5 o6 o7 o8 o9 o10 : Ob} : (shC o0 o1 o2 o3 o4 o5 o6 o7 o8 o9 o10)[44]? = some (cI 0 512 (o10.2.1 3)) := rfl
theorem shC_1_1 {o0 o1 o2 o3 o4 o5 o6 o7 o8 o9 o10 : Ob} {v : Int} : (shC o0 o1 o2 o3 o4 o5 o6 o7 o8 o9 o10).set 1 (cO 1 ([vR 2, vI (o0.1 0)].set 1 (vI v))) = shC (sI o0 0 v) o1 o2 o3 o4 o5 o6 o7 o8 o9 o10 := rfl
theorem shC_2_s {o0 o1 o2 o3 o4 o5 o6 o7 o8 o9 o10 : Ob} {i v : Int} : (shC o0 o1 o2 o3 o4 o5 o6 o7 o8 o9 o10).set 2 (cI 1 240 (updI (o0.2.1 0) i v)) = shC (sA o0 0 i v) o1 o2 o3 o4 o5 o6 o7 o8 o9 o10 := rfl
theorem shC_3_3 {o0 o1 o2 o3 o4 o5 o6 o7 o8 o9 o10 : Ob} {v : Int} : (shC o0 o1 o2 o3 o4 o5 o6 o7 o8 o9 o10).set 3 (cO 2 ([vR 4, vR 5, vR 6, vI (o1.1 0)].set 3 (vI v))) = shC o0 (sI o1 0 v) o2 o3 o4 o5 o6 o7 o8 o9 o10 := rfl
theorem shC_4_s {o0 o1 o2 o3 o4 o5 o6 o7 o8 o9 o10 : Ob} {i v : Int} : (shC o0 o1 o2 o3 o4 o5 o6 o7 o8 o9 o10).set 4 (cI 1 241 (updI (o1.2.1 0) i v)) = shC o0 (sA o1 0 i v) o2 o3 o4 o5 o6 o7 o8 o9 o10 := rfl
theorem shC_5_s {o0 o1 o2 o3 o4 o5 o6 o7 o8 o9 o10 : Ob} {i v : Int} : (shC o0 o1 o2 o3 o4 o5 o6 o7 o8 o9 o10).set 5 (cI 0 241 (updI (o1.2.1 1) i v)) = shC o0 (sA o1 1 i v) o2 o3 o4 o5 o6 o7 o8 o9 o10 := rfl
theorem shC_6_s {o0 o1 o2 o3 o4 o5 o6 o7 o8 o9 o10 : Ob} {i : Int} {v : Nat} : (shC o0 o1 o2 o3 o4 o5 o6 o7 o8 o9 o10).set 6 (cL 241 (updN (o1.2.2.2 0) i v)) = shC o0 (sL o1 0 i v) o2 o3 o4 o5 o6 o7 o8 o9 o10 := rfl
theorem shC_7_1 {o0 o1 o2 o3 o4 o5 o6 o7 o8 o9 o10 : Ob} {v : Int} : (shC o0 o1 o2 o3 o4 o5 o6 o7 o8 o9 o10).set 7 (cO 3 ([vR 8, vI (o2.1 0), vI (o2.1 1), vI (o2.1 2)].set 1 (vI v))) = shC o0 o1 (sI o2 0 v) o3 o4 o5 o6 o7 o8 o9 o10 := rfl
theorem shC_7_2 {o0 o1 o2 o3 o4 o5 o6 o7 o8 o9 o10 : Ob} {v : Int} : (shC o0 o1 o2 o3 o4 o5 o6 o7 o8 o9 o10).set 7 (cO 3 ([vR 8, vI (o2.1 0), vI (o2.1 1), vI (o2.1 2)].set 2 (vI v))) = shC o0 o1 (sI o2 1 v) o3 o4 o5 o6 o7 o8 o9 o10 := rfl
theorem shC_7_3 {o0 o1 o2 o3 o4 o5 o6 o7 o8 o9 o10 : Ob} {v : Int} : (shC o0 o1 o2 o3 o4 o5 o6 o7 o8 o9 o10).set 7 (cO 3 ([vR 8, vI (o2.1 0), vI (o2.1 1), vI (o2.1 2)].set 3 (vI v))) = shC o0 o1 (sI o2 2 v) o3 o4 o5 o6 o7 o8 o9 o10 := rfl
theorem shC_8_s {o0 o1 o2 o3 o4 o5 o6 o7 o8 o9 o10 : Ob} {i : Int} {v : Nat} : (shC o0 o1 o2 o3 o4 o5 o6 o7 o8 o9 o10).set 8 (cL 32 (updN (o2.2.2.2 0) i v)) = shC o0 o1 (sL o2 0 i v) o3 o4 o5 o6 o7 o8 o9 o10 := rfl
theorem shC_9_3 {o0 o1 o2 o3 o4 o5 o6 o7 o8 o9 o10 : Ob} {v : Int} : (shC o0 o1 o2 o3 o4 o5 o6 o7 o8 o9 o10).set 9 (cO 4 ([vR 10, vR 11, vR 12, vI (o3.1 0), vI (o3.1 1)].set 3 (vI v))) = shC o0 o1 o2 (sI o3 0 v) o4 o5 o6 o7 o8 o9 o10 := rfl
theorem shC_9_4 {o0 o1 o2 o3 o4 o5 o6 o7 o8 o9 o10 : Ob} {v : Int} : (shC o0 o1 o2 o3 o4 o5 o6 o7 o8 o9 o10).set 9 (cO 4 ([vR 10, vR 11, vR 12, vI (o3.1 0), vI (o3.1 1)].set 4 (vI v))) = shC o0 o1 o2 (sI o3 1 v) o4 o5 o6 o7 o8 o9 o10 := rfl
theorem shC_10_s {o0 o1 o2 o3 o4 o5 o6 o7 o8 o9 o10 : Ob} {i v : Int} : (shC o0 o1 o2 o3 o4 o5 o6 o7 o8 o9 o10).set 10 (cI 0 960 (updI (o3.2.1 0) i v)) = shC o0 o1 o2 (sA o3 0 i v) o4 o5 o6 o7 o8 o9 o10 := rfl
theorem shC_11_s {o0 o1 o2 o3 o4 o5 o6 o7 o8 o9 o10 : Ob} {i v : Int} : (shC o0 o1 o2 o3 o4 o5 o6 o7 o8 o9 o10).set 11 (cI 0 960 (updI (o3.2.1 1) i v)) = shC o0 o1 o2 (sA o3 1 i v) o4 o5 o6 o7 o8 o9 o10 := rfl
theorem shC_12_s {o0 o1 o2 o3 o4 o5 o6 o7 o8 o9 o10 : Ob} {i v : Int} : (shC o0 o1 o2 o3 o4 o5 o6 o7 o8 o9 o10).set 12 (cI 0 24 (updI (o3.2.1 2) i v)) = shC o0 o1 o2 (sA o3 2 i v) o4 o5 o6 o7 o8 o9 o10 := rfl
theorem shC_13_3 {o0 o1 o2 o3 o4 o5 o6 o7 o8 o9 o10 : Ob} {v : Int} : (shC o0 o1 o2 o3 o4 o5 o6 o7 o8 o9 o10).set 13 (cO 4 ([vR 14, vR 15, vR 16, vI (o4.1 0), vI (o4.1 1)].set 3 (vI v))) = shC o0 o1 o2 o3 (sI o4 0 v) o5 o6 o7 o8 o9 o10 := rfl
theorem shC_13_4 {o0 o1 o2 o3 o4 o5 o6 o7 o8 o9 o10 : Ob} {v : Int} : (shC o0 o1 o2 o3 o4 o5 o6 o7 o8 o9 o10).set 13 (cO 4 ([vR 14, vR 15, vR 16, vI (o4.1 0), vI (o4.1 1)].set 4 (vI v))) = shC o0 o1 o2 o3 (sI o4 1 v) o5 o6 o7 o8 o9 o10 := rfl
theorem shC_14_s {o0 o1 o2 o3 o4 o5 o6 o7 o8 o9 o10 : Ob} {i v : Int} : (shC o0 o1 o2 o3 o4 o5 o6 o7 o8 o9 o10).set 14 (cI 0 240 (updI (o4.2.1 0) i v)) = shC o0 o1 o2 o3 (sA o4 0 i v) o5 o6 o7 o8 o9 o10 := rfl
theorem shC_15_s {o0 o1 o2 o3 o4 o5 o6 o7 o8 o9 o10 : Ob} {i v : Int} : (shC o0 o1 o2 o3 o4 o5 o6 o7 o8 o9 o10).set 15 (cI 0 240 (updI (o4.2.1 1) i v)) = shC o0 o1 o2 o3 (sA o4 1 i v) o5 o6 o7 o8 o9 o10 := rfl
theorem shC_16_s {o0 o1 o2 o3 o4 o5 o6 o7 o8 o9 o10 : Ob} {i v : Int} : (shC o0 o1 o2 o3 o4 o5 o6 o7 o8 o9 o10).set 16 (cI 0 24 (updI (o4.2.1 2) i v)) = shC o0 o1 o2 o3 (sA o4 2 i v) o5 o6 o7 o8 o9 o10 := rfl
theorem shC_17_4 {o0 o1 o2 o3 o4 o5 o6 o7 o8 o9 o10 : Ob} {v : Int} : (shC o0 o1 o2 o3 o4 o5 o6 o7 o8 o9 o10).set 17 (cO 5 ([vR 7, vR 3, vR 13, vR 18, vI (o5.1 0), vI (o5.1 1), vI (o5.1 2), vI (o5.1 3), vI (o5.1 4), vI (o5.1 5)].set 4 (vI v))) = shC o0 o1 o2 o3 o4 (sI o5 0 v) o6 o7 o8 o9 o10 := rfl
theorem shC_17_5 {o0 o1 o2 o3 o4 o5 o6 o7 o8 o9 o10 : Ob} {v : Int} : (shC o0 o1 o2 o3 o4 o5 o6 o7 o8 o9 o10).set 17 (cO 5 ([vR 7, vR 3, vR 13, vR 18, vI (o5.1 0), vI (o5.1 1), vI (o5.1 2), vI (o5.1 3), vI (o5.1 4), vI (o5.1 5)].set 5 (vI v))) = shC o0 o1 o2 o3 o4 (sI o5 1 v) o6 o7 o8 o9 o10 := rfl
theorem shC_17_6 {o0 o1 o2 o3 o4 o5 o6 o7 o8 o9 o10 : Ob} {v : Int} : (shC o0 o1 o2 o3 o4 o5 o6 o7 o8 o9 o10).set 17 (cO 5 ([vR 7, vR 3, vR 13, vR 18, vI (o5.1 0), vI (o5.1 1), vI (o5.1 2), vI (o5.1 3), vI (o5.1 4), vI (o5.1 5)].set 6 (vI v))) = shC o0 o1 o2 o3 o4 (sI o5 2 v) o6 o7 o8 o9 o10 := rfl
theorem shC_17_7 {o0 o1 o2 o3 o4 o5 o6 o7 o8 o9 o10 : Ob} {v : Int} : (shC o0 o1 o2 o3 o4 o5 o6 o7 o8 o9 o10).set 17 (cO 5 ([vR 7, vR 3, vR 13, vR 18, vI (o5.1 0), vI (o5.1 1), vI (o5.1 2), vI (o5.1 3), vI (o5.1 4), vI (o5.1 5)].set 7 (vI v))) = shC o0 o1 o2 o3 o4 (sI o5 3 v) o6 o7 o8 o9 o10 := rfl
theorem shC_17_8 {o0 o1 o2 o3 o4 o5 o6 o7 o8 o9 o10 : Ob} {v : Int} : (shC o0 o1 o2 o3 o4 o5 o6 o7 o8 o9 o10).set 17 (cO 5 ([vR 7, vR 3, vR 13, vR 18, vI (o5.1 0), vI (o5.1 1), vI (o5.1 2), vI (o5.1 3), vI (o5.1 4), vI (o5.1 5)].set 8 (vI v))) = shC o0 o1 o2 o3 o4 (sI o5 4 v) o6 o7 o8 o9 o10 := rfl
theorem shC_17_9 {o0 o1 o2 o3 o4 o5 o6 o7 o8 o9 o10 : Ob} {v : Int} : (shC o0 o1 o2 o3 o4 o5 o6 o7 o8 o9 o10).set 17 (cO 5 ([vR 7, vR 3, vR 13, vR 18, vI (o5.1 0), vI (o5.1 1), vI (o5.1 2), vI (o5.1 3), vI (o5.1 4), vI (o5.1 5)].set 9 (vI v))) = shC o0 o1 o2 o3 o4 (sI o5 5 v) o6 o7 o8 o9 o10 := rfl
theorem shC_18_s {o0 o1 o2 o3 o4 o5 o6 o7 o8 o9 o10 : Ob} {i : Int} {v : Nat} : (shC o0 o1 o2 o3 o4 o5 o6 o7 o8 o9 o10).set 18 (cL 8 (updN (o5.2.2.2 0) i v)) = shC o0 o1 o2 o3 o4 (sL o5 0 i v) o6 o7 o8 o9 o10 := rfl
theorem shC_19_7 {o0 o1 o2 o3 o4 o5 o6 o7 o8 o9 o10 : Ob} {v : Int} : (shC o0 o1 o2 o3 o4 o5 o6 o7 o8 o9 o10).set 19 (cO 6 ([vR 20, vR 21, vR 22, vR 23, vR 24, vR 25, vR 26, vI (o6.1 0), vI (o6.1 1), vI (o6.1 2), vI (o6.1 3)].set 7 (vI v))) = shC o0 o1 o2 o3 o4 o5 (sI o6 0 v) o7 o8 o9 o10 := rfl
theorem shC_19_8 {o0 o1 o2 o3 o4 o5 o6 o7 o8 o9 o10 : Ob} {v : Int} : (shC o0 o1 o2 o3 o4 o5 o6 o7 o8 o9 o10).set 19 (cO 6 ([vR 20, vR 21, vR 22, vR 23, vR 24, vR 25, vR 26, vI (o6.1 0), vI (o6.1 1), vI (o6.1 2), vI (o6.1 3)].set 8 (vI v))) = shC o0 o1 o2 o3 o4 o5 (sI o6 1 v) o7 o8 o9 o10 := rfl
theorem shC_19_9 {o0 o1 o2 o3 o4 o5 o6 o7 o8 o9 o10 : Ob} {v : Int} : (shC o0 o1 o2 o3 o4 o5 o6 o7 o8 o9 o10).set 19 (cO 6 ([vR 20, vR 21, vR 22, vR 23, vR 24, vR 25, vR 26, vI (o6.1 0), vI (o6.1 1), vI (o6.1 2), vI (o6.1 3)].set 9 (vI v))) = shC o0 o1 o2 o3 o4 o5 (sI o6 2 v) o7 o8 o9 o10 := rfl
theorem shC_19_10 {o0 o1 o2 o3 o4 o5 o6 o7 o8 o9 o10 : Ob} {v : Int} : (shC o0 o1 o2 o3 o4 o5 o6 o7 o8 o9 o10).set 19 (cO 6 ([vR 20, vR 21, vR 22, vR 23, vR 24, vR 25, vR 26, vI (o6.1 0), vI (o6.1 1), vI (o6.1 2), vI (o6.1 3)].set 10 (vI v))) = shC o0 o1 o2 o3 o4 o5 (sI o6 3 v) o7 o8 o9 o10 := rfl
theorem shC_20_s {o0 o1 o2 o3 o4 o5 o6 o7 o8 o9 o10 : Ob} {i v : Int} : (shC o0 o1 o2 o3 o4 o5 o6 o7 o8 o9 o10).set 20 (cI 0 2440 (updI (o6.2.1 0) i v)) = shC o0 o1 o2 o3 o4 o5 (sA o6 0 i v) o7 o8 o9 o10 := rfl
theorem shC_21_s {o0 o1 o2 o3 o4 o5 o6 o7 o8 o9 o10 : Ob} {i v : Int} : (shC o0 o1 o2 o3 o4 o5 o6 o7 o8 o9 o10).set 21 (cI 0 2440 (updI (o6.2.1 1) i v)) = shC o0 o1 o2 o3 o4 o5 (sA o6 1 i v) o7 o8 o9 o10 := rfl
theorem shC_22_s {o0 o1 o2 o3 o4 o5 o6 o7 o8 o9 o10 : Ob} {i v : Int} : (shC o0 o1 o2 o3 o4 o5 o6 o7 o8 o9 o10).set 22 (cI 0 2440 (updI (o6.2.1 2) i v)) = shC o0 o1 o2 o3 o4 o5 (sA o6 2 i v) o7 o8 o9 o10 := rfl
theorem shC_23_s {o0 o1 o2 o3 o4 o5 o6 o7 o8 o9 o10 : Ob} {i v : Int} : (shC o0 o1 o2 o3 o4 o5 o6 o7 o8 o9 o10).set 23 (cI 0 2440 (updI (o6.2.1 3) i v)) = shC o0 o1 o2 o3 o4 o5 (sA o6 3 i v) o7 o8 o9 o10 := rfl
theorem shC_24_s {o0 o1 o2 o3 o4 o5 o6 o7 o8 o9 o10 : Ob} {i v : Int} : (shC o0 o1 o2 o3 o4 o5 o6 o7 o8 o9 o10).set 24 (cI 0 2440 (updI (o6.2.1 4) i v)) = shC o0 o1 o2 o3 o4 o5 (sA o6 4 i v) o7 o8 o9 o10 := rfl
theorem shC_25_s {o0 o1 o2 o3 o4 o5 o6 o7 o8 o9 o10 : Ob} {i v : Int} : (shC o0 o1 o2 o3 o4 o5 o6 o7 o8 o9 o10).set 25 (cI 0 512 (updI (o6.2.1 5) i v)) = shC o0 o1 o2 o3 o4 o5 (sA o6 5 i v) o7 o8 o9 o10 := rfl
theorem shC_26_s {o0 o1 o2 o3 o4 o5 o6 o7 o8 o9 o10 : Ob} {i v : Int} : (shC o0 o1 o2 o3 o4 o5 o6 o7 o8 o9 o10).set 26 (cI 0 8 (updI (o6.2.1 6) i v)) = shC o0 o1 o2 o3 o4 o5 (sA o6 6 i v) o7 o8 o9 o10 := rfl
theorem shC_27_3 {o0 o1 o2 o3 o4 o5 o6 o7 o8 o9 o10 : Ob} {v : Int} : (shC o0 o1 o2 o3 o4 o5 o6 o7 o8 o9 o10).set 27 (cO 7 ([vR 28, vR 29, vR 30, vI (o7.1 0), vI (o7.1 1)].set 3 (vI v))) = shC o0 o1 o2 o3 o4 o5 o6 (sI o7 0 v) o8 o9 o10 := rfl
theorem shC_27_4 {o0 o1 o2 o3 o4 o5 o6 o7 o8 o9 o10 : Ob} {v : Int} : (shC o0 o1 o2 o3 o4 o5 o6 o7 o8 o9 o10).set 27 (cO 7 ([vR 28, vR 29, vR 30, vI (o7.1 0), vI (o7.1 1)].set 4 (vI v))) = shC o0 o1 o2 o3 o4 o5 o6 (sI o7 1 v) o8 o9 o10 := rfl
theorem shC_28_s {o0 o1 o2 o3 o4 o5 o6 o7 o8 o9 o10 : Ob} {i v : Int} : (shC o0 o1 o2 o3 o4 o5 o6 o7 o8 o9 o10).set 28 (cI 0 488 (updI (o7.2.1 0) i v)) = shC o0 o1 o2 o3 o4 o5 o6 (sA o7 0 i v) o8 o9 o10 := rfl
theorem shC_29_s {o0 o1 o2 o3 o4 o5 o6 o7 o8 o9 o10 : Ob} {i v : Int} : (shC o0 o1 o2 o3 o4 o5 o6 o7 o8 o9 o10).set 29 (cI 0 488 (updI (o7.2.1 1) i v)) = shC o0 o1 o2 o3 o4 o5 o6 (sA o7 1 i v) o8 o9 o10 := rfl
theorem shC_30_s {o0 o1 o2 o3 o4 o5 o6 o7 o8 o9 o10 : Ob} {i v : Int} : (shC o0 o1 o2 o3 o4 o5 o6 o7 o8 o9 o10).set 30 (cI 0 488 (updI (o7.2.1 2) i v)) = shC o0 o1 o2 o3 o4 o5 o6 (sA o7 2 i v) o8 o9 o10 := rfl
theorem shC_31_6 {o0 o1 o2 o3 o4 o5 o6 o7 o8 o9 o10 : Ob} {v : Int} : (shC o0 o1 o2 o3 o4 o5 o6 o7 o8 o9 o10).set 31 (cO 8 ([vR 32, vR 33, vR 34, vR 35, vR 36, vR 37, vI (o8.1 0)].set 6 (vI v))) = shC o0 o1 o2 o3 o4 o5 o6 o7 (sI o8 0 v) o9 o10 := rfl
theorem shC_32_s {o0 o1 o2 o3 o4 o5 o6 o7 o8 o9 o10 : Ob} {i v : Int} : (shC o0 o1 o2 o3 o4 o5 o6 o7 o8 o9 o10).set 32 (cI 0 60 (updI (o8.2.1 0) i v)) = shC o0 o1 o2 o3 o4 o5 o6 o7 (sA o8 0 i v) o9 o10 := rfl
theorem shC_33_s {o0 o1 o2 o3 o4 o5 o6 o7 o8 o9 o10 : Ob} {i v : Int} : (shC o0 o1 o2 o3 o4 o5 o6 o7 o8 o9 o10).set 33 (cI 0 60 (updI (o8.2.1 1) i v)) = shC o0 o1 o2 o3 o4 o5 o6 o7 (sA o8 1 i v) o9 o10 := rfl
theorem shC_34_s {o0 o1 o2 o3 o4 o5 o6 o7 o8 o9 o10 : Ob} {i v : Int} : (shC o0 o1 o2 o3 o4 o5 o6 o7 o8 o9 o10).set 34 (cI 0 60 (updI (o8.2.1 2) i v)) = shC o0 o1 o2 o3 o4 o5 o6 o7 (sA o8 2 i v) o9 o10 := rfl
theorem shC_35_s {o0 o1 o2 o3 o4 o5 o6 o7 o8 o9 o10 : Ob} {i v : Int} : (shC o0 o1 o2 o3 o4 o5 o6 o7 o8 o9 o10).set 35 (cI 0 60 (updI (o8.2.1 3) i v)) = shC o0 o1 o2 o3 o4 o5 o6 o7 (sA o8 3 i v) o9 o10 := rfl
theorem shC_36_s {o0 o1 o2 o3 o4 o5 o6 o7 o8 o9 o10 : Ob} {i v : Int} : (shC o0 o1 o2 o3 o4 o5 o6 o7 o8 o9 o10).set 36 (cI 0 60 (updI (o8.2.1 4) i v)) = shC o0 o1 o2 o3 o4 o5 o6 o7 (sA o8 4 i v) o9 o10 := rfl
theorem shC_37_s {o0 o1 o2 o3 o4 o5 o6 o7 o8 o9 o10 : Ob} {i v : Int} : (shC o0 o1 o2 o3 o4 o5 o6 o7 o8 o9 o10).set 37 (cI 0 60 (updI (o8.2.1 5) i v)) = shC o0 o1 o2 o3 o4 o5 o6 o7 (sA o8 5 i v) o9 o10 := rfl
theorem shC_38_7 {o0 o1 o2 o3 o4 o5 o6 o7 o8 o9 o10 : Ob} {v : Int} : (shC o0 o1 o2 o3 o4 o5 o6 o7 o8 o9 o10).set 38 (cO 9 ([vR 9, vR 7, vR 19, vR 27, vR 31, vR 40, vR 39, vI (o9.1 0), vI (o9.1 1), vI (o9.1 2), vI (o9.1 3), vI (o9.1 4), vI (o9.1 5), vI (o9.1 6)].set 7 (vI v))) = shC o0 o1 o2 o3 o4 o5 o6 o7 o8 (sI o9 0 v) o10 := rfl
theorem shC_38_8 {o0 o1 o2 o3 o4 o5 o6 o7 o8 o9 o10 : Ob} {v : Int} : (shC o0 o1 o2 o3 o4 o5 o6 o7 o8 o9 o10).set 38 (cO 9 ([vR 9, vR 7, vR 19, vR 27, vR 31, vR 40, vR 39, vI (o9.1 0), vI (o9.1 1), vI (o9.1 2), vI (o9.1 3), vI (o9.1 4), vI (o9.1 5), vI (o9.1 6)].set 8 (vI v))) = shC o0 o1 o2 o3 o4 o5 o6 o7 o8 (sI o9 1 v) o10 := rfl
theorem shC_38_9 {o0 o1 o2 o3 o4 o5 o6 o7 o8 o9 o10 : Ob} {v : Int} : (shC o0 o1 o2 o3 o4 o5 o6 o7 o8 o9 o10).set 38 (cO 9 ([vR 9, vR 7, vR 19, vR 27, vR 31, vR 40, vR 39, vI (o9.1 0), vI (o9.1 1), vI (o9.1 2), vI (o9.1 3), vI (o9.1 4), vI (o9.1 5), vI (o9.1 6)].set 9 (vI v))) = shC o0 o1 o2 o3 o4 o5 o6 o7 o8 (sI o9 2 v) o10 := rfl
theorem shC_38_10 {o0 o1 o2 o3 o4 o5 o6 o7 o8 o9 o10 : Ob} {v : Int} : (shC o0 o1 o2 o3 o4 o5 o6 o7 o8 o9 o10).set 38 (cO 9 ([vR 9, vR 7, vR 19, vR 27, vR 31, vR 40, vR 39, vI (o9.1 0), vI (o9.1 1), vI (o9.1 2), vI (o9.1 3), vI (o9.1 4), vI (o9.1 5), vI (o9.1 6)].set 10 (vI v))) = shC o0 o1 o2 o3 o4 o5 o6 o7 o8 (sI o9 3 v) o10 := rfl
theorem shC_38_11 {o0 o1 o2 o3 o4 o5 o6 o7 o8 o9 o10 : Ob} {v : Int} : (shC o0 o1 o2 o3 o4 o5 o6 o7 o8 o9 o10).set 38 (cO 9 ([vR 9, vR 7, vR 19, vR 27, vR 31, vR 40, vR 39, vI (o9.1 0), vI (o9.1 1), vI (o9.1 2), vI (o9.1 3), vI (o9.1 4), vI (o9.1 5), vI (o9.1 6)].set 11 (vI v))) = shC o0 o1 o2 o3 o4 o5 o6 o7 o8 (sI o9 4 v) o10 := rfl
theorem shC_38_12 {o0 o1 o2 o3 o4 o5 o6 o7 o8 o9 o10 : Ob} {v : Int} : (shC o0 o1 o2 o3 o4 o5 o6 o7 o8 o9 o10).set 38 (cO 9 ([vR 9, vR 7, vR 19, vR 27, vR 31, vR 40, vR 39, vI (o9.1 0), vI (o9.1 1), vI (o9.1 2), vI (o9.1 3), vI (o9.1 4), vI (o9.1 5), vI (o9.1 6)].set 12 (vI v))) = shC o0 o1 o2 o3 o4 o5 o6 o7 o8 (sI o9 5 v) o10 := rfl
theorem shC_38_13 {o0 o1 o2 o3 o4 o5 o6 o7 o8 o9 o10 : Ob} {v : Int} : (shC o0 o1 o2 o3 o4 o5 o6 o7 o8 o9 o10).set 38 (cO 9 ([vR 9, vR 7, vR 19, vR 27, vR 31, vR 40, vR 39, vI (o9.1 0), vI (o9.1 1), vI (o9.1 2), vI (o9.1 3), vI (o9.1 4), vI (o9.1 5), vI (o9.1 6)].set 13 (vI v))) = shC o0 o1 o2 o3 o4 o5 o6 o7 o8 (sI o9 6 v) o10 := rfl
theorem shC_39_s {o0 o1 o2 o3 o4 o5 o6 o7 o8 o9 o10 : Ob} {i v : Int} : (shC o0 o1 o2 o3 o4 o5 o6 o7 o8 o9 o10).set 39 (cI 0 8 (updI (o9.2.1 0) i v)) = shC o0 o1 o2 o3 o4 o5 o6 o7 o8 (sA o9 0 i v) o10 := rfl
theorem shC_40_6 {o0 o1 o2 o3 o4 o5 o6 o7 o8 o9 o10 : Ob} {v : Int} : (shC o0 o1 o2 o3 o4 o5 o6 o7 o8 o9 o10).set 40 (cO 10 ([vR 19, vR 7, vR 41, vR 42, vR 43, vR 44, vI (o10.1 0), vI (o10.1 1), vI (o10.1 2), vI (o10.1 3)].set 6 (vI v))) = shC o0 o1 o2 o3 o4 o5 o6 o7 o8 o9 (sI o10 0 v) := rfl
theorem shC_40_7 {o0 o1 o2 o3 o4 o5 o6 o7 o8 o9 o10 : Ob} {v : Int} : (shC o0 o1 o2 o3 o4 o5 o6 o7 o8 o9 o10).set 40 (cO 10 ([vR 19, vR 7, vR 41, vR 42, vR 43, vR 44, vI (o10.1 0), vI (o10.1 1), vI (o10.1 2), vI (o10.1 3)].set 7 (vI v))) = shC o0 o1 o2 o3 o4 o5 o6 o7 o8 o9 (sI o10 1 v) := rfl
theorem shC_40_8 {o0 o1 o2 o3 o4 o5 o6 o7 o8 o9 o10 : Ob} {v : Int} : (shC o0 o1 o2 o3 o4 o5 o6 o7 o8 o9 o10).set 40 (cO 10 ([vR 19, vR 7, vR 41, vR 42, vR 43, vR 44, vI (o10.1 0), vI (o10.1 1), vI (o10.1 2), vI (o10.1 3)].set 8 (vI v))) = shC o0 o1 o2 o3 o4 o5 o6 o7 o8 o9 (sI o10 2 v) := rfl
theorem shC_40_9 {o0 o1 o2 o3 o4 o5 o6 o7 o8 o9 o10 : Ob} {v : Int} : (shC o0 o1 o2 o3 o4 o5 o6 o7 o8 o9 o10).set 40 (cO 10 ([vR 19, vR 7, vR 41, vR 42, vR 43, vR 44, vI (o10.1 0), vI (o10.1 1), vI (o10.1 2), vI (o10.1 3)].set 9 (vI v))) = shC o0 o1 o2 o3 o4 o5 o6 o7 o8 o9 (sI o10 3 v) := rfl
theorem shC_41_s {o0 o1 o2 o3 o4 o5 o6 o7 o8 o9 o10 : Ob} {i v : Int} : (shC o0 o1 o2 o3 o4 o5 o6 o7 o8 o9 o10).set 41 (cI 1 1200 (updI (o10.2.1 0) i v)) = shC o0 o1 o2 o3 o4 o5 o6 o7 o8 o9 (sA o10 0 i v) := rfl
theorem shC_42_s {o0 o1 o2 o3 o4 o5 o6 o7 o8 o9 o10 : Ob} {i v : Int} : (shC o0 o1 o2 o3 o4 o5 o6 o7 o8 o9 o10).set 42 (cI 0 8 (updI (o10.2.1 1) i v)) = shC o0 o1 o2 o3 o4 o5 o6 o7 o8 o9 (sA o10 1 i v) := rfl
theorem shC_43_s {o0 o1 o2 o3 o4 o5 o6 o7 o8 o9 o10 : Ob} {i v : Int} : (shC o0 o1 o2 o3 o4 o5 o6 o7 o8 o9 o10).set 43 (cI 0 120 (updI (o10.2.1 2) i v)) = shC o0 o1 o2 o3 o4 o5 o6 o7 o8 o9 (sA o10 2 i v) := rfl
theorem shC_44_s {o0 o1 o2 o3 o4 o5 o6 o7 o8 o9 o10 : Ob} {i v : Int} : (shC o0 o1 o2 o3 o4 o5 o6 o7 o8 o9 o10).set 44 (cI 0 512 (updI (o10.2.1 3) i v)) = shC o0 o1 o2 o3 o4 o5 o6 o7 o8 o9 (sA o10 3 i v) := rfl
def shM (o0 : Ob) : List AC := [cO 11 [vR 1, vI (o0.1 0), vI (o0.1 1), vI (o0.1 2), vI (o0.1 3), vL (o0.2.2.1 0), vR 2, vR 3, vI (o0.1 4), vI (o0.1 5), vR 4, vR 5, vR 6, vI (o0.1 6), vR 7, vR 8, vR 9, vI (o0.1 7), vI (o0.1 8), vR 10, vR 11, vR 12, vI (o0.1 9), vR 13, vR 14, vI (o0.1 10), vR 15, vR 16, vR 17, vI (o0.1 11), vR 18, vI (o0.1 12), vR 19, vI (o0.1 13), vI (o0.1 14), vI (o0.1 15), vI (o0.1 16), vR 20, vR 21, vI (o0.1 17), vR 22, vR 23, vI (o0.1 18), vR 24, vR 25, vR 26, vR 27, vR 28, vI (o0.1 19), vI (o0.1 20), vR 29, vR 30, vI (o0.1 21), vR 31, vI (o0.1 22)],
  cI 0 240 (o0.2.1 0),
  cL 500 (o0.2.2.2 0),
  cI 0 500 (o0.2.1 1),
  cI 0 242 (o0.2.1 2),
  cI 0 242 (o0.2.1 3),
  cI 0 242 (o0.2.1 4),
  cI 0 242 (o0.2.1 5),
  cL 242 (o0.2.2.2 1),
  cI 0 242 (o0.2.1 6),
  cI 0 16 (o0.2.1 7),
  cI 0 16 (o0.2.1 8),
  cI 0 16 (o0.2.1 9),
  cL 1000 (o0.2.2.2 2),
  cI 0 1000 (o0.2.1 10),
  cI 0 25 (o0.2.1 11),
  cI 0 25 (o0.2.1 12),
  cI 0 200 (o0.2.1 13),
  cL 300 (o0.2.2.2 3),
  cI 0 8 (o0.2.1 14),
  cI 0 61 (o0.2.1 15),
  cI 0 61 (o0.2.1 16),
  cI 0 61 (o0.2.1 17),
  cI 0 61 (o0.2.1 18),
  cI 0 300 (o0.2.1 19),
  cI 0 300 (o0.2.1 20),
  cI 0 300 (o0.2.1 21),
  cI 0 488 (o0.2.1 22),
  cI 0 488 (o0.2.1 23),
  cI 0 8000 (o0.2.1 24),
  cI 0 3000 (o0.2.1 25),
  cI 0 488 (o0.2.1 26)]
theorem shM_0 {o0 : Ob} : (shM o0)[0]? = some (cO 11 [vR 1, vI (o0.1 0), vI (o0.1 1), vI (o0.1 2), vI (o0.1 3), vL (o0.2.2.1 0), vR 2, vR 3, vI (o0.1 4), vI (o0.1 5), vR 4, vR 5, vR 6, vI (o0.1 6), vR 7, vR 8, vR 9, vI (o0.1 7), vI (o0.1 8), vR 10, vR 11, vR 12, vI (o0.1 9), vR 13, vR 14, vI (o0.1 10), vR 15, vR 16, vR 17, vI (o0.1 11), vR 18, vI (o0.1 12), vR 19, vI (o0.1 13), vI (o0.1 14), vI (o0.1 15), vI (o0.1 16), vR 20, vR 21, vI (o0.1 17), vR 22, vR 23, vI (o0.1 18), vR 24, vR 25, vR 26, vR 27, vR 28, vI (o0.1 19), vI (o0.1 20), vR 29, vR 30, vI (o0.1 21), vR 31, vI (o0.1 22)]) := rfl
theorem shM_1 {o0 : Ob} : (shM o0)[1]? = some (cI 0 240 (o0.2.1 0)) := rfl
theorem shM_2 {o0 : Ob} : (shM o0)[2]? = some (cL 500 (o0.2.2.2 0)) := rfl
theorem shM_3 {o0 : Ob} : (shM o0)[3]? = some (cI 0 500 (o0.2.1 1)) := rfl
theorem shM_4 {o0 : Ob} : (shM o0)[4]? = some (cI 0 242 (o0.2.1 2)) := rfl
theorem shM_5 {o0 : Ob} : (shM o0)[5]? = some (cI 0 242 (o0.2.1 3)) := rfl
theorem shM_6 {o0 : Ob} : (shM o0)[6]? = some (cI 0 242 (o0.2.1 4)) := rfl
theorem shM_7 {o0 : Ob} : (shM o0)[7]? = some (cI 0 242 (o0.2.1 5)) := rfl
theorem shM_8 {o0 : Ob} : (shM o0)[8]? = some (cL 242 (o0.2.2.2 1)) := rfl
theorem shM_9 {o0 : Ob} : (shM o0)[9]? = some (cI 0 242 (o0.2.1 6)) := rfl
theorem shM_10 {o0 : Ob} : (shM o0)[10]? = some (cI 0 16 (o0.2.1 7)) := rfl
theorem shM_11 {o0 : Ob} : (shM o0)[11]? = some (cI 0 16 (o0.2.1 8)) := rfl
theorem shM_12 {o0 : Ob} : (shM o0)[12]? = some (cI 0 16 (o0.2.1 9)) := rfl
theorem shM_13 {o0 : Ob} : (shM o0)[13]? = some (cL 1000 (o0.2.2.2 2)) := rfl
theorem shM_14 {o0 : Ob} : (shM o0)[14]? = some (cI 0 1000 (o0.2.1 10)) := rfl
theorem shM_15 {o0 : Ob} : (shM o0)[15]? = some (cI 0 25 (o0.2.1 11)) := rfl
theorem shM_16 {o0 : Ob} : (shM o0)[16]? = some (cI 0 25 (o0.2.1 12)) := rfl
theorem shM_17 {o0 : Ob} : (shM o0)[17]? = some (cI 0 200 (o0.2.1 13)) := rfl
theorem shM_18 {o0 : Ob} : (shM o0)[18]? = some (cL 300 (o0.2.2.2 3)) := rfl
theorem shM_19 {o0 : Ob} : (shM o0)[19]? = some (cI 0 8 (o0.2.1 14)) := rfl
theorem shM_20 {o0 : Ob} : (shM o0)[20]? = some (cI 0 61 (o0.2.1 15)) := rfl
theorem shM_21 {o0 : Ob} : (shM o0)[21]? = some (cI 0 61 (o0.2.1 16)) := rfl
theorem shM_22 {o0 : Ob} : (shM o0)[22]? = some (cI 0 61 (o0.2.1 17)) := rfl
theorem shM_23 {o0 : Ob} : (shM o0)[23]? = some (cI 0 61 (o0.2.1 18)) := rfl
theorem shM_24 {o0 : Ob} : (shM o0)[24]? = some (cI 0 300 (o0.2.1 19)) := rfl
theorem shM_25 {o0 : Ob} : (shM o0)[25]? = some (cI 0 300 (o0.2.1 20)) := rfl
theorem shM_26 {o0 : Ob} : (shM o0)[26]? = some (cI 0 300 (o0.2.1 21)) := rfl
theorem shM_27 {o0 : Ob} : (shM o0)[27]? = some (cI 0 488 (o0.2.1 22)) := rfl
theorem shM_28 {o0 : Ob} : (shM o0)[28]? = some (cI 0 488 (o0.2.1 23)) := rfl
theorem shM_29 {o0 : Ob} : (shM o0)[29]? = some (cI 0 8000 (o0.2.1 24)) := rfl
theorem shM_30 {o0 : Ob} : (shM o0)[30]? = some (cI 0 3000 (o0.2.1 25)) := rfl
theorem shM_31 {o0 : Ob} : (shM o0)[31]? = some (cI 0 488 (o0.2.1 26)) := rfl
theorem shM_0_1 {o0 : Ob} {v : Int} : (shM o0).set 0 (cO 11 ([vR 1, vI (o0.1 0), vI (o0.1 1), vI (o0.1 2), vI (o0.1 3), vL (o0.2.2.1 0), vR 2, vR 3, vI (o0.1 4), vI (o0.1 5), vR 4, vR 5, vR 6, vI (o0.1 6), vR 7, vR 8, vR 9, vI (o0.1 7), vI (o0.1 8), vR 10, vR 11, vR 12, vI (o0.1 9), vR 13, vR 14, vI (o0.1 10), vR 15, vR 16, vR 17, vI (o0.1 11), vR 18, vI (o0.1 12), vR 19, vI (o0.1 13), vI (o0.1 14), vI (o0.1 15), vI (o0.1 16), vR 20, vR 21, vI (o0.1 17), vR 22, vR 23, vI (o0.1 18), vR 24, vR 25, vR 26, vR 27, vR 28, vI (o0.1 19), vI (o0.1 20), vR 29, vR 30, vI (o0.1 21), vR 31, vI (o0.1 22)].set 1 (vI v))) = shM (sI o0 0 v) := rfl
theorem shM_0_2 {o0 : Ob} {v : Int} : (shM o0).set 0 (cO 11 ([vR 1, vI (o0.1 0), vI (o0.1 1), vI (o0.1 2), vI (o0.1 3), vL (o0.2.2.1 0), vR 2, vR 3, vI (o0.1 4), vI (o0.1 5), vR 4, vR 5, vR 6, vI (o0.1 6), vR 7, vR 8, vR 9, vI (o0.1 7), vI (o0.1 8), vR 10, vR 11, vR 12, vI (o0.1 9), vR 13, vR 14, vI (o0.1 10), vR 15, vR 16, vR 17, vI (o0.1 11), vR 18, vI (o0.1 12), vR 19, vI (o0.1 13), vI (o0.1 14), vI (o0.1 15), vI (o0.1 16), vR 20, vR 21, vI (o0.1 17), vR 22, vR 23, vI (o0.1 18), vR 24, vR 25, vR 26, vR 27, vR 28, vI (o0.1 19), vI (o0.1 20), vR 29, vR 30, vI (o0.1 21), vR 31, vI (o0.1 22)].set 2 (vI v))) = shM (sI o0 1 v) := rfl
theorem shM_0_3 {o0 : Ob} {v : Int} : (shM o0).set 0 (cO 11 ([vR 1, vI (o0.1 0), vI (o0.1 1), vI (o0.1 2), vI (o0.1 3), vL (o0.2.2.1 0), vR 2, vR 3, vI (o0.1 4), vI (o0.1 5), vR 4, vR 5, vR 6, vI (o0.1 6), vR 7, vR 8, vR 9, vI (o0.1 7), vI (o0.1 8), vR 10, vR 11, vR 12, vI (o0.1 9), vR 13, vR 14, vI (o0.1 10), vR 15, vR 16, vR 17, vI (o0.1 11), vR 18, vI (o0.1 12), vR 19, vI (o0.1 13), vI (o0.1 14), vI (o0.1 15), vI (o0.1 16), vR 20, vR 21, vI (o0.1 17), vR 22, vR 23, vI (o0.1 18), vR 24, vR 25, vR 26, vR 27, vR 28, vI (o0.1 19), vI (o0.1 20), vR 29, vR 30, vI (o0.1 21), vR 31, vI (o0.1 22)].set 3 (vI v))) = shM (sI o0 2 v) := rfl
theorem shM_0_4 {o0 : Ob} {v : Int} : (shM o0).set 0 (cO 11 ([vR 1, vI (o0.1 0), vI (o0.1 1), vI (o0.1 2), vI (o0.1 3), vL (o0.2.2.1 0), vR 2, vR 3, vI (o0.1 4), vI (o0.1 5), vR 4, vR 5, vR 6, vI (o0.1 6), vR 7, vR 8, vR 9, vI (o0.1 7), vI (o0.1 8), vR 10, vR 11, vR 12, vI (o0.1 9), vR 13, vR 14, vI (o0.1 10), vR 15, vR 16, vR 17, vI (o0.1 11), vR 18, vI (o0.1 12), vR 19, vI (o0.1 13), vI (o0.1 14), vI (o0.1 15), vI (o0.1 16), vR 20, vR 21, vI (o0.1 17), vR 22, vR 23, vI (o0.1 18), vR 24, vR 25, vR 26, vR 27, vR 28, vI (o0.1 19), vI (o0.1 20), vR 29, vR 30, vI (o0.1 21), vR 31, vI (o0.1 22)].set 4 (vI v))) = shM (sI o0 3 v) := rfl
theorem shM_0_5 {o0 : Ob} {v : Nat} : (shM o0).set 0 (cO 11 ([vR 1, vI (o0.1 0), vI (o0.1 1), vI (o0.1 2), vI (o0.1 3), vL (o0.2.2.1 0), vR 2, vR 3, vI (o0.1 4), vI (o0.1 5), vR 4, vR 5, vR 6, vI (o0.1 6), vR 7, vR 8, vR 9, vI (o0.1 7), vI (o0.1 8), vR 10, vR 11, vR 12, vI (o0.1 9), vR 13, vR 14, vI (o0.1 10), vR 15, vR 16, vR 17, vI (o0.1 11), vR 18, vI (o0.1 12), vR 19, vI (o0.1 13), vI (o0.1 14), vI (o0.1 15), vI (o0.1 16), vR 20, vR 21, vI (o0.1 17), vR 22, vR 23, vI (o0.1 18), vR 24, vR 25, vR 26, vR 27, vR 28, vI (o0.1 19), vI (o0.1 20), vR 29, vR 30, vI (o0.1 21), vR 31, vI (o0.1 22)].set 5 (vL v))) = shM (sJ o0 0 v) := rfl
theorem shM_0_8 {o0 : Ob} {v : Int} : (shM o0).set 0 (cO 11 ([vR 1, vI (o0.1 0), vI (o0.1 1), vI (o0.1 2), vI (o0.1 3), vL (o0.2.2.1 0), vR 2, vR 3, vI (o0.1 4), vI (o0.1 5), vR 4, vR 5, vR 6, vI (o0.1 6), vR 7, vR 8, vR 9, vI (o0.1 7), vI (o0.1 8), vR 10, vR 11, vR 12, vI (o0.1 9), vR 13, vR 14, vI (o0.1 10), vR 15, vR 16, vR 17, vI (o0.1 11), vR 18, vI (o0.1 12), vR 19, vI (o0.1 13), vI (o0.1 14), vI (o0.1 15), vI (o0.1 16), vR 20, vR 21, vI (o0.1 17), vR 22, vR 23, vI (o0.1 18), vR 24, vR 25, vR 26, vR 27, vR 28, vI (o0.1 19), vI (o0.1 20), vR 29, vR 30, vI (o0.1 21), vR 31, vI (o0.1 22)].set 8 (vI v))) = shM (sI o0 4 v) := rfl
theorem shM_0_9 {o0 : Ob} {v : Int} : (shM o0).set 0 (cO 11 ([vR 1, vI (o0.1 0), vI (o0.1 1), vI (o0.1 2), vI (o0.1 3), vL (o0.2.2.1 0), vR 2, vR 3, vI (o0.1 4), vI (o0.1 5), vR 4, vR 5, vR 6, vI (o0.1 6), vR 7, vR 8, vR 9, vI (o0.1 7), vI (o0.1 8), vR 10, vR 11, vR 12, vI (o0.1 9), vR 13, vR 14, vI (o0.1 10), vR 15, vR 16, vR 17, vI (o0.1 11), vR 18, vI (o0.1 12), vR 19, vI (o0.1 13), vI (o0.1 14), vI (o0.1 15), vI (o0.1 16), vR 20, vR 21, vI (o0.1 17), vR 22, vR 23, vI (o0.1 18), vR 24, vR 25, vR 26, vR 27, vR 28, vI (o0.1 19), vI (o0.1 20), vR 29, vR 30, vI (o0.1 21), vR 31, vI (o0.1 22)].set 9 (vI v))) = shM (sI o0 5 v) := rfl
theorem shM_0_13 {o0 : Ob} {v : Int} : (shM o0).set 0 (cO 11 ([vR 1, vI (o0.1 0), vI (o0.1 1), vI (o0.1 2), vI (o0.1 3), vL (o0.2.2.1 0), vR 2, vR 3, vI (o0.1 4), vI (o0.1 5), vR 4, vR 5, vR 6, vI (o0.1 6), vR 7, vR 8, vR 9, vI (o0.1 7), vI (o0.1 8), vR 10, vR 11, vR 12, vI (o0.1 9), vR 13, vR 14, vI (o0.1 10), vR 15, vR 16, vR 17, vI (o0.1 11), vR 18, vI (o0.1 12), vR 19, vI (o0.1 13), vI (o0.1 14), vI (o0.1 15), vI (o0.1 16), vR 20, vR 21, vI (o0.1 17), vR 22, vR 23, vI (o0.1 18), vR 24, vR 25, vR 26, vR 27, vR 28, vI (o0.1 19), vI (o0.1 20), vR 29, vR 30, vI (o0.1 21), vR 31, vI (o0.1 22)].set 13 (vI v))) = shM (sI o0 6 v) := rfl
theorem shM_0_17 {o0 : Ob} {v : Int} : (shM o0).set 0 (cO 11 ([vR 1, vI (o0.1 0), vI (o0.1 1), vI (o0.1 2), vI (o0.1 3), vL (o0.2.2.1 0), vR 2, vR 3, vI (o0.1 4), vI (o0.1 5), vR 4, vR 5, vR 6, vI (o0.1 6), vR 7, vR 8, vR 9, vI (o0.1 7), vI (o0.1 8), vR 10, vR 11, vR 12, vI (o0.1 9), vR 13, vR 14, vI (o0.1 10), vR 15, vR 16, vR 17, vI (o0.1 11), vR 18, vI (o0.1 12), vR 19, vI (o0.1 13), vI (o0.1 14), vI (o0.1 15), vI (o0.1 16), vR 20, vR 21, vI (o0.1 17), vR 22, vR 23, vI (o0.1 18), vR 24, vR 25, vR 26, vR 27, vR 28, vI (o0.1 19), vI (o0.1 20), vR 29, vR 30, vI (o0.1 21), vR 31, vI (o0.1 22)].set 17 (vI v))) = shM (sI o0 7 v) := rfl
theorem shM_0_18 {o0 : Ob} {v : Int} : (shM o0).set 0 (cO 11 ([vR 1, vI (o0.1 0), vI (o0.1 1), vI (o0.1 2), vI (o0.1 3), vL (o0.2.2.1 0), vR 2, vR 3, vI (o0.1 4), vI (o0.1 5), vR 4, vR 5, vR 6, vI (o0.1 6), vR 7, vR 8, vR 9, vI (o0.1 7), vI (o0.1 8), vR 10, vR 11, vR 12, vI (o0.1 9), vR 13, vR 14, vI (o0.1 10), vR 15, vR 16, vR 17, vI (o0.1 11), vR 18, vI (o0.1 12), vR 19, vI (o0.1 13), vI (o0.1 14), vI (o0.1 15), vI (o0.1 16), vR 20, vR 21, vI (o0.1 17), vR 22, vR 23, vI (o0.1 18), vR 24, vR 25, vR 26, vR 27, vR 28, vI (o0.1 19), vI (o0.1 20), vR 29, vR 30, vI (o0.1 21), vR 31, vI (o0.1 22)].set 18 (vI v))) = shM (sI o0 8 v) := rfl
theorem shM_0_22 {o0 : Ob} {v : Int} : (shM o0).set 0 (cO 11 ([vR 1, vI (o0.1 0), vI (o0.1 1), vI (o0.1 2), vI (o0.1 3), vL (o0.2.2.1 0), vR 2, vR 3, vI (o0.1 4), vI (o0.1 5), vR 4, vR 5, vR 6, vI (o0.1 6), vR 7, vR 8, vR 9, vI (o0.1 7), vI (o0.1 8), vR 10, vR 11, vR 12, vI (o0.1 9), vR 13, vR 14, vI (o0.1 10), vR 15, vR 16, vR 17, vI (o0.1 11), vR 18, vI (o0.1 12), vR 19, vI (o0.1 13), vI (o0.1 14), vI (o0.1 15), vI (o0.1 16), vR 20, vR 21, vI (o0.1 17), vR 22, vR 23, vI (o0.1 18), vR 24, vR 25, vR 26, vR 27, vR 28, vI (o0.1 19), vI (o0.1 20), vR 29, vR 30, vI (o0.1 21), vR 31, vI (o0.1 22)].set 22 (vI v))) = shM (sI o0 9 v) := rfl
theorem shM_0_25 {o0 : Ob} {v : Int} : (shM o0).set 0 (cO 11 ([vR 1, vI (o0.1 0), vI (o0.1 1), vI (o0.1 2), vI (o0.1 3), vL (o0.2.2.1 0), vR 2, vR 3, vI (o0.1 4), vI (o0.1 5), vR 4, vR 5, vR 6, vI (o0.1 6), vR 7, vR 8, vR 9, vI (o0.1 7), vI (o0.1 8), vR 10, vR 11, vR 12, vI (o0.1 9), vR 13, vR 14, vI (o0.1 10), vR 15, vR 16, vR 17, vI (o0.1 11), vR 18, vI (o0.1 12), vR 19, vI (o0.1 13), vI (o0.1 14), vI (o0.1 15), vI (o0.1 16), vR 20, vR 21, vI (o0.1 17), vR 22, vR 23, vI (o0.1 18), vR 24, vR 25, vR 26, vR 27, vR 28, vI (o0.1 19), vI (o0.1 20), vR 29, vR 30, vI (o0.1 21), vR 31, vI (o0.1 22)].set 25 (vI v))) = shM (sI o0 10 v) := rfl
theorem shM_0_29 {o0 : Ob} {v : Int} : (shM o0).set 0 (cO 11 ([vR 1, vI (o0.1 0), vI (o0.1 1), vI (o0.1 2), vI (o0.1 3), vL (o0.2.2.1 0), vR 2, vR 3, vI (o0.1 4), vI (o0.1 5), vR 4, vR 5, vR 6, vI (o0.1 6), vR 7, vR 8, vR 9, vI (o0.1 7), vI (o0.1 8), vR 10, vR 11, vR 12, vI (o0.1 9), vR 13, vR 14, vI (o0.1 10), vR 15, vR 16, vR 17, vI (o0.1 11), vR 18, vI (o0.1 12), vR 19, vI (o0.1 13), vI (o0.1 14), vI (o0.1 15), vI (o0.1 16), vR 20, vR 21, vI (o0.1 17), vR 22, vR 23, vI (o0.1 18), vR 24, vR 25, vR 26, vR 27, vR 28, vI (o0.1 19), vI (o0.1 20), vR 29, vR 30, vI (o0.1 21), vR 31, vI (o0.1 22)].set 29 (vI v))) = shM (sI o0 11 v) := rfl
theorem shM_0_31 {o0 : Ob} {v : Int} : (shM o0).set 0 (cO 11 ([vR 1, vI (o0.1 0), vI (o0.1 1), vI (o0.1 2), vI (o0.1 3), vL (o0.2.2.1 0), vR 2, vR 3, vI (o0.1 4), vI (o0.1 5), vR 4, vR 5, vR 6, vI (o0.1 6), vR 7, vR 8, vR 9, vI (o0.1 7), vI (o0.1 8), vR 10, vR 11, vR 12, vI (o0.1 9), vR 13, vR 14, vI (o0.1 10), vR 15, vR 16, vR 17, vI (o0.1 11), vR 18, vI (o0.1 12), vR 19, vI (o0.1 13), vI (o0.1 14), vI (o0.1 15), vI (o0.1 16), vR 20, vR 21, vI (o0.1 17), vR 22, vR 23, vI (o0.1 18), vR 24, vR 25, vR 26, vR 27, vR 28, vI (o0.1 19), vI (o0.1 20), vR 29, vR 30, vI (o0.1 21), vR 31, vI (o0.1 22)].set 31 (vI v))) = shM (sI o0 12 v) := rfl
theorem shM_0_33 {o0 : Ob} {v : Int} : (shM o0).set 0 (cO 11 ([vR 1, vI (o0.1 0), vI (o0.1 1), vI (o0.1 2), vI (o0.1 3), vL (o0.2.2.1 0), vR 2, vR 3, vI (o0.1 4), vI (o0.1 5), vR 4, vR 5, vR 6, vI (o0.1 6), vR 7, vR 8, vR 9, vI (o0.1 7), vI (o0.1 8), vR 10, vR 11, vR 12, vI (o0.1 9), vR 13, vR 14, vI (o0.1 10), vR 15, vR 16, vR 17, vI (o0.1 11), vR 18, vI (o0.1 12), vR 19, vI (o0.1 13), vI (o0.1 14), vI (o0.1 15), vI (o0.1 16), vR 20, vR 21, vI (o0.1 17), vR 22, vR 23, vI (o0.1 18), vR 24, vR 25, vR 26, vR 27, vR 28, vI (o0.1 19), vI (o0.1 20), vR 29, vR 30, vI (o0.1 21), vR 31, vI (o0.1 22)].set 33 (vI v))) = shM (sI o0 13 v) := rfl
theorem shM_0_34 {o0 : Ob} {v : Int} : (shM o0).set 0 (cO 11 ([vR 1, vI (o0.1 0), vI (o0.1 1), vI (o0.1 2), vI (o0.1 3), vL (o0.2.2.1 0), vR 2, vR 3, vI (o0.1 4), vI (o0.1 5), vR 4, vR 5, vR 6, vI (o0.1 6), vR 7, vR 8, vR 9, vI (o0.1 7), vI (o0.1 8), vR 10, vR 11, vR 12, vI (o0.1 9), vR 13, vR 14, vI (o0.1 10), vR 15, vR 16, vR 17, vI (o0.1 11), vR 18, vI (o0.1 12), vR 19, vI (o0.1 13), vI (o0.1 14), vI (o0.1 15), vI (o0.1 16), vR 20, vR 21, vI (o0.1 17), vR 22, vR 23, vI (o0.1 18), vR 24, vR 25, vR 26, vR 27, vR 28, vI (o0.1 19), vI (o0.1 20), vR 29, vR 30, vI (o0.1 21), vR 31, vI (o0.1 22)].set 34 (vI v))) = shM (sI o0 14 v) := rfl
theorem shM_0_35 {o0 : Ob} {v : Int} : (shM o0).set 0 (cO 11 ([vR 1, vI (o0.1 0), vI (o0.1 1), vI (o0.1 2), vI (o0.1 3), vL (o0.2.2.1 0), vR 2, vR 3, vI (o0.1 4), vI (o0.1 5), vR 4, vR 5, vR 6, vI (o0.1 6), vR 7, vR 8, vR 9, vI (o0.1 7), vI (o0.1 8), vR 10, vR 11, vR 12, vI (o0.1 9), vR 13, vR 14, vI (o0.1 10), vR 15, vR 16, vR 17, vI (o0.1 11), vR 18, vI (o0.1 12), vR 19, vI (o0.1 13), vI (o0.1 14), vI (o0.1 15), vI (o0.1 16), vR 20, vR 21, vI (o0.1 17), vR 22, vR 23, vI (o0.1 18), vR 24, vR 25, vR 26, vR 27, vR 28, vI (o0.1 19), vI (o0.1 20), vR 29, vR 30, vI (o0.1 21), vR 31, vI (o0.1 22)].set 35 (vI v))) = shM (sI o0 15 v) := rfl
theorem shM_0_36 {o0 : Ob} {v : Int} : (shM o0).set 0 (cO 11 ([vR 1, vI (o0.1 0), vI (o0.1 1), vI (o0.1 2), vI (o0.1 3), vL (o0.2.2.1 0), vR 2, vR 3, vI (o0.1 4), vI (o0.1 5), vR 4, vR 5, vR 6, vI (o0.1 6), vR 7, vR 8, vR 9, vI (o0.1 7), vI (o0.1 8), vR 10, vR 11, vR 12, vI (o0.1 9), vR 13, vR 14, vI (o0.1 10), vR 15, vR 16, vR 17, vI (o0.1 11), vR 18, vI (o0.1 12), vR 19, vI (o0.1 13), vI (o0.1 14), vI (o0.1 15), vI (o0.1 16), vR 20, vR 21, vI (o0.1 17), vR 22, vR 23, vI (o0.1 18), vR 24, vR 25, vR 26, vR 27, vR 28, vI (o0.1 19), vI (o0.1 20), vR 29, vR 30, vI (o0.1 21), vR 31, vI (o0.1 22)].set 36 (vI v))) = shM (sI o0 16 v) := rfl
theorem shM_0_39 {o0 : Ob} {v : Int} : (shM o0).set 0 (cO 11 ([vR 1, vI (o0.1 0), vI (o0.1 1), vI (o0.1 2), vI (o0.1 3), vL (o0.2.2.1 0), vR 2, vR 3, vI (o0.1 4), vI (o0.1 5), vR 4, vR 5, vR 6, vI (o0.1 6), vR 7, vR 8, vR 9, vI (o0.1 7), vI (o0.1 8), vR 10, vR 11, vR 12, vI (o0.1 9), vR 13, vR 14, vI (o0.1 10), vR 15, vR 16, vR 17, vI (o0.1 11), vR 18, vI (o0.1 12), vR 19, vI (o0.1 13), vI (o0.1 14), vI (o0.1 15), vI (o0.1 16), vR 20, vR 21, vI (o0.1 17), vR 22, vR 23, vI (o0.1 18), vR 24, vR 25, vR 26, vR 27, vR 28, vI (o0.1 19), vI (o0.1 20), vR 29, vR 30, vI (o0.1 21), vR 31, vI (o0.1 22)].set 39 (vI v))) = shM (sI o0 17 v) := rfl
theorem shM_0_42 {o0 : Ob} {v : Int} : (shM o0).set 0 (cO 11 ([vR 1, vI (o0.1 0), vI (o0.1 1), vI (o0.1 2), vI (o0.1 3), vL (o0.2.2.1 0), vR 2, vR 3, vI (o0.1 4), vI (o0.1 5), vR 4, vR 5, vR 6, vI (o0.1 6), vR 7, vR 8, vR 9, vI (o0.1 7), vI (o0.1 8), vR 10, vR 11, vR 12, vI (o0.1 9), vR 13, vR 14, vI (o0.1 10), vR 15, vR 16, vR 17, vI (o0.1 11), vR 18, vI (o0.1 12), vR 19, vI (o0.1 13), vI (o0.1 14), vI (o0.1 15), vI (o0.1 16), vR 20, vR 21, vI (o0.1 17), vR 22, vR 23, vI (o0.1 18), vR 24, vR 25, vR 26, vR 27, vR 28, vI (o0.1 19), vI (o0.1 20), vR 29, vR 30, vI (o0.1 21), vR 31, vI (o0.1 22)].set 42 (vI v))) = shM (sI o0 18 v) := rfl
theorem shM_0_48 {o0 : Ob} {v : Int} : (shM o0).set 0 (cO 11 ([vR 1, vI (o0.1 0), vI (o0.1 1), vI (o0.1 2), vI (o0.1 3), vL (o0.2.2.1 0), vR 2, vR 3, vI (o0.1 4), vI (o0.1 5), vR 4, vR 5, vR 6, vI (o0.1 6), vR 7, vR 8, vR 9, vI (o0.1 7), vI (o0.1 8), vR 10, vR 11, vR 12, vI (o0.1 9), vR 13, vR 14, vI (o0.1 10), vR 15, vR 16, vR 17, vI (o0.1 11), vR 18, vI (o0.1 12), vR 19, vI (o0.1 13), vI (o0.1 14), vI (o0.1 15), vI (o0.1 16), vR 20, vR 21, vI (o0.1 17), vR 22, vR 23, vI (o0.1 18), vR 24, vR 25, vR 26, vR 27, vR 28, vI (o0.1 19), vI (o0.1 20), vR 29, vR 30, vI (o0.1 21), vR 31, vI (o0.1 22)].set 48 (vI v))) = shM (sI o0 19 v) := rfl
theorem shM_0_49 {o0 : Ob} {v : Int} : (shM o0).set 0 (cO 11 ([vR 1, vI (o0.1 0), vI (o0.1 1), vI (o0.1 2), vI (o0.1 3), vL (o0.2.2.1 0), vR 2, vR 3, vI (o0.1 4), vI (o0.1 5), vR 4, vR 5, vR 6, vI (o0.1 6), vR 7, vR 8, vR 9, vI (o0.1 7), vI (o0.1 8), vR 10, vR 11, vR 12, vI (o0.1 9), vR 13, vR 14, vI (o0.1 10), vR 15, vR 16, vR 17, vI (o0.1 11), vR 18, vI (o0.1 12), vR 19, vI (o0.1 13), vI (o0.1 14), vI (o0.1 15), vI (o0.1 16), vR 20, vR 21, vI (o0.1 17), vR 22, vR 23, vI (o0.1 18), vR 24, vR 25, vR 26, vR 27, vR 28, vI (o0.1 19), vI (o0.1 20), vR 29, vR 30, vI (o0.1 21), vR 31, vI (o0.1 22)].set 49 (vI v))) = shM (sI o0 20 v) := rfl
theorem shM_0_52 {o0 : Ob} {v : Int} : (shM o0).set 0 (cO 11 ([vR 1, vI (o0.1 0), vI (o0.1 1), vI (o0.1 2), vI (o0.1 3), vL (o0.2.2.1 0), vR 2, vR 3, vI (o0.1 4), vI (o0.1 5), vR 4, vR 5, vR 6, vI (o0.1 6), vR 7, vR 8, vR 9, vI (o0.1 7), vI (o0.1 8), vR 10, vR 11, vR 12, vI (o0.1 9), vR 13, vR 14, vI (o0.1 10), vR 15, vR 16, vR 17, vI (o0.1 11), vR 18, vI (o0.1 12), vR 19, vI (o0.1 13), vI (o0.1 14), vI (o0.1 15), vI (o0.1 16), vR 20, vR 21, vI (o0.1 17), vR 22, vR 23, vI (o0.1 18), vR 24, vR 25, vR 26, vR 27, vR 28, vI (o0.1 19), vI (o0.1 20), vR 29, vR 30, vI (o0.1 21), vR 31, vI (o0.1 22)].set 52 (vI v))) = shM (sI o0 21 v) := rfl
theorem shM_0_54 {o0 : Ob} {v : Int} : (shM o0).set 0 (cO 11 ([vR 1, vI (o0.1 0), vI (o0.1 1), vI (o0.1 2), vI (o0.1 3), vL (o0.2.2.1 0), vR 2, vR 3, vI (o0.1 4), vI (o0.1 5), vR 4, vR 5, vR 6, vI (o0.1 6), vR 7, vR 8, vR 9, vI (o0.1 7), vI (o0.1 8), vR 10, vR 11, vR 12, vI (o0.1 9), vR 13, vR 14, vI (o0.1 10), vR 15, vR 16, vR 17, vI (o0.1 11), vR 18, vI (o0.1 12), vR 19, vI (o0.1 13), vI (o0.1 14), vI (o0.1 15), vI (o0.1 16), vR 20, vR 21, vI (o0.1 17), vR 22, vR 23, vI (o0.1 18), vR 24, vR 25, vR 26, vR 27, vR 28, vI (o0.1 19), vI (o0.1 20), vR 29, vR 30, vI (o0.1 21), vR 31, vI (o0.1 22)].set 54 (vI v))) = shM (sI o0 22 v) := rfl
theorem shM_1_s {o0 : Ob} {i v : Int} : (shM o0).set 1 (cI 0 240 (updI (o0.2.1 0) i v)) = shM (sA o0 0 i v) := rfl
theorem shM_2_s {o0 : Ob} {i : Int} {v : Nat} : (shM o0).set 2 (cL 500 (updN (o0.2.2.2 0) i v)) = shM (sL o0 0 i v) := rfl
theorem shM_3_s {o0 : Ob} {i v : Int} : (shM o0).set 3 (cI 0 500 (updI (o0.2.1 1) i v)) = shM (sA o0 1 i v) := rfl
theorem shM_4_s {o0 : Ob} {i v : Int} : (shM o0).set 4 (cI 0 242 (updI (o0.2.1 2) i v)) = shM (sA o0 2 i v) := rfl
theorem shM_5_s {o0 : Ob} {i v : Int} : (shM o0).set 5 (cI 0 242 (updI (o0.2.1 3) i v)) = shM (sA o0 3 i v) := rfl
theorem shM_6_s {o0 : Ob} {i v : Int} : (shM o0).set 6 (cI 0 242 (updI (o0.2.1 4) i v)) = shM (sA o0 4 i v) := rfl
theorem shM_7_s {o0 : Ob} {i v : Int} : (shM o0).set 7 (cI 0 242 (updI (o0.2.1 5) i v)) = shM (sA o0 5 i v) := rfl
theorem shM_8_s {o0 : Ob} {i : Int} {v : Nat} : (shM o0).set 8 (cL 242 (updN (o0.2.2.2 1) i v)) = shM (sL o0 1 i v) := rfl
theorem shM_9_s {o0 : Ob} {i v : Int} : (shM o0).set 9 (cI 0 242 (updI (o0.2.1 6) i v)) = shM (sA o0 6 i v) := rfl
theorem shM_10_s {o0 : Ob} {i v : Int} : (shM o0).set 10 (cI 0 16 (updI (o0.2.1 7) i v)) = shM (sA o0 7 i v) := rfl
theorem shM_11_s {o0 : Ob} {i v : Int} : (shM o0).set 11 (cI 0 16 (updI (o0.2.1 8) i v)) = shM (sA o0 8 i v) := rfl
theorem shM_12_s {o0 : Ob} {i v : Int} : (shM o0).set 12 (cI 0 16 (updI (o0.2.1 9) i v)) = shM (sA o0 9 i v) := rfl
theorem shM_13_s {o0 : Ob} {i : Int} {v : Nat} : (shM o0).set 13 (cL 1000 (updN (o0.2.2.2 2) i v)) = shM (sL o0 2 i v) := rfl
theorem shM_14_s {o0 : Ob} {i v : Int} : (shM o0).set 14 (cI 0 1000 (updI (o0.2.1 10) i v)) = shM (sA o0 10 i v) := rfl
theorem shM_15_s {o0 : Ob} {i v : Int} : (shM o0).set 15 (cI 0 25 (updI (o0.2.1 11) i v)) = shM (sA o0 11 i v) := rfl
theorem shM_16_s {o0 : Ob} {i v : Int} : (shM o0).set 16 (cI 0 25 (updI (o0.2.1 12) i v)) = shM (sA o0 12 i v) := rfl
theorem shM_17_s {o0 : Ob} {i v : Int} : (shM o0).set 17 (cI 0 200 (updI (o0.2.1 13) i v)) = shM (sA o0 13 i v) := rfl
theorem shM_18_s {o0 : Ob} {i : Int} {v : Nat} : (shM o0).set 18 (cL 300 (updN (o0.2.2.2 3) i v)) = shM (sL o0 3 i v) := rfl
theorem shM_19_s {o0 : Ob} {i v : Int} : (shM o0).set 19 (cI 0 8 (updI (o0.2.1 14) i v)) = shM (sA o0 14 i v) := rfl
theorem shM_20_s {o0 : Ob} {i v : Int} : (shM o0).set 20 (cI 0 61 (updI (o0.2.1 15) i v)) = shM (sA o0 15 i v) := rfl
theorem shM_21_s {o0 : Ob} {i v : Int} : (shM o0).set 21 (cI 0 61 (updI (o0.2.1 16) i v)) = shM (sA o0 16 i v) := rfl
theorem shM_22_s {o0 : Ob} {i v : Int} : (shM o0).set 22 (cI 0 61 (updI (o0.2.1 17) i v)) = shM (sA o0 17 i v) := rfl
theorem shM_23_s {o0 : Ob} {i v : Int} : (shM o0).set 23 (cI 0 61 (updI (o0.2.1 18) i v)) = shM (sA o0 18 i v) := rfl
theorem shM_24_s {o0 : Ob} {i v : Int} : (shM o0).set 24 (cI 0 300 (updI (o0.2.1 19) i v)) = shM (sA o0 19 i v) := rfl
theorem shM_25_s {o0 : Ob} {i v : Int} : (shM o0).set 25 (cI 0 300 (updI (o0.2.1 20) i v)) = shM (sA o0 20 i v) := rfl
theorem shM_26_s {o0 : Ob} {i v : Int} : (shM o0).set 26 (cI 0 300 (updI (o0.2.1 21) i v)) = shM (sA o0 21 i v) := rfl
theorem shM_27_s {o0 : Ob} {i v : Int} : (shM o0).set 27 (cI 0 488 (updI (o0.2.1 22) i v)) = shM (sA o0 22 i v) := rfl
theorem shM_28_s {o0 : Ob} {i v : Int} : (shM o0).set 28 (cI 0 488 (updI (o0.2.1 23) i v)) = shM (sA o0 23 i v) := rfl
theorem shM_29_s {o0 : Ob} {i v : Int} : (shM o0).set 29 (cI 0 8000 (updI (o0.2.1 24) i v)) = shM (sA o0 24 i v) := rfl
theorem shM_30_s {o0 : Ob} {i v : Int} : (shM o0).set 30 (cI 0 3000 (updI (o0.2.1 25) i v)) = shM (sA o0 25 i v) := rfl
theorem shM_31_s {o0 : Ob} {i v : Int} : (shM o0).set 31 (cI 0 488 (updI (o0.2.1 26) i v)) = shM (sA o0 26 i v) := rfl
end
section
/-! printed by wip/gen/drive.py -/
theorem t_in {w : Cond} (h : w ∈ tables_1) : w ∈ lw_tbl := List.mem_append_right _ h
theorem t_in1 {w : Cond} (h : w ∈ tables_1_1) : w ∈ tables_1 := List.mem_append_left _ (h)
theorem t_in2 {w : Cond} (h : w ∈ tables_1_2) : w ∈ tables_1 := List.mem_append_right _ (List.mem_append_left _ (h))
theorem t_in3 {w : Cond} (h : w ∈ tables_1_3) : w ∈ tables_1 := List.mem_append_right _ (List.mem_append_right _ (List.mem_append_left _ (h)))
theorem t_in4 {w : Cond} (h : w ∈ tables_1_4) : w ∈ tables_1 := List.mem_append_right _ (List.mem_append_right _ (List.mem_append_right _ (List.mem_append_left _ (h))))
theorem t_in5 {w : Cond} (h : w ∈ tables_1_5) : w ∈ tables_1 := List.mem_append_right _ (List.mem_append_right _ (List.mem_append_right _ (List.mem_append_right _ (List.mem_append_left _ (h)))))
theorem t_in6 {w : Cond} (h : w ∈ tables_1_6) : w ∈ tables_1 := List.mem_append_right _ (List.mem_append_right _ (List.mem_append_right _ (List.mem_append_right _ (List.mem_append_right _ (h)))))
set_option maxRecDepth 20000 in
theorem k_12 : (Jvm.Cond.initialized "PrunedSearchModel") ∈ Wt := List.mem_filter.mpr ⟨t_in (t_in1 (List.mem_of_getElem? (i := 12) rfl)), rfl⟩
set_option maxRecDepth 20000 in
theorem k_954 : (Jvm.Cond.fieldLink "PrunedSearchModel" (7 : Nat) "PrunedSearchModel" "text" "[I") ∈ Wt := List.mem_filter.mpr ⟨t_in (t_in4 (List.mem_of_getElem? (i := 234) rfl)), rfl⟩
set_option maxRecDepth 20000 in
theorem k_955 : (Jvm.Cond.fieldLink "PrunedSearchModel" (116 : Nat) "PrunedSearchModel" "typed" "I") ∈ Wt := List.mem_filter.mpr ⟨t_in (t_in4 (List.mem_of_getElem? (i := 235) rfl)), rfl⟩
set_option maxRecDepth 20000 in
theorem k_956 : (Jvm.Cond.fieldLink "PrunedSearchModel" (130 : Nat) "PrunedSearchModel" "token" "I") ∈ Wt := List.mem_filter.mpr ⟨t_in (t_in4 (List.mem_of_getElem? (i := 236) rfl)), rfl⟩
set_option maxRecDepth 20000 in
theorem k_957 : (Jvm.Cond.fieldLink "PrunedSearchModel" (123 : Nat) "PrunedSearchModel" "place" "I") ∈ Wt := List.mem_filter.mpr ⟨t_in (t_in4 (List.mem_of_getElem? (i := 237) rfl)), rfl⟩
set_option maxRecDepth 20000 in
theorem k_958 : (Jvm.Cond.fieldLink "PrunedSearchModel" (120 : Nat) "PrunedSearchModel" "after" "I") ∈ Wt := List.mem_filter.mpr ⟨t_in (t_in4 (List.mem_of_getElem? (i := 238) rfl)), rfl⟩
set_option maxRecDepth 20000 in
theorem k_959 : (Jvm.Cond.fieldLink "PrunedSearchModel" (133 : Nat) "PrunedSearchModel" "word" "J") ∈ Wt := List.mem_filter.mpr ⟨t_in (t_in4 (List.mem_of_getElem? (i := 239) rfl)), rfl⟩
set_option maxRecDepth 20000 in
theorem k_960 : (Jvm.Cond.fieldLink "PrunedSearchModel" (13 : Nat) "PrunedSearchModel" "readCode" "[J") ∈ Wt := List.mem_filter.mpr ⟨t_in (t_in5 (List.mem_of_getElem? (i := 0) rfl)), rfl⟩
set_option maxRecDepth 20000 in
theorem k_961 : (Jvm.Cond.fieldLink "PrunedSearchModel" (17 : Nat) "PrunedSearchModel" "readArity" "[I") ∈ Wt := List.mem_filter.mpr ⟨t_in (t_in5 (List.mem_of_getElem? (i := 1) rfl)), rfl⟩
set_option maxRecDepth 20000 in
theorem k_962 : (Jvm.Cond.fieldLink "PrunedSearchModel" (137 : Nat) "PrunedSearchModel" "symbols" "I") ∈ Wt := List.mem_filter.mpr ⟨t_in (t_in5 (List.mem_of_getElem? (i := 2) rfl)), rfl⟩
set_option maxRecDepth 20000 in
theorem k_963 : (Jvm.Cond.fieldLink "PrunedSearchModel" (149 : Nat) "PrunedSearchModel" "pieces" "I") ∈ Wt := List.mem_filter.mpr ⟨t_in (t_in5 (List.mem_of_getElem? (i := 3) rfl)), rfl⟩
set_option maxRecDepth 20000 in
theorem k_964 : (Jvm.Cond.fieldLink "PrunedSearchModel" (20 : Nat) "PrunedSearchModel" "pieceAt" "[I") ∈ Wt := List.mem_filter.mpr ⟨t_in (t_in5 (List.mem_of_getElem? (i := 4) rfl)), rfl⟩
set_option maxRecDepth 20000 in
theorem k_965 : (Jvm.Cond.fieldLink "PrunedSearchModel" (23 : Nat) "PrunedSearchModel" "pieceGoals" "[I") ∈ Wt := List.mem_filter.mpr ⟨t_in (t_in5 (List.mem_of_getElem? (i := 5) rfl)), rfl⟩
set_option maxRecDepth 20000 in
theorem k_966 : (Jvm.Cond.fieldLink "PrunedSearchModel" (26 : Nat) "PrunedSearchModel" "pieceVars" "[I") ∈ Wt := List.mem_filter.mpr ⟨t_in (t_in5 (List.mem_of_getElem? (i := 6) rfl)), rfl⟩
set_option maxRecDepth 20000 in
theorem k_967 : (Jvm.Cond.fieldLink "PrunedSearchModel" (152 : Nat) "PrunedSearchModel" "goalsRead" "I") ∈ Wt := List.mem_filter.mpr ⟨t_in (t_in5 (List.mem_of_getElem? (i := 7) rfl)), rfl⟩
set_option maxRecDepth 20000 in
theorem k_968 : (Jvm.Cond.fieldLink "PrunedSearchModel" (29 : Nat) "PrunedSearchModel" "readGoal" "[I") ∈ Wt := List.mem_filter.mpr ⟨t_in (t_in5 (List.mem_of_getElem? (i := 8) rfl)), rfl⟩
set_option maxRecDepth 20000 in
theorem k_969 : (Jvm.Cond.fieldLink "PrunedSearchModel" (32 : Nat) "PrunedSearchModel" "varWord" "[J") ∈ Wt := List.mem_filter.mpr ⟨t_in (t_in5 (List.mem_of_getElem? (i := 9) rfl)), rfl⟩
set_option maxRecDepth 20000 in
theorem k_970 : (Jvm.Cond.fieldLink "PrunedSearchModel" (35 : Nat) "PrunedSearchModel" "varAt" "[I") ∈ Wt := List.mem_filter.mpr ⟨t_in (t_in5 (List.mem_of_getElem? (i := 10) rfl)), rfl⟩
set_option maxRecDepth 20000 in
theorem k_971 : (Jvm.Cond.fieldLink "PrunedSearchModel" (140 : Nat) "PrunedSearchModel" "vars" "I") ∈ Wt := List.mem_filter.mpr ⟨t_in (t_in5 (List.mem_of_getElem? (i := 11) rfl)), rfl⟩
set_option maxRecDepth 20000 in
theorem k_972 : (Jvm.Cond.fieldLink "PrunedSearchModel" (155 : Nat) "PrunedSearchModel" "open" "I") ∈ Wt := List.mem_filter.mpr ⟨t_in (t_in5 (List.mem_of_getElem? (i := 12) rfl)), rfl⟩
set_option maxRecDepth 20000 in
theorem k_973 : (Jvm.Cond.fieldLink "PrunedSearchModel" (38 : Nat) "PrunedSearchModel" "kind" "[I") ∈ Wt := List.mem_filter.mpr ⟨t_in (t_in5 (List.mem_of_getElem? (i := 13) rfl)), rfl⟩
set_option maxRecDepth 20000 in
theorem k_974 : (Jvm.Cond.fieldLink "PrunedSearchModel" (41 : Nat) "PrunedSearchModel" "owner" "[I") ∈ Wt := List.mem_filter.mpr ⟨t_in (t_in5 (List.mem_of_getElem? (i := 14) rfl)), rfl⟩
set_option maxRecDepth 20000 in
theorem k_975 : (Jvm.Cond.fieldLink "PrunedSearchModel" (44 : Nat) "PrunedSearchModel" "count" "[I") ∈ Wt := List.mem_filter.mpr ⟨t_in (t_in5 (List.mem_of_getElem? (i := 15) rfl)), rfl⟩
set_option maxRecDepth 20000 in
theorem k_976 : (Jvm.Cond.fieldLink "PrunedSearchModel" (158 : Nat) "PrunedSearchModel" "fresh" "Z") ∈ Wt := List.mem_filter.mpr ⟨t_in (t_in5 (List.mem_of_getElem? (i := 16) rfl)), rfl⟩
set_option maxRecDepth 20000 in
theorem k_977 : (Jvm.Cond.fieldLink "PrunedSearchModel" (47 : Nat) "PrunedSearchModel" "code" "[J") ∈ Wt := List.mem_filter.mpr ⟨t_in (t_in5 (List.mem_of_getElem? (i := 17) rfl)), rfl⟩
set_option maxRecDepth 20000 in
theorem k_978 : (Jvm.Cond.fieldLink "PrunedSearchModel" (50 : Nat) "PrunedSearchModel" "arity" "[I") ∈ Wt := List.mem_filter.mpr ⟨t_in (t_in5 (List.mem_of_getElem? (i := 18) rfl)), rfl⟩
set_option maxRecDepth 20000 in
theorem k_979 : (Jvm.Cond.fieldLink "PrunedSearchModel" (221 : Nat) "PrunedSearchModel" "known" "I") ∈ Wt := List.mem_filter.mpr ⟨t_in (t_in5 (List.mem_of_getElem? (i := 19) rfl)), rfl⟩
set_option maxRecDepth 20000 in
theorem k_980 : (Jvm.Cond.fieldLink "PrunedSearchModel" (53 : Nat) "PrunedSearchModel" "size" "[I") ∈ Wt := List.mem_filter.mpr ⟨t_in (t_in5 (List.mem_of_getElem? (i := 20) rfl)), rfl⟩
set_option maxRecDepth 20000 in
theorem k_981 : (Jvm.Cond.fieldLink "PrunedSearchModel" (56 : Nat) "PrunedSearchModel" "goalCount" "[I") ∈ Wt := List.mem_filter.mpr ⟨t_in (t_in5 (List.mem_of_getElem? (i := 21) rfl)), rfl⟩
set_option maxRecDepth 20000 in
theorem k_982 : (Jvm.Cond.fieldLink "PrunedSearchModel" (59 : Nat) "PrunedSearchModel" "goalAt" "[I") ∈ Wt := List.mem_filter.mpr ⟨t_in (t_in5 (List.mem_of_getElem? (i := 22) rfl)), rfl⟩
set_option maxRecDepth 20000 in
theorem k_983 : (Jvm.Cond.fieldLink "PrunedSearchModel" (196 : Nat) "PrunedSearchModel" "names" "I") ∈ Wt := List.mem_filter.mpr ⟨t_in (t_in5 (List.mem_of_getElem? (i := 23) rfl)), rfl⟩
set_option maxRecDepth 20000 in
theorem k_984 : (Jvm.Cond.fieldLink "PrunedSearchModel" (62 : Nat) "PrunedSearchModel" "nameOf" "[J") ∈ Wt := List.mem_filter.mpr ⟨t_in (t_in5 (List.mem_of_getElem? (i := 24) rfl)), rfl⟩
set_option maxRecDepth 20000 in
theorem k_985 : (Jvm.Cond.fieldLink "PrunedSearchModel" (235 : Nat) "PrunedSearchModel" "asked" "I") ∈ Wt := List.mem_filter.mpr ⟨t_in (t_in5 (List.mem_of_getElem? (i := 25) rfl)), rfl⟩
set_option maxRecDepth 20000 in
theorem k_986 : (Jvm.Cond.fieldLink "PrunedSearchModel" (65 : Nat) "PrunedSearchModel" "askedAt" "[I") ∈ Wt := List.mem_filter.mpr ⟨t_in (t_in5 (List.mem_of_getElem? (i := 26) rfl)), rfl⟩
set_option maxRecDepth 20000 in
theorem k_987 : (Jvm.Cond.fieldLink "PrunedSearchModel" (199 : Nat) "PrunedSearchModel" "status" "I") ∈ Wt := List.mem_filter.mpr ⟨t_in (t_in5 (List.mem_of_getElem? (i := 27) rfl)), rfl⟩
set_option maxRecDepth 20000 in
theorem k_988 : (Jvm.Cond.fieldLink "PrunedSearchModel" (288 : Nat) "PrunedSearchModel" "ending" "I") ∈ Wt := List.mem_filter.mpr ⟨t_in (t_in5 (List.mem_of_getElem? (i := 28) rfl)), rfl⟩
set_option maxRecDepth 20000 in
theorem k_989 : (Jvm.Cond.fieldLink "PrunedSearchModel" (202 : Nat) "PrunedSearchModel" "tried" "I") ∈ Wt := List.mem_filter.mpr ⟨t_in (t_in5 (List.mem_of_getElem? (i := 29) rfl)), rfl⟩
set_option maxRecDepth 20000 in
theorem k_990 : (Jvm.Cond.fieldLink "PrunedSearchModel" (205 : Nat) "PrunedSearchModel" "depth" "I") ∈ Wt := List.mem_filter.mpr ⟨t_in (t_in5 (List.mem_of_getElem? (i := 30) rfl)), rfl⟩
set_option maxRecDepth 20000 in
theorem k_991 : (Jvm.Cond.fieldLink "PrunedSearchModel" (68 : Nat) "PrunedSearchModel" "pathClause" "[I") ∈ Wt := List.mem_filter.mpr ⟨t_in (t_in5 (List.mem_of_getElem? (i := 31) rfl)), rfl⟩
set_option maxRecDepth 20000 in
theorem k_992 : (Jvm.Cond.fieldLink "PrunedSearchModel" (71 : Nat) "PrunedSearchModel" "pathCut" "[I") ∈ Wt := List.mem_filter.mpr ⟨t_in (t_in5 (List.mem_of_getElem? (i := 32) rfl)), rfl⟩
set_option maxRecDepth 20000 in
theorem k_993 : (Jvm.Cond.fieldLink "PrunedSearchModel" (208 : Nat) "PrunedSearchModel" "picks" "I") ∈ Wt := List.mem_filter.mpr ⟨t_in (t_in5 (List.mem_of_getElem? (i := 33) rfl)), rfl⟩
set_option maxRecDepth 20000 in
theorem k_994 : (Jvm.Cond.fieldLink "PrunedSearchModel" (74 : Nat) "PrunedSearchModel" "choiceDepth" "[I") ∈ Wt := List.mem_filter.mpr ⟨t_in (t_in5 (List.mem_of_getElem? (i := 34) rfl)), rfl⟩
set_option maxRecDepth 20000 in
theorem k_995 : (Jvm.Cond.fieldLink "PrunedSearchModel" (77 : Nat) "PrunedSearchModel" "choiceLast" "[I") ∈ Wt := List.mem_filter.mpr ⟨t_in (t_in5 (List.mem_of_getElem? (i := 35) rfl)), rfl⟩
set_option maxRecDepth 20000 in
theorem k_996 : (Jvm.Cond.fieldLink "PrunedSearchModel" (211 : Nat) "PrunedSearchModel" "left" "I") ∈ Wt := List.mem_filter.mpr ⟨t_in (t_in5 (List.mem_of_getElem? (i := 36) rfl)), rfl⟩
set_option maxRecDepth 20000 in
theorem k_997 : (Jvm.Cond.fieldLink "PrunedSearchModel" (80 : Nat) "PrunedSearchModel" "goal" "[I") ∈ Wt := List.mem_filter.mpr ⟨t_in (t_in5 (List.mem_of_getElem? (i := 37) rfl)), rfl⟩
set_option maxRecDepth 20000 in
theorem k_998 : (Jvm.Cond.fieldLink "PrunedSearchModel" (83 : Nat) "PrunedSearchModel" "goalFrame" "[I") ∈ Wt := List.mem_filter.mpr ⟨t_in (t_in5 (List.mem_of_getElem? (i := 38) rfl)), rfl⟩
set_option maxRecDepth 20000 in
theorem k_999 : (Jvm.Cond.fieldLink "PrunedSearchModel" (86 : Nat) "PrunedSearchModel" "goalCut" "[I") ∈ Wt := List.mem_filter.mpr ⟨t_in (t_in5 (List.mem_of_getElem? (i := 39) rfl)), rfl⟩
set_option maxRecDepth 20000 in
theorem k_1000 : (Jvm.Cond.fieldLink "PrunedSearchModel" (89 : Nat) "PrunedSearchModel" "standsAt" "[I") ∈ Wt := List.mem_filter.mpr ⟨t_in (t_in5 (List.mem_of_getElem? (i := 40) rfl)), rfl⟩
set_option maxRecDepth 20000 in
theorem k_1001 : (Jvm.Cond.fieldLink "PrunedSearchModel" (92 : Nat) "PrunedSearchModel" "standsIn" "[I") ∈ Wt := List.mem_filter.mpr ⟨t_in (t_in5 (List.mem_of_getElem? (i := 41) rfl)), rfl⟩
set_option maxRecDepth 20000 in
theorem k_1002 : (Jvm.Cond.fieldLink "PrunedSearchModel" (241 : Nat) "PrunedSearchModel" "seenAt" "I") ∈ Wt := List.mem_filter.mpr ⟨t_in (t_in5 (List.mem_of_getElem? (i := 42) rfl)), rfl⟩
set_option maxRecDepth 20000 in
theorem k_1003 : (Jvm.Cond.fieldLink "PrunedSearchModel" (244 : Nat) "PrunedSearchModel" "seenIn" "I") ∈ Wt := List.mem_filter.mpr ⟨t_in (t_in5 (List.mem_of_getElem? (i := 43) rfl)), rfl⟩
set_option maxRecDepth 20000 in
theorem k_1004 : (Jvm.Cond.fieldLink "PrunedSearchModel" (95 : Nat) "PrunedSearchModel" "stack" "[I") ∈ Wt := List.mem_filter.mpr ⟨t_in (t_in5 (List.mem_of_getElem? (i := 44) rfl)), rfl⟩
set_option maxRecDepth 20000 in
theorem k_1005 : (Jvm.Cond.fieldLink "PrunedSearchModel" (98 : Nat) "PrunedSearchModel" "out" "[I") ∈ Wt := List.mem_filter.mpr ⟨t_in (t_in5 (List.mem_of_getElem? (i := 45) rfl)), rfl⟩
set_option maxRecDepth 20000 in
theorem k_1006 : (Jvm.Cond.fieldLink "PrunedSearchModel" (317 : Nat) "PrunedSearchModel" "written" "I") ∈ Wt := List.mem_filter.mpr ⟨t_in (t_in5 (List.mem_of_getElem? (i := 46) rfl)), rfl⟩
set_option maxRecDepth 20000 in
theorem k_1007 : (Jvm.Cond.fieldLink "PrunedSearchModel" (101 : Nat) "PrunedSearchModel" "shown" "[I") ∈ Wt := List.mem_filter.mpr ⟨t_in (t_in5 (List.mem_of_getElem? (i := 47) rfl)), rfl⟩
set_option maxRecDepth 20000 in
theorem k_1008 : (Jvm.Cond.fieldLink "PrunedSearchModel" (323 : Nat) "PrunedSearchModel" "numbered" "I") ∈ Wt := List.mem_filter.mpr ⟨t_in (t_in5 (List.mem_of_getElem? (i := 48) rfl)), rfl⟩
set_option maxRecDepth 20000 in
theorem k_1124 : (Jvm.Cond.constantLong "PrunedSearchModel" (108 : Nat) (255 : Int64)) ∈ Wt := List.mem_filter.mpr ⟨t_in (t_in5 (List.mem_of_getElem? (i := 164) rfl)), rfl⟩
set_option maxRecDepth 20000 in
theorem k_1125 : (Jvm.Cond.methodLink "PrunedSearchModel" (110 : Nat) ({ cls := "PrunedSearchModel", name := "isWord", desc := "(I)Z" } : Jvm.MethodName)) ∈ Wt := List.mem_filter.mpr ⟨t_in (t_in5 (List.mem_of_getElem? (i := 165) rfl)), rfl⟩
set_option maxRecDepth 20000 in
theorem k_1126 : (Jvm.Cond.static ({ cls := "PrunedSearchModel", name := "isWord", desc := "(I)Z" } : Jvm.MethodName)) ∈ Wt := List.mem_filter.mpr ⟨t_in (t_in5 (List.mem_of_getElem? (i := 166) rfl)), rfl⟩
set_option maxRecDepth 20000 in
theorem k_1127 : (Jvm.Cond.code ({ cls := "PrunedSearchModel", name := "isWord", desc := "(I)Z" } : Jvm.MethodName) prog_13_method_3_code (1 : Nat) (Option.some Jvm.ClassFile.FieldType.boolean)) ∈ Wt := List.mem_filter.mpr ⟨t_in (t_in5 (List.mem_of_getElem? (i := 167) rfl)), rfl⟩
set_option maxRecDepth 20000 in
theorem k_1128 : (Jvm.Cond.methodLink "PrunedSearchModel" (104 : Nat) ({ cls := "PrunedSearchModel", name := "isSmall", desc := "(I)Z" } : Jvm.MethodName)) ∈ Wt := List.mem_filter.mpr ⟨t_in (t_in5 (List.mem_of_getElem? (i := 168) rfl)), rfl⟩
set_option maxRecDepth 20000 in
theorem k_1129 : (Jvm.Cond.static ({ cls := "PrunedSearchModel", name := "isSmall", desc := "(I)Z" } : Jvm.MethodName)) ∈ Wt := List.mem_filter.mpr ⟨t_in (t_in5 (List.mem_of_getElem? (i := 169) rfl)), rfl⟩
set_option maxRecDepth 20000 in
theorem k_1130 : (Jvm.Cond.code ({ cls := "PrunedSearchModel", name := "isSmall", desc := "(I)Z" } : Jvm.MethodName) prog_13_method_2_code (1 : Nat) (Option.some Jvm.ClassFile.FieldType.boolean)) ∈ Wt := List.mem_filter.mpr ⟨t_in (t_in5 (List.mem_of_getElem? (i := 170) rfl)), rfl⟩
set_option maxRecDepth 20000 in
theorem k_1131 : (Jvm.Cond.methodLink "PrunedSearchModel" (113 : Nat) ({ cls := "PrunedSearchModel", name := "isSign", desc := "(I)Z" } : Jvm.MethodName)) ∈ Wt := List.mem_filter.mpr ⟨t_in (t_in5 (List.mem_of_getElem? (i := 171) rfl)), rfl⟩
set_option maxRecDepth 20000 in
theorem k_1132 : (Jvm.Cond.static ({ cls := "PrunedSearchModel", name := "isSign", desc := "(I)Z" } : Jvm.MethodName)) ∈ Wt := List.mem_filter.mpr ⟨t_in (t_in5 (List.mem_of_getElem? (i := 172) rfl)), rfl⟩
set_option maxRecDepth 20000 in
theorem k_1133 : (Jvm.Cond.code ({ cls := "PrunedSearchModel", name := "isSign", desc := "(I)Z" } : Jvm.MethodName) prog_13_method_4_code (1 : Nat) (Option.some Jvm.ClassFile.FieldType.boolean)) ∈ Wt := List.mem_filter.mpr ⟨t_in (t_in5 (List.mem_of_getElem? (i := 173) rfl)), rfl⟩
set_option maxRecDepth 20000 in
theorem k_1138 : (Jvm.Cond.methodLink "PrunedSearchModel" (214 : Nat) ({ cls := "PrunedSearchModel", name := "read", desc := "(Z)I" } : Jvm.MethodName)) ∈ Wt := List.mem_filter.mpr ⟨t_in (t_in5 (List.mem_of_getElem? (i := 178) rfl)), rfl⟩
set_option maxRecDepth 20000 in
theorem k_1140 : (Jvm.Cond.instanceMethod ({ cls := "PrunedSearchModel", name := "read", desc := "(Z)I" } : Jvm.MethodName)) ∈ Wt := List.mem_filter.mpr ⟨t_in (t_in5 (List.mem_of_getElem? (i := 180) rfl)), rfl⟩
set_option maxRecDepth 20000 in
theorem k_1141 : (Jvm.Cond.code ({ cls := "PrunedSearchModel", name := "read", desc := "(Z)I" } : Jvm.MethodName) prog_13_method_17_code (6 : Nat) (Option.some Jvm.ClassFile.FieldType.int)) ∈ Wt := List.mem_filter.mpr ⟨t_in (t_in5 (List.mem_of_getElem? (i := 181) rfl)), rfl⟩
set_option maxRecDepth 20000 in
theorem k_1142 : (Jvm.Cond.methodLink "PrunedSearchModel" (170 : Nat) ({ cls := "PrunedSearchModel", name := "beginPiece", desc := "()V" } : Jvm.MethodName)) ∈ Wt := List.mem_filter.mpr ⟨t_in (t_in5 (List.mem_of_getElem? (i := 182) rfl)), rfl⟩
set_option maxRecDepth 20000 in
theorem k_1144 : (Jvm.Cond.instanceMethod ({ cls := "PrunedSearchModel", name := "beginPiece", desc := "()V" } : Jvm.MethodName)) ∈ Wt := List.mem_filter.mpr ⟨t_in (t_in5 (List.mem_of_getElem? (i := 184) rfl)), rfl⟩
set_option maxRecDepth 20000 in
theorem k_1145 : (Jvm.Cond.code ({ cls := "PrunedSearchModel", name := "beginPiece", desc := "()V" } : Jvm.MethodName) prog_13_method_10_code (1 : Nat) (Option.none : Option Jvm.ClassFile.FieldType)) ∈ Wt := List.mem_filter.mpr ⟨t_in (t_in5 (List.mem_of_getElem? (i := 185) rfl)), rfl⟩
set_option maxRecDepth 20000 in
theorem k_1146 : (Jvm.Cond.methodLink "PrunedSearchModel" (179 : Nat) ({ cls := "PrunedSearchModel", name := "take", desc := "()V" } : Jvm.MethodName)) ∈ Wt := List.mem_filter.mpr ⟨t_in (t_in5 (List.mem_of_getElem? (i := 186) rfl)), rfl⟩
set_option maxRecDepth 20000 in
theorem k_1148 : (Jvm.Cond.instanceMethod ({ cls := "PrunedSearchModel", name := "take", desc := "()V" } : Jvm.MethodName)) ∈ Wt := List.mem_filter.mpr ⟨t_in (t_in5 (List.mem_of_getElem? (i := 188) rfl)), rfl⟩
set_option maxRecDepth 20000 in
theorem k_1149 : (Jvm.Cond.code ({ cls := "PrunedSearchModel", name := "take", desc := "()V" } : Jvm.MethodName) prog_13_method_7_code (2 : Nat) (Option.none : Option Jvm.ClassFile.FieldType)) ∈ Wt := List.mem_filter.mpr ⟨t_in (t_in5 (List.mem_of_getElem? (i := 189) rfl)), rfl⟩
set_option maxRecDepth 20000 in
theorem k_1150 : (Jvm.Cond.methodLink "PrunedSearchModel" (126 : Nat) ({ cls := "PrunedSearchModel", name := "at", desc := "(I)I" } : Jvm.MethodName)) ∈ Wt := List.mem_filter.mpr ⟨t_in (t_in5 (List.mem_of_getElem? (i := 190) rfl)), rfl⟩
set_option maxRecDepth 20000 in
theorem k_1152 : (Jvm.Cond.instanceMethod ({ cls := "PrunedSearchModel", name := "at", desc := "(I)I" } : Jvm.MethodName)) ∈ Wt := List.mem_filter.mpr ⟨t_in (t_in5 (List.mem_of_getElem? (i := 192) rfl)), rfl⟩
set_option maxRecDepth 20000 in
theorem k_1153 : (Jvm.Cond.code ({ cls := "PrunedSearchModel", name := "at", desc := "(I)I" } : Jvm.MethodName) prog_13_method_6_code (2 : Nat) (Option.some Jvm.ClassFile.FieldType.int)) ∈ Wt := List.mem_filter.mpr ⟨t_in (t_in5 (List.mem_of_getElem? (i := 193) rfl)), rfl⟩
set_option maxRecDepth 20000 in
theorem k_1154 : (Jvm.Cond.methodLink "PrunedSearchModel" (165 : Nat) ({ cls := "PrunedSearchModel", name := "push", desc := "(I)Z" } : Jvm.MethodName)) ∈ Wt := List.mem_filter.mpr ⟨t_in (t_in5 (List.mem_of_getElem? (i := 194) rfl)), rfl⟩
set_option maxRecDepth 20000 in
theorem k_1156 : (Jvm.Cond.instanceMethod ({ cls := "PrunedSearchModel", name := "push", desc := "(I)Z" } : Jvm.MethodName)) ∈ Wt := List.mem_filter.mpr ⟨t_in (t_in5 (List.mem_of_getElem? (i := 196) rfl)), rfl⟩
set_option maxRecDepth 20000 in
theorem k_1157 : (Jvm.Cond.code ({ cls := "PrunedSearchModel", name := "push", desc := "(I)Z" } : Jvm.MethodName) prog_13_method_13_code (2 : Nat) (Option.some Jvm.ClassFile.FieldType.boolean)) ∈ Wt := List.mem_filter.mpr ⟨t_in (t_in5 (List.mem_of_getElem? (i := 197) rfl)), rfl⟩
set_option maxRecDepth 20000 in
theorem k_1158 : (Jvm.Cond.methodLink "PrunedSearchModel" (182 : Nat) ({ cls := "PrunedSearchModel", name := "outside", desc := "(IZ)I" } : Jvm.MethodName)) ∈ Wt := List.mem_filter.mpr ⟨t_in (t_in5 (List.mem_of_getElem? (i := 198) rfl)), rfl⟩
set_option maxRecDepth 20000 in
theorem k_1160 : (Jvm.Cond.instanceMethod ({ cls := "PrunedSearchModel", name := "outside", desc := "(IZ)I" } : Jvm.MethodName)) ∈ Wt := List.mem_filter.mpr ⟨t_in (t_in5 (List.mem_of_getElem? (i := 200) rfl)), rfl⟩
set_option maxRecDepth 20000 in
theorem k_1161 : (Jvm.Cond.code ({ cls := "PrunedSearchModel", name := "outside", desc := "(IZ)I" } : Jvm.MethodName) prog_13_method_16_code (3 : Nat) (Option.some Jvm.ClassFile.FieldType.int)) ∈ Wt := List.mem_filter.mpr ⟨t_in (t_in5 (List.mem_of_getElem? (i := 201) rfl)), rfl⟩
set_option maxRecDepth 20000 in
theorem k_1162 : (Jvm.Cond.methodLink "PrunedSearchModel" (173 : Nat) ({ cls := "PrunedSearchModel", name := "beginGoal", desc := "()V" } : Jvm.MethodName)) ∈ Wt := List.mem_filter.mpr ⟨t_in (t_in5 (List.mem_of_getElem? (i := 202) rfl)), rfl⟩
set_option maxRecDepth 20000 in
theorem k_1164 : (Jvm.Cond.instanceMethod ({ cls := "PrunedSearchModel", name := "beginGoal", desc := "()V" } : Jvm.MethodName)) ∈ Wt := List.mem_filter.mpr ⟨t_in (t_in5 (List.mem_of_getElem? (i := 204) rfl)), rfl⟩
set_option maxRecDepth 20000 in
theorem k_1165 : (Jvm.Cond.code ({ cls := "PrunedSearchModel", name := "beginGoal", desc := "()V" } : Jvm.MethodName) prog_13_method_11_code (1 : Nat) (Option.none : Option Jvm.ClassFile.FieldType)) ∈ Wt := List.mem_filter.mpr ⟨t_in (t_in5 (List.mem_of_getElem? (i := 205) rfl)), rfl⟩
set_option maxRecDepth 20000 in
theorem k_1166 : (Jvm.Cond.methodLink "PrunedSearchModel" (145 : Nat) ({ cls := "PrunedSearchModel", name := "emit", desc := "(JI)V" } : Jvm.MethodName)) ∈ Wt := List.mem_filter.mpr ⟨t_in (t_in5 (List.mem_of_getElem? (i := 206) rfl)), rfl⟩
set_option maxRecDepth 20000 in
theorem k_1168 : (Jvm.Cond.instanceMethod ({ cls := "PrunedSearchModel", name := "emit", desc := "(JI)V" } : Jvm.MethodName)) ∈ Wt := List.mem_filter.mpr ⟨t_in (t_in5 (List.mem_of_getElem? (i := 208) rfl)), rfl⟩
set_option maxRecDepth 20000 in
theorem k_1169 : (Jvm.Cond.code ({ cls := "PrunedSearchModel", name := "emit", desc := "(JI)V" } : Jvm.MethodName) prog_13_method_8_code (4 : Nat) (Option.none : Option Jvm.ClassFile.FieldType)) ∈ Wt := List.mem_filter.mpr ⟨t_in (t_in5 (List.mem_of_getElem? (i := 209) rfl)), rfl⟩
set_option maxRecDepth 20000 in
theorem k_1170 : (Jvm.Cond.methodLink "PrunedSearchModel" (176 : Nat) ({ cls := "PrunedSearchModel", name := "endPiece", desc := "()V" } : Jvm.MethodName)) ∈ Wt := List.mem_filter.mpr ⟨t_in (t_in5 (List.mem_of_getElem? (i := 210) rfl)), rfl⟩
set_option maxRecDepth 20000 in
theorem k_1172 : (Jvm.Cond.instanceMethod ({ cls := "PrunedSearchModel", name := "endPiece", desc := "()V" } : Jvm.MethodName)) ∈ Wt := List.mem_filter.mpr ⟨t_in (t_in5 (List.mem_of_getElem? (i := 212) rfl)), rfl⟩
set_option maxRecDepth 20000 in
theorem k_1173 : (Jvm.Cond.code ({ cls := "PrunedSearchModel", name := "endPiece", desc := "()V" } : Jvm.MethodName) prog_13_method_12_code (1 : Nat) (Option.none : Option Jvm.ClassFile.FieldType)) ∈ Wt := List.mem_filter.mpr ⟨t_in (t_in5 (List.mem_of_getElem? (i := 213) rfl)), rfl⟩
set_option maxRecDepth 20000 in
theorem k_1174 : (Jvm.Cond.constantLong "PrunedSearchModel" (168 : Nat) (2 : Int64)) ∈ Wt := List.mem_filter.mpr ⟨t_in (t_in5 (List.mem_of_getElem? (i := 214) rfl)), rfl⟩
set_option maxRecDepth 20000 in
theorem k_1175 : (Jvm.Cond.methodLink "PrunedSearchModel" (186 : Nat) ({ cls := "PrunedSearchModel", name := "beginTerm", desc := "()Z" } : Jvm.MethodName)) ∈ Wt := List.mem_filter.mpr ⟨t_in (t_in5 (List.mem_of_getElem? (i := 215) rfl)), rfl⟩
set_option maxRecDepth 20000 in
theorem k_1177 : (Jvm.Cond.instanceMethod ({ cls := "PrunedSearchModel", name := "beginTerm", desc := "()Z" } : Jvm.MethodName)) ∈ Wt := List.mem_filter.mpr ⟨t_in (t_in5 (List.mem_of_getElem? (i := 217) rfl)), rfl⟩
set_option maxRecDepth 20000 in
theorem k_1178 : (Jvm.Cond.code ({ cls := "PrunedSearchModel", name := "beginTerm", desc := "()Z" } : Jvm.MethodName) prog_13_method_14_code (1 : Nat) (Option.some Jvm.ClassFile.FieldType.boolean)) ∈ Wt := List.mem_filter.mpr ⟨t_in (t_in5 (List.mem_of_getElem? (i := 218) rfl)), rfl⟩
set_option maxRecDepth 20000 in
theorem k_1179 : (Jvm.Cond.methodLink "PrunedSearchModel" (162 : Nat) ({ cls := "PrunedSearchModel", name := "emitVariable", desc := "()V" } : Jvm.MethodName)) ∈ Wt := List.mem_filter.mpr ⟨t_in (t_in5 (List.mem_of_getElem? (i := 219) rfl)), rfl⟩
set_option maxRecDepth 20000 in
theorem k_1181 : (Jvm.Cond.instanceMethod ({ cls := "PrunedSearchModel", name := "emitVariable", desc := "()V" } : Jvm.MethodName)) ∈ Wt := List.mem_filter.mpr ⟨t_in (t_in5 (List.mem_of_getElem? (i := 221) rfl)), rfl⟩
set_option maxRecDepth 20000 in
theorem k_1182 : (Jvm.Cond.code ({ cls := "PrunedSearchModel", name := "emitVariable", desc := "()V" } : Jvm.MethodName) prog_13_method_9_code (3 : Nat) (Option.none : Option Jvm.ClassFile.FieldType)) ∈ Wt := List.mem_filter.mpr ⟨t_in (t_in5 (List.mem_of_getElem? (i := 222) rfl)), rfl⟩
set_option maxRecDepth 20000 in
theorem k_1183 : (Jvm.Cond.constantLong "PrunedSearchModel" (143 : Nat) (95 : Int64)) ∈ Wt := List.mem_filter.mpr ⟨t_in (t_in5 (List.mem_of_getElem? (i := 223) rfl)), rfl⟩
set_option maxRecDepth 20000 in
theorem k_1184 : (Jvm.Cond.methodLink "PrunedSearchModel" (190 : Nat) ({ cls := "PrunedSearchModel", name := "goOn", desc := "()Z" } : Jvm.MethodName)) ∈ Wt := List.mem_filter.mpr ⟨t_in (t_in5 (List.mem_of_getElem? (i := 224) rfl)), rfl⟩
set_option maxRecDepth 20000 in
theorem k_1186 : (Jvm.Cond.instanceMethod ({ cls := "PrunedSearchModel", name := "goOn", desc := "()Z" } : Jvm.MethodName)) ∈ Wt := List.mem_filter.mpr ⟨t_in (t_in5 (List.mem_of_getElem? (i := 226) rfl)), rfl⟩
set_option maxRecDepth 20000 in
theorem k_1187 : (Jvm.Cond.code ({ cls := "PrunedSearchModel", name := "goOn", desc := "()Z" } : Jvm.MethodName) prog_13_method_15_code (2 : Nat) (Option.some Jvm.ClassFile.FieldType.boolean)) ∈ Wt := List.mem_filter.mpr ⟨t_in (t_in5 (List.mem_of_getElem? (i := 227) rfl)), rfl⟩
set_option maxRecDepth 20000 in
theorem k_1188 : (Jvm.Cond.methodLink "PrunedSearchModel" (218 : Nat) ({ cls := "PrunedSearchModel", name := "noSearch", desc := "()V" } : Jvm.MethodName)) ∈ Wt := List.mem_filter.mpr ⟨t_in (t_in5 (List.mem_of_getElem? (i := 228) rfl)), rfl⟩
set_option maxRecDepth 20000 in
theorem k_1190 : (Jvm.Cond.instanceMethod ({ cls := "PrunedSearchModel", name := "noSearch", desc := "()V" } : Jvm.MethodName)) ∈ Wt := List.mem_filter.mpr ⟨t_in (t_in5 (List.mem_of_getElem? (i := 230) rfl)), rfl⟩
set_option maxRecDepth 20000 in
theorem k_1191 : (Jvm.Cond.code ({ cls := "PrunedSearchModel", name := "noSearch", desc := "()V" } : Jvm.MethodName) prog_13_method_22_code (1 : Nat) (Option.none : Option Jvm.ClassFile.FieldType)) ∈ Wt := List.mem_filter.mpr ⟨t_in (t_in5 (List.mem_of_getElem? (i := 231) rfl)), rfl⟩
set_option maxRecDepth 20000 in
theorem k_1192 : (Jvm.Cond.methodLink "PrunedSearchModel" (224 : Nat) ({ cls := "PrunedSearchModel", name := "tooMuch", desc := "(I)Z" } : Jvm.MethodName)) ∈ Wt := List.mem_filter.mpr ⟨t_in (t_in5 (List.mem_of_getElem? (i := 232) rfl)), rfl⟩
set_option maxRecDepth 20000 in
theorem k_1194 : (Jvm.Cond.instanceMethod ({ cls := "PrunedSearchModel", name := "tooMuch", desc := "(I)Z" } : Jvm.MethodName)) ∈ Wt := List.mem_filter.mpr ⟨t_in (t_in5 (List.mem_of_getElem? (i := 234) rfl)), rfl⟩
set_option maxRecDepth 20000 in
theorem k_1195 : (Jvm.Cond.code ({ cls := "PrunedSearchModel", name := "tooMuch", desc := "(I)Z" } : Jvm.MethodName) prog_13_method_19_code (4 : Nat) (Option.some Jvm.ClassFile.FieldType.boolean)) ∈ Wt := List.mem_filter.mpr ⟨t_in (t_in5 (List.mem_of_getElem? (i := 235) rfl)), rfl⟩
set_option maxRecDepth 20000 in
theorem k_1196 : (Jvm.Cond.methodLink "PrunedSearchModel" (193 : Nat) ({ cls := "PrunedSearchModel", name := "endOf", desc := "(I)I" } : Jvm.MethodName)) ∈ Wt := List.mem_filter.mpr ⟨t_in (t_in5 (List.mem_of_getElem? (i := 236) rfl)), rfl⟩
set_option maxRecDepth 20000 in
theorem k_1198 : (Jvm.Cond.instanceMethod ({ cls := "PrunedSearchModel", name := "endOf", desc := "(I)I" } : Jvm.MethodName)) ∈ Wt := List.mem_filter.mpr ⟨t_in (t_in5 (List.mem_of_getElem? (i := 238) rfl)), rfl⟩
set_option maxRecDepth 20000 in
theorem k_1199 : (Jvm.Cond.code ({ cls := "PrunedSearchModel", name := "endOf", desc := "(I)I" } : Jvm.MethodName) prog_13_method_18_code (2 : Nat) (Option.some Jvm.ClassFile.FieldType.int)) ∈ Wt := List.mem_filter.mpr ⟨t_in (t_in5 (List.mem_of_getElem? (i := 239) rfl)), rfl⟩
set_option maxRecDepth 20000 in
theorem k_1200 : (Jvm.Cond.methodLink "PrunedSearchModel" (227 : Nat) ({ cls := "PrunedSearchModel", name := "addNames", desc := "()I" } : Jvm.MethodName)) ∈ Wt := List.mem_filter.mpr ⟨t_in (t_in6 (List.mem_of_getElem? (i := 0) rfl)), rfl⟩
set_option maxRecDepth 20000 in
theorem k_1202 : (Jvm.Cond.instanceMethod ({ cls := "PrunedSearchModel", name := "addNames", desc := "()I" } : Jvm.MethodName)) ∈ Wt := List.mem_filter.mpr ⟨t_in (t_in6 (List.mem_of_getElem? (i := 2) rfl)), rfl⟩
set_option maxRecDepth 20000 in
theorem k_1203 : (Jvm.Cond.code ({ cls := "PrunedSearchModel", name := "addNames", desc := "()I" } : Jvm.MethodName) prog_13_method_20_code (5 : Nat) (Option.some Jvm.ClassFile.FieldType.int)) ∈ Wt := List.mem_filter.mpr ⟨t_in (t_in6 (List.mem_of_getElem? (i := 3) rfl)), rfl⟩
set_option maxRecDepth 20000 in
theorem k_1204 : (Jvm.Cond.methodLink "PrunedSearchModel" (231 : Nat) ({ cls := "PrunedSearchModel", name := "keep", desc := "(III)V" } : Jvm.MethodName)) ∈ Wt := List.mem_filter.mpr ⟨t_in (t_in6 (List.mem_of_getElem? (i := 4) rfl)), rfl⟩
set_option maxRecDepth 20000 in
theorem k_1206 : (Jvm.Cond.instanceMethod ({ cls := "PrunedSearchModel", name := "keep", desc := "(III)V" } : Jvm.MethodName)) ∈ Wt := List.mem_filter.mpr ⟨t_in (t_in6 (List.mem_of_getElem? (i := 6) rfl)), rfl⟩
set_option maxRecDepth 20000 in
theorem k_1207 : (Jvm.Cond.code ({ cls := "PrunedSearchModel", name := "keep", desc := "(III)V" } : Jvm.MethodName) prog_13_method_21_code (5 : Nat) (Option.none : Option Jvm.ClassFile.FieldType)) ∈ Wt := List.mem_filter.mpr ⟨t_in (t_in6 (List.mem_of_getElem? (i := 7) rfl)), rfl⟩
set_option maxRecDepth 20000 in
theorem k_1212 : (Jvm.Cond.methodLink "PrunedSearchModel" (238 : Nat) ({ cls := "PrunedSearchModel", name := "begin", desc := "()V" } : Jvm.MethodName)) ∈ Wt := List.mem_filter.mpr ⟨t_in (t_in6 (List.mem_of_getElem? (i := 12) rfl)), rfl⟩
set_option maxRecDepth 20000 in
theorem k_1214 : (Jvm.Cond.instanceMethod ({ cls := "PrunedSearchModel", name := "begin", desc := "()V" } : Jvm.MethodName)) ∈ Wt := List.mem_filter.mpr ⟨t_in (t_in6 (List.mem_of_getElem? (i := 14) rfl)), rfl⟩
set_option maxRecDepth 20000 in
theorem k_1215 : (Jvm.Cond.code ({ cls := "PrunedSearchModel", name := "begin", desc := "()V" } : Jvm.MethodName) prog_13_method_34_code (1 : Nat) (Option.none : Option Jvm.ClassFile.FieldType)) ∈ Wt := List.mem_filter.mpr ⟨t_in (t_in6 (List.mem_of_getElem? (i := 15) rfl)), rfl⟩
set_option maxRecDepth 20000 in
theorem k_1216 : (Jvm.Cond.methodLink "PrunedSearchModel" (265 : Nat) ({ cls := "PrunedSearchModel", name := "clearFrame", desc := "(I)V" } : Jvm.MethodName)) ∈ Wt := List.mem_filter.mpr ⟨t_in (t_in6 (List.mem_of_getElem? (i := 16) rfl)), rfl⟩
set_option maxRecDepth 20000 in
theorem k_1218 : (Jvm.Cond.instanceMethod ({ cls := "PrunedSearchModel", name := "clearFrame", desc := "(I)V" } : Jvm.MethodName)) ∈ Wt := List.mem_filter.mpr ⟨t_in (t_in6 (List.mem_of_getElem? (i := 18) rfl)), rfl⟩
set_option maxRecDepth 20000 in
theorem k_1219 : (Jvm.Cond.code ({ cls := "PrunedSearchModel", name := "clearFrame", desc := "(I)V" } : Jvm.MethodName) prog_13_method_32_code (3 : Nat) (Option.none : Option Jvm.ClassFile.FieldType)) ∈ Wt := List.mem_filter.mpr ⟨t_in (t_in6 (List.mem_of_getElem? (i := 19) rfl)), rfl⟩
set_option maxRecDepth 20000 in
theorem k_1220 : (Jvm.Cond.methodLink "PrunedSearchModel" (269 : Nat) ({ cls := "PrunedSearchModel", name := "prepend", desc := "(III)V" } : Jvm.MethodName)) ∈ Wt := List.mem_filter.mpr ⟨t_in (t_in6 (List.mem_of_getElem? (i := 20) rfl)), rfl⟩
set_option maxRecDepth 20000 in
theorem k_1222 : (Jvm.Cond.instanceMethod ({ cls := "PrunedSearchModel", name := "prepend", desc := "(III)V" } : Jvm.MethodName)) ∈ Wt := List.mem_filter.mpr ⟨t_in (t_in6 (List.mem_of_getElem? (i := 22) rfl)), rfl⟩
set_option maxRecDepth 20000 in
theorem k_1223 : (Jvm.Cond.code ({ cls := "PrunedSearchModel", name := "prepend", desc := "(III)V" } : Jvm.MethodName) prog_13_method_33_code (5 : Nat) (Option.none : Option Jvm.ClassFile.FieldType)) ∈ Wt := List.mem_filter.mpr ⟨t_in (t_in6 (List.mem_of_getElem? (i := 23) rfl)), rfl⟩
set_option maxRecDepth 20000 in
theorem k_1228 : (Jvm.Cond.methodLink "PrunedSearchModel" (294 : Nat) ({ cls := "PrunedSearchModel", name := "end", desc := "(I)V" } : Jvm.MethodName)) ∈ Wt := List.mem_filter.mpr ⟨t_in (t_in6 (List.mem_of_getElem? (i := 28) rfl)), rfl⟩
set_option maxRecDepth 20000 in
theorem k_1230 : (Jvm.Cond.instanceMethod ({ cls := "PrunedSearchModel", name := "end", desc := "(I)V" } : Jvm.MethodName)) ∈ Wt := List.mem_filter.mpr ⟨t_in (t_in6 (List.mem_of_getElem? (i := 30) rfl)), rfl⟩
set_option maxRecDepth 20000 in
theorem k_1231 : (Jvm.Cond.code ({ cls := "PrunedSearchModel", name := "end", desc := "(I)V" } : Jvm.MethodName) prog_13_method_40_code (2 : Nat) (Option.none : Option Jvm.ClassFile.FieldType)) ∈ Wt := List.mem_filter.mpr ⟨t_in (t_in6 (List.mem_of_getElem? (i := 31) rfl)), rfl⟩
set_option maxRecDepth 20000 in
theorem k_1232 : (Jvm.Cond.methodLink "PrunedSearchModel" (314 : Nat) ({ cls := "PrunedSearchModel", name := "step", desc := "()V" } : Jvm.MethodName)) ∈ Wt := List.mem_filter.mpr ⟨t_in (t_in6 (List.mem_of_getElem? (i := 32) rfl)), rfl⟩
set_option maxRecDepth 20000 in
theorem k_1234 : (Jvm.Cond.instanceMethod ({ cls := "PrunedSearchModel", name := "step", desc := "()V" } : Jvm.MethodName)) ∈ Wt := List.mem_filter.mpr ⟨t_in (t_in6 (List.mem_of_getElem? (i := 34) rfl)), rfl⟩
set_option maxRecDepth 20000 in
theorem k_1235 : (Jvm.Cond.code ({ cls := "PrunedSearchModel", name := "step", desc := "()V" } : Jvm.MethodName) prog_13_method_44_code (1 : Nat) (Option.none : Option Jvm.ClassFile.FieldType)) ∈ Wt := List.mem_filter.mpr ⟨t_in (t_in6 (List.mem_of_getElem? (i := 35) rfl)), rfl⟩
set_option maxRecDepth 20000 in
theorem k_1236 : (Jvm.Cond.methodLink "PrunedSearchModel" (308 : Nat) ({ cls := "PrunedSearchModel", name := "forward", desc := "()V" } : Jvm.MethodName)) ∈ Wt := List.mem_filter.mpr ⟨t_in (t_in6 (List.mem_of_getElem? (i := 36) rfl)), rfl⟩
set_option maxRecDepth 20000 in
theorem k_1238 : (Jvm.Cond.instanceMethod ({ cls := "PrunedSearchModel", name := "forward", desc := "()V" } : Jvm.MethodName)) ∈ Wt := List.mem_filter.mpr ⟨t_in (t_in6 (List.mem_of_getElem? (i := 38) rfl)), rfl⟩
set_option maxRecDepth 20000 in
theorem k_1239 : (Jvm.Cond.code ({ cls := "PrunedSearchModel", name := "forward", desc := "()V" } : Jvm.MethodName) prog_13_method_42_code (5 : Nat) (Option.none : Option Jvm.ClassFile.FieldType)) ∈ Wt := List.mem_filter.mpr ⟨t_in (t_in6 (List.mem_of_getElem? (i := 39) rfl)), rfl⟩
set_option maxRecDepth 20000 in
theorem k_1240 : (Jvm.Cond.constantLong "PrunedSearchModel" (272 : Nat) (1702195828 : Int64)) ∈ Wt := List.mem_filter.mpr ⟨t_in (t_in6 (List.mem_of_getElem? (i := 40) rfl)), rfl⟩
set_option maxRecDepth 20000 in
theorem k_1241 : (Jvm.Cond.methodLink "PrunedSearchModel" (274 : Nat) ({ cls := "PrunedSearchModel", name := "isWordAlone", desc := "(IJ)Z" } : Jvm.MethodName)) ∈ Wt := List.mem_filter.mpr ⟨t_in (t_in6 (List.mem_of_getElem? (i := 41) rfl)), rfl⟩
set_option maxRecDepth 20000 in
theorem k_1243 : (Jvm.Cond.instanceMethod ({ cls := "PrunedSearchModel", name := "isWordAlone", desc := "(IJ)Z" } : Jvm.MethodName)) ∈ Wt := List.mem_filter.mpr ⟨t_in (t_in6 (List.mem_of_getElem? (i := 43) rfl)), rfl⟩
set_option maxRecDepth 20000 in
theorem k_1244 : (Jvm.Cond.code ({ cls := "PrunedSearchModel", name := "isWordAlone", desc := "(IJ)Z" } : Jvm.MethodName) prog_13_method_35_code (4 : Nat) (Option.some Jvm.ClassFile.FieldType.boolean)) ∈ Wt := List.mem_filter.mpr ⟨t_in (t_in6 (List.mem_of_getElem? (i := 44) rfl)), rfl⟩
set_option maxRecDepth 20000 in
theorem k_1245 : (Jvm.Cond.constantLong "PrunedSearchModel" (297 : Nat) (1818845542 : Int64)) ∈ Wt := List.mem_filter.mpr ⟨t_in (t_in6 (List.mem_of_getElem? (i := 45) rfl)), rfl⟩
set_option maxRecDepth 20000 in
theorem k_1246 : (Jvm.Cond.methodLink "PrunedSearchModel" (299 : Nat) ({ cls := "PrunedSearchModel", name := "candidate", desc := "(III)I" } : Jvm.MethodName)) ∈ Wt := List.mem_filter.mpr ⟨t_in (t_in6 (List.mem_of_getElem? (i := 46) rfl)), rfl⟩
set_option maxRecDepth 20000 in
theorem k_1248 : (Jvm.Cond.instanceMethod ({ cls := "PrunedSearchModel", name := "candidate", desc := "(III)I" } : Jvm.MethodName)) ∈ Wt := List.mem_filter.mpr ⟨t_in (t_in6 (List.mem_of_getElem? (i := 48) rfl)), rfl⟩
set_option maxRecDepth 20000 in
theorem k_1249 : (Jvm.Cond.code ({ cls := "PrunedSearchModel", name := "candidate", desc := "(III)I" } : Jvm.MethodName) prog_13_method_38_code (8 : Nat) (Option.some Jvm.ClassFile.FieldType.int)) ∈ Wt := List.mem_filter.mpr ⟨t_in (t_in6 (List.mem_of_getElem? (i := 49) rfl)), rfl⟩
set_option maxRecDepth 20000 in
theorem k_1250 : (Jvm.Cond.methodLink "PrunedSearchModel" (250 : Nat) ({ cls := "PrunedSearchModel", name := "follow", desc := "(II)V" } : Jvm.MethodName)) ∈ Wt := List.mem_filter.mpr ⟨t_in (t_in6 (List.mem_of_getElem? (i := 50) rfl)), rfl⟩
set_option maxRecDepth 20000 in
theorem k_1252 : (Jvm.Cond.instanceMethod ({ cls := "PrunedSearchModel", name := "follow", desc := "(II)V" } : Jvm.MethodName)) ∈ Wt := List.mem_filter.mpr ⟨t_in (t_in6 (List.mem_of_getElem? (i := 52) rfl)), rfl⟩
set_option maxRecDepth 20000 in
theorem k_1253 : (Jvm.Cond.code ({ cls := "PrunedSearchModel", name := "follow", desc := "(II)V" } : Jvm.MethodName) prog_13_method_26_code (5 : Nat) (Option.none : Option Jvm.ClassFile.FieldType)) ∈ Wt := List.mem_filter.mpr ⟨t_in (t_in6 (List.mem_of_getElem? (i := 53) rfl)), rfl⟩
set_option maxRecDepth 20000 in
theorem k_1254 : (Jvm.Cond.methodLink "PrunedSearchModel" (302 : Nat) ({ cls := "PrunedSearchModel", name := "resolve", desc := "(II)V" } : Jvm.MethodName)) ∈ Wt := List.mem_filter.mpr ⟨t_in (t_in6 (List.mem_of_getElem? (i := 54) rfl)), rfl⟩
set_option maxRecDepth 20000 in
theorem k_1256 : (Jvm.Cond.instanceMethod ({ cls := "PrunedSearchModel", name := "resolve", desc := "(II)V" } : Jvm.MethodName)) ∈ Wt := List.mem_filter.mpr ⟨t_in (t_in6 (List.mem_of_getElem? (i := 56) rfl)), rfl⟩
set_option maxRecDepth 20000 in
theorem k_1257 : (Jvm.Cond.code ({ cls := "PrunedSearchModel", name := "resolve", desc := "(II)V" } : Jvm.MethodName) prog_13_method_41_code (5 : Nat) (Option.none : Option Jvm.ClassFile.FieldType)) ∈ Wt := List.mem_filter.mpr ⟨t_in (t_in6 (List.mem_of_getElem? (i := 57) rfl)), rfl⟩
set_option maxRecDepth 20000 in
theorem k_1258 : (Jvm.Cond.methodLink "PrunedSearchModel" (281 : Nat) ({ cls := "PrunedSearchModel", name := "equalize", desc := "(IIII)Z" } : Jvm.MethodName)) ∈ Wt := List.mem_filter.mpr ⟨t_in (t_in6 (List.mem_of_getElem? (i := 58) rfl)), rfl⟩
set_option maxRecDepth 20000 in
theorem k_1260 : (Jvm.Cond.instanceMethod ({ cls := "PrunedSearchModel", name := "equalize", desc := "(IIII)Z" } : Jvm.MethodName)) ∈ Wt := List.mem_filter.mpr ⟨t_in (t_in6 (List.mem_of_getElem? (i := 60) rfl)), rfl⟩
set_option maxRecDepth 20000 in
theorem k_1261 : (Jvm.Cond.code ({ cls := "PrunedSearchModel", name := "equalize", desc := "(IIII)Z" } : Jvm.MethodName) prog_13_method_31_code (19 : Nat) (Option.some Jvm.ClassFile.FieldType.boolean)) ∈ Wt := List.mem_filter.mpr ⟨t_in (t_in6 (List.mem_of_getElem? (i := 61) rfl)), rfl⟩
set_option maxRecDepth 20000 in
theorem k_1262 : (Jvm.Cond.methodLink "PrunedSearchModel" (262 : Nat) ({ cls := "PrunedSearchModel", name := "bind", desc := "(IIII)Z" } : Jvm.MethodName)) ∈ Wt := List.mem_filter.mpr ⟨t_in (t_in6 (List.mem_of_getElem? (i := 62) rfl)), rfl⟩
set_option maxRecDepth 20000 in
theorem k_1264 : (Jvm.Cond.instanceMethod ({ cls := "PrunedSearchModel", name := "bind", desc := "(IIII)Z" } : Jvm.MethodName)) ∈ Wt := List.mem_filter.mpr ⟨t_in (t_in6 (List.mem_of_getElem? (i := 64) rfl)), rfl⟩
set_option maxRecDepth 20000 in
theorem k_1265 : (Jvm.Cond.code ({ cls := "PrunedSearchModel", name := "bind", desc := "(IIII)Z" } : Jvm.MethodName) prog_13_method_30_code (5 : Nat) (Option.some Jvm.ClassFile.FieldType.boolean)) ∈ Wt := List.mem_filter.mpr ⟨t_in (t_in6 (List.mem_of_getElem? (i := 65) rfl)), rfl⟩
set_option maxRecDepth 20000 in
theorem k_1266 : (Jvm.Cond.methodLink "PrunedSearchModel" (258 : Nat) ({ cls := "PrunedSearchModel", name := "stands", desc := "(IIII)Z" } : Jvm.MethodName)) ∈ Wt := List.mem_filter.mpr ⟨t_in (t_in6 (List.mem_of_getElem? (i := 66) rfl)), rfl⟩
set_option maxRecDepth 20000 in
theorem k_1268 : (Jvm.Cond.instanceMethod ({ cls := "PrunedSearchModel", name := "stands", desc := "(IIII)Z" } : Jvm.MethodName)) ∈ Wt := List.mem_filter.mpr ⟨t_in (t_in6 (List.mem_of_getElem? (i := 68) rfl)), rfl⟩
set_option maxRecDepth 20000 in
theorem k_1269 : (Jvm.Cond.code ({ cls := "PrunedSearchModel", name := "stands", desc := "(IIII)Z" } : Jvm.MethodName) prog_13_method_29_code (6 : Nat) (Option.some Jvm.ClassFile.FieldType.boolean)) ∈ Wt := List.mem_filter.mpr ⟨t_in (t_in6 (List.mem_of_getElem? (i := 69) rfl)), rfl⟩
set_option maxRecDepth 20000 in
theorem k_1270 : (Jvm.Cond.methodLink "PrunedSearchModel" (254 : Nat) ({ cls := "PrunedSearchModel", name := "pushAll", desc := "(III)I" } : Jvm.MethodName)) ∈ Wt := List.mem_filter.mpr ⟨t_in (t_in6 (List.mem_of_getElem? (i := 70) rfl)), rfl⟩
set_option maxRecDepth 20000 in
theorem k_1272 : (Jvm.Cond.instanceMethod ({ cls := "PrunedSearchModel", name := "pushAll", desc := "(III)I" } : Jvm.MethodName)) ∈ Wt := List.mem_filter.mpr ⟨t_in (t_in6 (List.mem_of_getElem? (i := 72) rfl)), rfl⟩
set_option maxRecDepth 20000 in
theorem k_1273 : (Jvm.Cond.code ({ cls := "PrunedSearchModel", name := "pushAll", desc := "(III)I" } : Jvm.MethodName) prog_13_method_27_code (7 : Nat) (Option.some Jvm.ClassFile.FieldType.int)) ∈ Wt := List.mem_filter.mpr ⟨t_in (t_in6 (List.mem_of_getElem? (i := 73) rfl)), rfl⟩
set_option maxRecDepth 20000 in
theorem k_1274 : (Jvm.Cond.methodLink "PrunedSearchModel" (247 : Nat) ({ cls := "PrunedSearchModel", name := "behind", desc := "(I)I" } : Jvm.MethodName)) ∈ Wt := List.mem_filter.mpr ⟨t_in (t_in6 (List.mem_of_getElem? (i := 74) rfl)), rfl⟩
set_option maxRecDepth 20000 in
theorem k_1276 : (Jvm.Cond.instanceMethod ({ cls := "PrunedSearchModel", name := "behind", desc := "(I)I" } : Jvm.MethodName)) ∈ Wt := List.mem_filter.mpr ⟨t_in (t_in6 (List.mem_of_getElem? (i := 76) rfl)), rfl⟩
set_option maxRecDepth 20000 in
theorem k_1277 : (Jvm.Cond.code ({ cls := "PrunedSearchModel", name := "behind", desc := "(I)I" } : Jvm.MethodName) prog_13_method_25_code (4 : Nat) (Option.some Jvm.ClassFile.FieldType.int)) ∈ Wt := List.mem_filter.mpr ⟨t_in (t_in6 (List.mem_of_getElem? (i := 77) rfl)), rfl⟩
set_option maxRecDepth 20000 in
theorem k_1278 : (Jvm.Cond.methodLink "PrunedSearchModel" (291 : Nat) ({ cls := "PrunedSearchModel", name := "large", desc := "()Z" } : Jvm.MethodName)) ∈ Wt := List.mem_filter.mpr ⟨t_in (t_in6 (List.mem_of_getElem? (i := 78) rfl)), rfl⟩
set_option maxRecDepth 20000 in
theorem k_1280 : (Jvm.Cond.instanceMethod ({ cls := "PrunedSearchModel", name := "large", desc := "()Z" } : Jvm.MethodName)) ∈ Wt := List.mem_filter.mpr ⟨t_in (t_in6 (List.mem_of_getElem? (i := 80) rfl)), rfl⟩
set_option maxRecDepth 20000 in
theorem k_1281 : (Jvm.Cond.code ({ cls := "PrunedSearchModel", name := "large", desc := "()Z" } : Jvm.MethodName) prog_13_method_39_code (3 : Nat) (Option.some Jvm.ClassFile.FieldType.boolean)) ∈ Wt := List.mem_filter.mpr ⟨t_in (t_in6 (List.mem_of_getElem? (i := 81) rfl)), rfl⟩
set_option maxRecDepth 20000 in
theorem k_1282 : (Jvm.Cond.methodLink "PrunedSearchModel" (284 : Nat) ({ cls := "PrunedSearchModel", name := "symbolsOf", desc := "(II)I" } : Jvm.MethodName)) ∈ Wt := List.mem_filter.mpr ⟨t_in (t_in6 (List.mem_of_getElem? (i := 82) rfl)), rfl⟩
set_option maxRecDepth 20000 in
theorem k_1284 : (Jvm.Cond.instanceMethod ({ cls := "PrunedSearchModel", name := "symbolsOf", desc := "(II)I" } : Jvm.MethodName)) ∈ Wt := List.mem_filter.mpr ⟨t_in (t_in6 (List.mem_of_getElem? (i := 84) rfl)), rfl⟩
set_option maxRecDepth 20000 in
theorem k_1285 : (Jvm.Cond.code ({ cls := "PrunedSearchModel", name := "symbolsOf", desc := "(II)I" } : Jvm.MethodName) prog_13_method_28_code (5 : Nat) (Option.some Jvm.ClassFile.FieldType.int)) ∈ Wt := List.mem_filter.mpr ⟨t_in (t_in6 (List.mem_of_getElem? (i := 85) rfl)), rfl⟩
set_option maxRecDepth 20000 in
theorem k_1286 : (Jvm.Cond.methodLink "PrunedSearchModel" (311 : Nat) ({ cls := "PrunedSearchModel", name := "back", desc := "()V" } : Jvm.MethodName)) ∈ Wt := List.mem_filter.mpr ⟨t_in (t_in6 (List.mem_of_getElem? (i := 86) rfl)), rfl⟩
set_option maxRecDepth 20000 in
theorem k_1288 : (Jvm.Cond.instanceMethod ({ cls := "PrunedSearchModel", name := "back", desc := "()V" } : Jvm.MethodName)) ∈ Wt := List.mem_filter.mpr ⟨t_in (t_in6 (List.mem_of_getElem? (i := 88) rfl)), rfl⟩
set_option maxRecDepth 20000 in
theorem k_1289 : (Jvm.Cond.code ({ cls := "PrunedSearchModel", name := "back", desc := "()V" } : Jvm.MethodName) prog_13_method_43_code (3 : Nat) (Option.none : Option Jvm.ClassFile.FieldType)) ∈ Wt := List.mem_filter.mpr ⟨t_in (t_in6 (List.mem_of_getElem? (i := 89) rfl)), rfl⟩
set_option maxRecDepth 20000 in
theorem k_1290 : (Jvm.Cond.methodLink "PrunedSearchModel" (305 : Nat) ({ cls := "PrunedSearchModel", name := "again", desc := "(I)V" } : Jvm.MethodName)) ∈ Wt := List.mem_filter.mpr ⟨t_in (t_in6 (List.mem_of_getElem? (i := 90) rfl)), rfl⟩
set_option maxRecDepth 20000 in
theorem k_1292 : (Jvm.Cond.instanceMethod ({ cls := "PrunedSearchModel", name := "again", desc := "(I)V" } : Jvm.MethodName)) ∈ Wt := List.mem_filter.mpr ⟨t_in (t_in6 (List.mem_of_getElem? (i := 92) rfl)), rfl⟩
set_option maxRecDepth 20000 in
theorem k_1293 : (Jvm.Cond.code ({ cls := "PrunedSearchModel", name := "again", desc := "(I)V" } : Jvm.MethodName) prog_13_method_37_code (4 : Nat) (Option.none : Option Jvm.ClassFile.FieldType)) ∈ Wt := List.mem_filter.mpr ⟨t_in (t_in6 (List.mem_of_getElem? (i := 93) rfl)), rfl⟩
set_option maxRecDepth 20000 in
theorem k_1294 : (Jvm.Cond.methodLink "PrunedSearchModel" (278 : Nat) ({ cls := "PrunedSearchModel", name := "strip", desc := "()V" } : Jvm.MethodName)) ∈ Wt := List.mem_filter.mpr ⟨t_in (t_in6 (List.mem_of_getElem? (i := 94) rfl)), rfl⟩
set_option maxRecDepth 20000 in
theorem k_1296 : (Jvm.Cond.instanceMethod ({ cls := "PrunedSearchModel", name := "strip", desc := "()V" } : Jvm.MethodName)) ∈ Wt := List.mem_filter.mpr ⟨t_in (t_in6 (List.mem_of_getElem? (i := 96) rfl)), rfl⟩
set_option maxRecDepth 20000 in
theorem k_1297 : (Jvm.Cond.code ({ cls := "PrunedSearchModel", name := "strip", desc := "()V" } : Jvm.MethodName) prog_13_method_36_code (1 : Nat) (Option.none : Option Jvm.ClassFile.FieldType)) ∈ Wt := List.mem_filter.mpr ⟨t_in (t_in6 (List.mem_of_getElem? (i := 97) rfl)), rfl⟩
set_option maxRecDepth 20000 in
theorem k_1302 : (Jvm.Cond.methodLink "PrunedSearchModel" (343 : Nat) ({ cls := "PrunedSearchModel", name := "write", desc := "(I)V" } : Jvm.MethodName)) ∈ Wt := List.mem_filter.mpr ⟨t_in (t_in6 (List.mem_of_getElem? (i := 102) rfl)), rfl⟩
set_option maxRecDepth 20000 in
theorem k_1304 : (Jvm.Cond.instanceMethod ({ cls := "PrunedSearchModel", name := "write", desc := "(I)V" } : Jvm.MethodName)) ∈ Wt := List.mem_filter.mpr ⟨t_in (t_in6 (List.mem_of_getElem? (i := 104) rfl)), rfl⟩
set_option maxRecDepth 20000 in
theorem k_1305 : (Jvm.Cond.code ({ cls := "PrunedSearchModel", name := "write", desc := "(I)V" } : Jvm.MethodName) prog_13_method_52_code (5 : Nat) (Option.none : Option Jvm.ClassFile.FieldType)) ∈ Wt := List.mem_filter.mpr ⟨t_in (t_in6 (List.mem_of_getElem? (i := 105) rfl)), rfl⟩
set_option maxRecDepth 20000 in
theorem k_1306 : (Jvm.Cond.methodLink "PrunedSearchModel" (329 : Nat) ({ cls := "PrunedSearchModel", name := "later", desc := "(IIII)I" } : Jvm.MethodName)) ∈ Wt := List.mem_filter.mpr ⟨t_in (t_in6 (List.mem_of_getElem? (i := 106) rfl)), rfl⟩
set_option maxRecDepth 20000 in
theorem k_1308 : (Jvm.Cond.instanceMethod ({ cls := "PrunedSearchModel", name := "later", desc := "(IIII)I" } : Jvm.MethodName)) ∈ Wt := List.mem_filter.mpr ⟨t_in (t_in6 (List.mem_of_getElem? (i := 108) rfl)), rfl⟩
set_option maxRecDepth 20000 in
theorem k_1309 : (Jvm.Cond.code ({ cls := "PrunedSearchModel", name := "later", desc := "(IIII)I" } : Jvm.MethodName) prog_13_method_49_code (5 : Nat) (Option.some Jvm.ClassFile.FieldType.int)) ∈ Wt := List.mem_filter.mpr ⟨t_in (t_in6 (List.mem_of_getElem? (i := 109) rfl)), rfl⟩
set_option maxRecDepth 20000 in
theorem k_1310 : (Jvm.Cond.methodLink "PrunedSearchModel" (320 : Nat) ({ cls := "PrunedSearchModel", name := "put", desc := "(I)V" } : Jvm.MethodName)) ∈ Wt := List.mem_filter.mpr ⟨t_in (t_in6 (List.mem_of_getElem? (i := 110) rfl)), rfl⟩
set_option maxRecDepth 20000 in
theorem k_1312 : (Jvm.Cond.instanceMethod ({ cls := "PrunedSearchModel", name := "put", desc := "(I)V" } : Jvm.MethodName)) ∈ Wt := List.mem_filter.mpr ⟨t_in (t_in6 (List.mem_of_getElem? (i := 112) rfl)), rfl⟩
set_option maxRecDepth 20000 in
theorem k_1313 : (Jvm.Cond.code ({ cls := "PrunedSearchModel", name := "put", desc := "(I)V" } : Jvm.MethodName) prog_13_method_46_code (2 : Nat) (Option.none : Option Jvm.ClassFile.FieldType)) ∈ Wt := List.mem_filter.mpr ⟨t_in (t_in6 (List.mem_of_getElem? (i := 113) rfl)), rfl⟩
set_option maxRecDepth 20000 in
theorem k_1314 : (Jvm.Cond.methodLink "PrunedSearchModel" (337 : Nat) ({ cls := "PrunedSearchModel", name := "writeTerm", desc := "(III)I" } : Jvm.MethodName)) ∈ Wt := List.mem_filter.mpr ⟨t_in (t_in6 (List.mem_of_getElem? (i := 114) rfl)), rfl⟩
set_option maxRecDepth 20000 in
theorem k_1316 : (Jvm.Cond.instanceMethod ({ cls := "PrunedSearchModel", name := "writeTerm", desc := "(III)I" } : Jvm.MethodName)) ∈ Wt := List.mem_filter.mpr ⟨t_in (t_in6 (List.mem_of_getElem? (i := 116) rfl)), rfl⟩
set_option maxRecDepth 20000 in
theorem k_1317 : (Jvm.Cond.code ({ cls := "PrunedSearchModel", name := "writeTerm", desc := "(III)I" } : Jvm.MethodName) prog_13_method_50_code (8 : Nat) (Option.some Jvm.ClassFile.FieldType.int)) ∈ Wt := List.mem_filter.mpr ⟨t_in (t_in6 (List.mem_of_getElem? (i := 117) rfl)), rfl⟩
set_option maxRecDepth 20000 in
theorem k_1318 : (Jvm.Cond.methodLink "PrunedSearchModel" (326 : Nat) ({ cls := "PrunedSearchModel", name := "putVariable", desc := "(I)V" } : Jvm.MethodName)) ∈ Wt := List.mem_filter.mpr ⟨t_in (t_in6 (List.mem_of_getElem? (i := 118) rfl)), rfl⟩
set_option maxRecDepth 20000 in
theorem k_1320 : (Jvm.Cond.instanceMethod ({ cls := "PrunedSearchModel", name := "putVariable", desc := "(I)V" } : Jvm.MethodName)) ∈ Wt := List.mem_filter.mpr ⟨t_in (t_in6 (List.mem_of_getElem? (i := 120) rfl)), rfl⟩
set_option maxRecDepth 20000 in
theorem k_1321 : (Jvm.Cond.code ({ cls := "PrunedSearchModel", name := "putVariable", desc := "(I)V" } : Jvm.MethodName) prog_13_method_48_code (2 : Nat) (Option.none : Option Jvm.ClassFile.FieldType)) ∈ Wt := List.mem_filter.mpr ⟨t_in (t_in6 (List.mem_of_getElem? (i := 121) rfl)), rfl⟩
set_option maxRecDepth 20000 in
theorem k_1322 : (Jvm.Cond.methodLink "PrunedSearchModel" (333 : Nat) ({ cls := "PrunedSearchModel", name := "putWord", desc := "(J)V" } : Jvm.MethodName)) ∈ Wt := List.mem_filter.mpr ⟨t_in (t_in6 (List.mem_of_getElem? (i := 122) rfl)), rfl⟩
set_option maxRecDepth 20000 in
theorem k_1324 : (Jvm.Cond.instanceMethod ({ cls := "PrunedSearchModel", name := "putWord", desc := "(J)V" } : Jvm.MethodName)) ∈ Wt := List.mem_filter.mpr ⟨t_in (t_in6 (List.mem_of_getElem? (i := 124) rfl)), rfl⟩
set_option maxRecDepth 20000 in
theorem k_1325 : (Jvm.Cond.code ({ cls := "PrunedSearchModel", name := "putWord", desc := "(J)V" } : Jvm.MethodName) prog_13_method_47_code (5 : Nat) (Option.none : Option Jvm.ClassFile.FieldType)) ∈ Wt := List.mem_filter.mpr ⟨t_in (t_in6 (List.mem_of_getElem? (i := 125) rfl)), rfl⟩
set_option maxRecDepth 20000 in
theorem k_1326 : (Jvm.Cond.methodLink "PrunedSearchModel" (340 : Nat) ({ cls := "PrunedSearchModel", name := "writeRest", desc := "(III)I" } : Jvm.MethodName)) ∈ Wt := List.mem_filter.mpr ⟨t_in (t_in6 (List.mem_of_getElem? (i := 126) rfl)), rfl⟩
set_option maxRecDepth 20000 in
theorem k_1328 : (Jvm.Cond.instanceMethod ({ cls := "PrunedSearchModel", name := "writeRest", desc := "(III)I" } : Jvm.MethodName)) ∈ Wt := List.mem_filter.mpr ⟨t_in (t_in6 (List.mem_of_getElem? (i := 128) rfl)), rfl⟩
set_option maxRecDepth 20000 in
theorem k_1329 : (Jvm.Cond.code ({ cls := "PrunedSearchModel", name := "writeRest", desc := "(III)I" } : Jvm.MethodName) prog_13_method_51_code (5 : Nat) (Option.some Jvm.ClassFile.FieldType.int)) ∈ Wt := List.mem_filter.mpr ⟨t_in (t_in6 (List.mem_of_getElem? (i := 129) rfl)), rfl⟩
set_option maxRecDepth 20000 in
theorem kp_39 : Cond.selects "PrunedSearchModel" ⟨"PrunedSearchModel", "read", "(Z)I"⟩ ⟨"PrunedSearchModel", "read", "(Z)I"⟩ ∈ Wt := List.mem_filter.mpr ⟨List.mem_append_left _ (List.mem_of_getElem? (i := 39) rfl), rfl⟩
set_option maxRecDepth 20000 in
theorem kp_40 : Cond.selects "PrunedSearchModel" ⟨"PrunedSearchModel", "beginPiece", "()V"⟩ ⟨"PrunedSearchModel", "beginPiece", "()V"⟩ ∈ Wt := List.mem_filter.mpr ⟨List.mem_append_left _ (List.mem_of_getElem? (i := 40) rfl), rfl⟩
set_option maxRecDepth 20000 in
theorem kp_41 : Cond.selects "PrunedSearchModel" ⟨"PrunedSearchModel", "take", "()V"⟩ ⟨"PrunedSearchModel", "take", "()V"⟩ ∈ Wt := List.mem_filter.mpr ⟨List.mem_append_left _ (List.mem_of_getElem? (i := 41) rfl), rfl⟩
set_option maxRecDepth 20000 in
theorem kp_42 : Cond.selects "PrunedSearchModel" ⟨"PrunedSearchModel", "at", "(I)I"⟩ ⟨"PrunedSearchModel", "at", "(I)I"⟩ ∈ Wt := List.mem_filter.mpr ⟨List.mem_append_left _ (List.mem_of_getElem? (i := 42) rfl), rfl⟩
set_option maxRecDepth 20000 in
theorem kp_43 : Cond.selects "PrunedSearchModel" ⟨"PrunedSearchModel", "push", "(I)Z"⟩ ⟨"PrunedSearchModel", "push", "(I)Z"⟩ ∈ Wt := List.mem_filter.mpr ⟨List.mem_append_left _ (List.mem_of_getElem? (i := 43) rfl), rfl⟩
set_option maxRecDepth 20000 in
theorem kp_44 : Cond.selects "PrunedSearchModel" ⟨"PrunedSearchModel", "outside", "(IZ)I"⟩ ⟨"PrunedSearchModel", "outside", "(IZ)I"⟩ ∈ Wt := List.mem_filter.mpr ⟨List.mem_append_left _ (List.mem_of_getElem? (i := 44) rfl), rfl⟩
set_option maxRecDepth 20000 in
theorem kp_45 : Cond.selects "PrunedSearchModel" ⟨"PrunedSearchModel", "beginGoal", "()V"⟩ ⟨"PrunedSearchModel", "beginGoal", "()V"⟩ ∈ Wt := List.mem_filter.mpr ⟨List.mem_append_left _ (List.mem_of_getElem? (i := 45) rfl), rfl⟩
set_option maxRecDepth 20000 in
theorem kp_46 : Cond.selects "PrunedSearchModel" ⟨"PrunedSearchModel", "emit", "(JI)V"⟩ ⟨"PrunedSearchModel", "emit", "(JI)V"⟩ ∈ Wt := List.mem_filter.mpr ⟨List.mem_append_left _ (List.mem_of_getElem? (i := 46) rfl), rfl⟩
set_option maxRecDepth 20000 in
theorem kp_47 : Cond.selects "PrunedSearchModel" ⟨"PrunedSearchModel", "endPiece", "()V"⟩ ⟨"PrunedSearchModel", "endPiece", "()V"⟩ ∈ Wt := List.mem_filter.mpr ⟨List.mem_append_left _ (List.mem_of_getElem? (i := 47) rfl), rfl⟩
set_option maxRecDepth 20000 in
theorem kp_48 : Cond.selects "PrunedSearchModel" ⟨"PrunedSearchModel", "beginTerm", "()Z"⟩ ⟨"PrunedSearchModel", "beginTerm", "()Z"⟩ ∈ Wt := List.mem_filter.mpr ⟨List.mem_append_left _ (List.mem_of_getElem? (i := 48) rfl), rfl⟩
set_option maxRecDepth 20000 in
theorem kp_49 : Cond.selects "PrunedSearchModel" ⟨"PrunedSearchModel", "emitVariable", "()V"⟩ ⟨"PrunedSearchModel", "emitVariable", "()V"⟩ ∈ Wt := List.mem_filter.mpr ⟨List.mem_append_left _ (List.mem_of_getElem? (i := 49) rfl), rfl⟩
set_option maxRecDepth 20000 in
theorem kp_50 : Cond.selects "PrunedSearchModel" ⟨"PrunedSearchModel", "goOn", "()Z"⟩ ⟨"PrunedSearchModel", "goOn", "()Z"⟩ ∈ Wt := List.mem_filter.mpr ⟨List.mem_append_left _ (List.mem_of_getElem? (i := 50) rfl), rfl⟩
set_option maxRecDepth 20000 in
theorem kp_51 : Cond.selects "PrunedSearchModel" ⟨"PrunedSearchModel", "noSearch", "()V"⟩ ⟨"PrunedSearchModel", "noSearch", "()V"⟩ ∈ Wt := List.mem_filter.mpr ⟨List.mem_append_left _ (List.mem_of_getElem? (i := 51) rfl), rfl⟩
set_option maxRecDepth 20000 in
theorem kp_52 : Cond.selects "PrunedSearchModel" ⟨"PrunedSearchModel", "tooMuch", "(I)Z"⟩ ⟨"PrunedSearchModel", "tooMuch", "(I)Z"⟩ ∈ Wt := List.mem_filter.mpr ⟨List.mem_append_left _ (List.mem_of_getElem? (i := 52) rfl), rfl⟩
set_option maxRecDepth 20000 in
theorem kp_53 : Cond.selects "PrunedSearchModel" ⟨"PrunedSearchModel", "endOf", "(I)I"⟩ ⟨"PrunedSearchModel", "endOf", "(I)I"⟩ ∈ Wt := List.mem_filter.mpr ⟨List.mem_append_left _ (List.mem_of_getElem? (i := 53) rfl), rfl⟩
set_option maxRecDepth 20000 in
theorem kp_54 : Cond.selects "PrunedSearchModel" ⟨"PrunedSearchModel", "addNames", "()I"⟩ ⟨"PrunedSearchModel", "addNames", "()I"⟩ ∈ Wt := List.mem_filter.mpr ⟨List.mem_append_left _ (List.mem_of_getElem? (i := 54) rfl), rfl⟩
set_option maxRecDepth 20000 in
theorem kp_55 : Cond.selects "PrunedSearchModel" ⟨"PrunedSearchModel", "keep", "(III)V"⟩ ⟨"PrunedSearchModel", "keep", "(III)V"⟩ ∈ Wt := List.mem_filter.mpr ⟨List.mem_append_left _ (List.mem_of_getElem? (i := 55) rfl), rfl⟩
set_option maxRecDepth 20000 in
theorem kp_56 : Cond.selects "PrunedSearchModel" ⟨"PrunedSearchModel", "begin", "()V"⟩ ⟨"PrunedSearchModel", "begin", "()V"⟩ ∈ Wt := List.mem_filter.mpr ⟨List.mem_append_left _ (List.mem_of_getElem? (i := 56) rfl), rfl⟩
set_option maxRecDepth 20000 in
theorem kp_57 : Cond.selects "PrunedSearchModel" ⟨"PrunedSearchModel", "clearFrame", "(I)V"⟩ ⟨"PrunedSearchModel", "clearFrame", "(I)V"⟩ ∈ Wt := List.mem_filter.mpr ⟨List.mem_append_left _ (List.mem_of_getElem? (i := 57) rfl), rfl⟩
set_option maxRecDepth 20000 in
theorem kp_58 : Cond.selects "PrunedSearchModel" ⟨"PrunedSearchModel", "prepend", "(III)V"⟩ ⟨"PrunedSearchModel", "prepend", "(III)V"⟩ ∈ Wt := List.mem_filter.mpr ⟨List.mem_append_left _ (List.mem_of_getElem? (i := 58) rfl), rfl⟩
set_option maxRecDepth 20000 in
theorem kp_59 : Cond.selects "PrunedSearchModel" ⟨"PrunedSearchModel", "end", "(I)V"⟩ ⟨"PrunedSearchModel", "end", "(I)V"⟩ ∈ Wt := List.mem_filter.mpr ⟨List.mem_append_left _ (List.mem_of_getElem? (i := 59) rfl), rfl⟩
set_option maxRecDepth 20000 in
theorem kp_60 : Cond.selects "PrunedSearchModel" ⟨"PrunedSearchModel", "step", "()V"⟩ ⟨"PrunedSearchModel", "step", "()V"⟩ ∈ Wt := List.mem_filter.mpr ⟨List.mem_append_left _ (List.mem_of_getElem? (i := 60) rfl), rfl⟩
set_option maxRecDepth 20000 in
theorem kp_61 : Cond.selects "PrunedSearchModel" ⟨"PrunedSearchModel", "forward", "()V"⟩ ⟨"PrunedSearchModel", "forward", "()V"⟩ ∈ Wt := List.mem_filter.mpr ⟨List.mem_append_left _ (List.mem_of_getElem? (i := 61) rfl), rfl⟩
set_option maxRecDepth 20000 in
theorem kp_62 : Cond.selects "PrunedSearchModel" ⟨"PrunedSearchModel", "isWordAlone", "(IJ)Z"⟩ ⟨"PrunedSearchModel", "isWordAlone", "(IJ)Z"⟩ ∈ Wt := List.mem_filter.mpr ⟨List.mem_append_left _ (List.mem_of_getElem? (i := 62) rfl), rfl⟩
set_option maxRecDepth 20000 in
theorem kp_63 : Cond.selects "PrunedSearchModel" ⟨"PrunedSearchModel", "candidate", "(III)I"⟩ ⟨"PrunedSearchModel", "candidate", "(III)I"⟩ ∈ Wt := List.mem_filter.mpr ⟨List.mem_append_left _ (List.mem_of_getElem? (i := 63) rfl), rfl⟩
set_option maxRecDepth 20000 in
theorem kp_64 : Cond.selects "PrunedSearchModel" ⟨"PrunedSearchModel", "follow", "(II)V"⟩ ⟨"PrunedSearchModel", "follow", "(II)V"⟩ ∈ Wt := List.mem_filter.mpr ⟨List.mem_append_left _ (List.mem_of_getElem? (i := 64) rfl), rfl⟩
set_option maxRecDepth 20000 in
theorem kp_65 : Cond.selects "PrunedSearchModel" ⟨"PrunedSearchModel", "resolve", "(II)V"⟩ ⟨"PrunedSearchModel", "resolve", "(II)V"⟩ ∈ Wt := List.mem_filter.mpr ⟨List.mem_append_left _ (List.mem_of_getElem? (i := 65) rfl), rfl⟩
set_option maxRecDepth 20000 in
theorem kp_66 : Cond.selects "PrunedSearchModel" ⟨"PrunedSearchModel", "equalize", "(IIII)Z"⟩ ⟨"PrunedSearchModel", "equalize", "(IIII)Z"⟩ ∈ Wt := List.mem_filter.mpr ⟨List.mem_append_left _ (List.mem_of_getElem? (i := 66) rfl), rfl⟩
set_option maxRecDepth 20000 in
theorem kp_67 : Cond.selects "PrunedSearchModel" ⟨"PrunedSearchModel", "bind", "(IIII)Z"⟩ ⟨"PrunedSearchModel", "bind", "(IIII)Z"⟩ ∈ Wt := List.mem_filter.mpr ⟨List.mem_append_left _ (List.mem_of_getElem? (i := 67) rfl), rfl⟩
set_option maxRecDepth 20000 in
theorem kp_68 : Cond.selects "PrunedSearchModel" ⟨"PrunedSearchModel", "stands", "(IIII)Z"⟩ ⟨"PrunedSearchModel", "stands", "(IIII)Z"⟩ ∈ Wt := List.mem_filter.mpr ⟨List.mem_append_left _ (List.mem_of_getElem? (i := 68) rfl), rfl⟩
set_option maxRecDepth 20000 in
theorem kp_69 : Cond.selects "PrunedSearchModel" ⟨"PrunedSearchModel", "pushAll", "(III)I"⟩ ⟨"PrunedSearchModel", "pushAll", "(III)I"⟩ ∈ Wt := List.mem_filter.mpr ⟨List.mem_append_left _ (List.mem_of_getElem? (i := 69) rfl), rfl⟩
set_option maxRecDepth 20000 in
theorem kp_70 : Cond.selects "PrunedSearchModel" ⟨"PrunedSearchModel", "behind", "(I)I"⟩ ⟨"PrunedSearchModel", "behind", "(I)I"⟩ ∈ Wt := List.mem_filter.mpr ⟨List.mem_append_left _ (List.mem_of_getElem? (i := 70) rfl), rfl⟩
set_option maxRecDepth 20000 in
theorem kp_71 : Cond.selects "PrunedSearchModel" ⟨"PrunedSearchModel", "large", "()Z"⟩ ⟨"PrunedSearchModel", "large", "()Z"⟩ ∈ Wt := List.mem_filter.mpr ⟨List.mem_append_left _ (List.mem_of_getElem? (i := 71) rfl), rfl⟩
set_option maxRecDepth 20000 in
theorem kp_72 : Cond.selects "PrunedSearchModel" ⟨"PrunedSearchModel", "symbolsOf", "(II)I"⟩ ⟨"PrunedSearchModel", "symbolsOf", "(II)I"⟩ ∈ Wt := List.mem_filter.mpr ⟨List.mem_append_left _ (List.mem_of_getElem? (i := 72) rfl), rfl⟩
set_option maxRecDepth 20000 in
theorem kp_73 : Cond.selects "PrunedSearchModel" ⟨"PrunedSearchModel", "back", "()V"⟩ ⟨"PrunedSearchModel", "back", "()V"⟩ ∈ Wt := List.mem_filter.mpr ⟨List.mem_append_left _ (List.mem_of_getElem? (i := 73) rfl), rfl⟩
set_option maxRecDepth 20000 in
theorem kp_74 : Cond.selects "PrunedSearchModel" ⟨"PrunedSearchModel", "again", "(I)V"⟩ ⟨"PrunedSearchModel", "again", "(I)V"⟩ ∈ Wt := List.mem_filter.mpr ⟨List.mem_append_left _ (List.mem_of_getElem? (i := 74) rfl), rfl⟩
set_option maxRecDepth 20000 in
theorem kp_75 : Cond.selects "PrunedSearchModel" ⟨"PrunedSearchModel", "strip", "()V"⟩ ⟨"PrunedSearchModel", "strip", "()V"⟩ ∈ Wt := List.mem_filter.mpr ⟨List.mem_append_left _ (List.mem_of_getElem? (i := 75) rfl), rfl⟩
set_option maxRecDepth 20000 in
theorem kp_76 : Cond.selects "PrunedSearchModel" ⟨"PrunedSearchModel", "write", "(I)V"⟩ ⟨"PrunedSearchModel", "write", "(I)V"⟩ ∈ Wt := List.mem_filter.mpr ⟨List.mem_append_left _ (List.mem_of_getElem? (i := 76) rfl), rfl⟩
set_option maxRecDepth 20000 in
theorem kp_77 : Cond.selects "PrunedSearchModel" ⟨"PrunedSearchModel", "later", "(IIII)I"⟩ ⟨"PrunedSearchModel", "later", "(IIII)I"⟩ ∈ Wt := List.mem_filter.mpr ⟨List.mem_append_left _ (List.mem_of_getElem? (i := 77) rfl), rfl⟩
set_option maxRecDepth 20000 in
theorem kp_78 : Cond.selects "PrunedSearchModel" ⟨"PrunedSearchModel", "put", "(I)V"⟩ ⟨"PrunedSearchModel", "put", "(I)V"⟩ ∈ Wt := List.mem_filter.mpr ⟨List.mem_append_left _ (List.mem_of_getElem? (i := 78) rfl), rfl⟩
set_option maxRecDepth 20000 in
theorem kp_79 : Cond.selects "PrunedSearchModel" ⟨"PrunedSearchModel", "writeTerm", "(III)I"⟩ ⟨"PrunedSearchModel", "writeTerm", "(III)I"⟩ ∈ Wt := List.mem_filter.mpr ⟨List.mem_append_left _ (List.mem_of_getElem? (i := 79) rfl), rfl⟩
set_option maxRecDepth 20000 in
theorem kp_80 : Cond.selects "PrunedSearchModel" ⟨"PrunedSearchModel", "putVariable", "(I)V"⟩ ⟨"PrunedSearchModel", "putVariable", "(I)V"⟩ ∈ Wt := List.mem_filter.mpr ⟨List.mem_append_left _ (List.mem_of_getElem? (i := 80) rfl), rfl⟩
set_option maxRecDepth 20000 in
theorem kp_81 : Cond.selects "PrunedSearchModel" ⟨"PrunedSearchModel", "putWord", "(J)V"⟩ ⟨"PrunedSearchModel", "putWord", "(J)V"⟩ ∈ Wt := List.mem_filter.mpr ⟨List.mem_append_left _ (List.mem_of_getElem? (i := 81) rfl), rfl⟩
set_option maxRecDepth 20000 in
theorem kp_82 : Cond.selects "PrunedSearchModel" ⟨"PrunedSearchModel", "writeRest", "(III)I"⟩ ⟨"PrunedSearchModel", "writeRest", "(III)I"⟩ ∈ Wt := List.mem_filter.mpr ⟨List.mem_append_left _ (List.mem_of_getElem? (i := 82) rfl), rfl⟩
theorem pd_0 : (⟨"PrunedSearchModel", "isSmall", "(I)Z"⟩ : MethodName).cls ≠ "java/lang/invoke/MethodHandle" ∧ (⟨"PrunedSearchModel", "isSmall", "(I)Z"⟩ : MethodName).cls ≠ "java/lang/invoke/VarHandle" ∧ (parseMethodDescriptor (⟨"PrunedSearchModel", "isSmall", "(I)Z"⟩ : MethodName).desc).map (fun d => d.parameters.length) = some 1 := by decide +kernel
theorem pd_1 : (⟨"PrunedSearchModel", "isSign", "(I)Z"⟩ : MethodName).cls ≠ "java/lang/invoke/MethodHandle" ∧ (⟨"PrunedSearchModel", "isSign", "(I)Z"⟩ : MethodName).cls ≠ "java/lang/invoke/VarHandle" ∧ (parseMethodDescriptor (⟨"PrunedSearchModel", "isSign", "(I)Z"⟩ : MethodName).desc).map (fun d => d.parameters.length) = some 1 := by decide +kernel
theorem pd_2 : (⟨"PrunedSearchModel", "isWord", "(I)Z"⟩ : MethodName).cls ≠ "java/lang/invoke/MethodHandle" ∧ (⟨"PrunedSearchModel", "isWord", "(I)Z"⟩ : MethodName).cls ≠ "java/lang/invoke/VarHandle" ∧ (parseMethodDescriptor (⟨"PrunedSearchModel", "isWord", "(I)Z"⟩ : MethodName).desc).map (fun d => d.parameters.length) = some 1 := by decide +kernel
theorem pd_3 : (⟨"PrunedSearchModel", "at", "(I)I"⟩ : MethodName).cls ≠ "java/lang/invoke/MethodHandle" ∧ (⟨"PrunedSearchModel", "at", "(I)I"⟩ : MethodName).cls ≠ "java/lang/invoke/VarHandle" ∧ (parseMethodDescriptor (⟨"PrunedSearchModel", "at", "(I)I"⟩ : MethodName).desc).map (fun d => d.parameters.length) = some 1 := by decide +kernel
theorem pd_4 : (⟨"PrunedSearchModel", "endPiece", "()V"⟩ : MethodName).cls ≠ "java/lang/invoke/MethodHandle" ∧ (⟨"PrunedSearchModel", "endPiece", "()V"⟩ : MethodName).cls ≠ "java/lang/invoke/VarHandle" ∧ (parseMethodDescriptor (⟨"PrunedSearchModel", "endPiece", "()V"⟩ : MethodName).desc).map (fun d => d.parameters.length) = some 0 := by decide +kernel
theorem pd_5 : (⟨"PrunedSearchModel", "emit", "(JI)V"⟩ : MethodName).cls ≠ "java/lang/invoke/MethodHandle" ∧ (⟨"PrunedSearchModel", "emit", "(JI)V"⟩ : MethodName).cls ≠ "java/lang/invoke/VarHandle" ∧ (parseMethodDescriptor (⟨"PrunedSearchModel", "emit", "(JI)V"⟩ : MethodName).desc).map (fun d => d.parameters.length) = some 2 := by decide +kernel
theorem pd_6 : (⟨"PrunedSearchModel", "beginGoal", "()V"⟩ : MethodName).cls ≠ "java/lang/invoke/MethodHandle" ∧ (⟨"PrunedSearchModel", "beginGoal", "()V"⟩ : MethodName).cls ≠ "java/lang/invoke/VarHandle" ∧ (parseMethodDescriptor (⟨"PrunedSearchModel", "beginGoal", "()V"⟩ : MethodName).desc).map (fun d => d.parameters.length) = some 0 := by decide +kernel
theorem pd_7 : (⟨"PrunedSearchModel", "beginPiece", "()V"⟩ : MethodName).cls ≠ "java/lang/invoke/MethodHandle" ∧ (⟨"PrunedSearchModel", "beginPiece", "()V"⟩ : MethodName).cls ≠ "java/lang/invoke/VarHandle" ∧ (parseMethodDescriptor (⟨"PrunedSearchModel", "beginPiece", "()V"⟩ : MethodName).desc).map (fun d => d.parameters.length) = some 0 := by decide +kernel
theorem pd_8 : (⟨"PrunedSearchModel", "push", "(I)Z"⟩ : MethodName).cls ≠ "java/lang/invoke/MethodHandle" ∧ (⟨"PrunedSearchModel", "push", "(I)Z"⟩ : MethodName).cls ≠ "java/lang/invoke/VarHandle" ∧ (parseMethodDescriptor (⟨"PrunedSearchModel", "push", "(I)Z"⟩ : MethodName).desc).map (fun d => d.parameters.length) = some 1 := by decide +kernel
theorem pd_9 : (⟨"PrunedSearchModel", "emitVariable", "()V"⟩ : MethodName).cls ≠ "java/lang/invoke/MethodHandle" ∧ (⟨"PrunedSearchModel", "emitVariable", "()V"⟩ : MethodName).cls ≠ "java/lang/invoke/VarHandle" ∧ (parseMethodDescriptor (⟨"PrunedSearchModel", "emitVariable", "()V"⟩ : MethodName).desc).map (fun d => d.parameters.length) = some 0 := by decide +kernel
theorem pd_10 : (⟨"PrunedSearchModel", "goOn", "()Z"⟩ : MethodName).cls ≠ "java/lang/invoke/MethodHandle" ∧ (⟨"PrunedSearchModel", "goOn", "()Z"⟩ : MethodName).cls ≠ "java/lang/invoke/VarHandle" ∧ (parseMethodDescriptor (⟨"PrunedSearchModel", "goOn", "()Z"⟩ : MethodName).desc).map (fun d => d.parameters.length) = some 0 := by decide +kernel
theorem pd_11 : (⟨"PrunedSearchModel", "beginTerm", "()Z"⟩ : MethodName).cls ≠ "java/lang/invoke/MethodHandle" ∧ (⟨"PrunedSearchModel", "beginTerm", "()Z"⟩ : MethodName).cls ≠ "java/lang/invoke/VarHandle" ∧ (parseMethodDescriptor (⟨"PrunedSearchModel", "beginTerm", "()Z"⟩ : MethodName).desc).map (fun d => d.parameters.length) = some 0 := by decide +kernel
theorem pd_12 : (⟨"PrunedSearchModel", "outside", "(IZ)I"⟩ : MethodName).cls ≠ "java/lang/invoke/MethodHandle" ∧ (⟨"PrunedSearchModel", "outside", "(IZ)I"⟩ : MethodName).cls ≠ "java/lang/invoke/VarHandle" ∧ (parseMethodDescriptor (⟨"PrunedSearchModel", "outside", "(IZ)I"⟩ : MethodName).desc).map (fun d => d.parameters.length) = some 2 := by decide +kernel
theorem pd_13 : (⟨"PrunedSearchModel", "take", "()V"⟩ : MethodName).cls ≠ "java/lang/invoke/MethodHandle" ∧ (⟨"PrunedSearchModel", "take", "()V"⟩ : MethodName).cls ≠ "java/lang/invoke/VarHandle" ∧ (parseMethodDescriptor (⟨"PrunedSearchModel", "take", "()V"⟩ : MethodName).desc).map (fun d => d.parameters.length) = some 0 := by decide +kernel
theorem pd_14 : (⟨"PrunedSearchModel", "endOf", "(I)I"⟩ : MethodName).cls ≠ "java/lang/invoke/MethodHandle" ∧ (⟨"PrunedSearchModel", "endOf", "(I)I"⟩ : MethodName).cls ≠ "java/lang/invoke/VarHandle" ∧ (parseMethodDescriptor (⟨"PrunedSearchModel", "endOf", "(I)I"⟩ : MethodName).desc).map (fun d => d.parameters.length) = some 1 := by decide +kernel
theorem pd_15 : (⟨"PrunedSearchModel", "keep", "(III)V"⟩ : MethodName).cls ≠ "java/lang/invoke/MethodHandle" ∧ (⟨"PrunedSearchModel", "keep", "(III)V"⟩ : MethodName).cls ≠ "java/lang/invoke/VarHandle" ∧ (parseMethodDescriptor (⟨"PrunedSearchModel", "keep", "(III)V"⟩ : MethodName).desc).map (fun d => d.parameters.length) = some 3 := by decide +kernel
theorem pd_16 : (⟨"PrunedSearchModel", "addNames", "()I"⟩ : MethodName).cls ≠ "java/lang/invoke/MethodHandle" ∧ (⟨"PrunedSearchModel", "addNames", "()I"⟩ : MethodName).cls ≠ "java/lang/invoke/VarHandle" ∧ (parseMethodDescriptor (⟨"PrunedSearchModel", "addNames", "()I"⟩ : MethodName).desc).map (fun d => d.parameters.length) = some 0 := by decide +kernel
theorem pd_17 : (⟨"PrunedSearchModel", "tooMuch", "(I)Z"⟩ : MethodName).cls ≠ "java/lang/invoke/MethodHandle" ∧ (⟨"PrunedSearchModel", "tooMuch", "(I)Z"⟩ : MethodName).cls ≠ "java/lang/invoke/VarHandle" ∧ (parseMethodDescriptor (⟨"PrunedSearchModel", "tooMuch", "(I)Z"⟩ : MethodName).desc).map (fun d => d.parameters.length) = some 1 := by decide +kernel
theorem pd_18 : (⟨"PrunedSearchModel", "noSearch", "()V"⟩ : MethodName).cls ≠ "java/lang/invoke/MethodHandle" ∧ (⟨"PrunedSearchModel", "noSearch", "()V"⟩ : MethodName).cls ≠ "java/lang/invoke/VarHandle" ∧ (parseMethodDescriptor (⟨"PrunedSearchModel", "noSearch", "()V"⟩ : MethodName).desc).map (fun d => d.parameters.length) = some 0 := by decide +kernel
theorem pd_19 : (⟨"PrunedSearchModel", "read", "(Z)I"⟩ : MethodName).cls ≠ "java/lang/invoke/MethodHandle" ∧ (⟨"PrunedSearchModel", "read", "(Z)I"⟩ : MethodName).cls ≠ "java/lang/invoke/VarHandle" ∧ (parseMethodDescriptor (⟨"PrunedSearchModel", "read", "(Z)I"⟩ : MethodName).desc).map (fun d => d.parameters.length) = some 1 := by decide +kernel
theorem pd_20 : (⟨"PrunedSearchModel", "prepend", "(III)V"⟩ : MethodName).cls ≠ "java/lang/invoke/MethodHandle" ∧ (⟨"PrunedSearchModel", "prepend", "(III)V"⟩ : MethodName).cls ≠ "java/lang/invoke/VarHandle" ∧ (parseMethodDescriptor (⟨"PrunedSearchModel", "prepend", "(III)V"⟩ : MethodName).desc).map (fun d => d.parameters.length) = some 3 := by decide +kernel
theorem pd_21 : (⟨"PrunedSearchModel", "clearFrame", "(I)V"⟩ : MethodName).cls ≠ "java/lang/invoke/MethodHandle" ∧ (⟨"PrunedSearchModel", "clearFrame", "(I)V"⟩ : MethodName).cls ≠ "java/lang/invoke/VarHandle" ∧ (parseMethodDescriptor (⟨"PrunedSearchModel", "clearFrame", "(I)V"⟩ : MethodName).desc).map (fun d => d.parameters.length) = some 1 := by decide +kernel
theorem pd_22 : (⟨"PrunedSearchModel", "begin", "()V"⟩ : MethodName).cls ≠ "java/lang/invoke/MethodHandle" ∧ (⟨"PrunedSearchModel", "begin", "()V"⟩ : MethodName).cls ≠ "java/lang/invoke/VarHandle" ∧ (parseMethodDescriptor (⟨"PrunedSearchModel", "begin", "()V"⟩ : MethodName).desc).map (fun d => d.parameters.length) = some 0 := by decide +kernel
theorem pd_23 : (⟨"PrunedSearchModel", "follow", "(II)V"⟩ : MethodName).cls ≠ "java/lang/invoke/MethodHandle" ∧ (⟨"PrunedSearchModel", "follow", "(II)V"⟩ : MethodName).cls ≠ "java/lang/invoke/VarHandle" ∧ (parseMethodDescriptor (⟨"PrunedSearchModel", "follow", "(II)V"⟩ : MethodName).desc).map (fun d => d.parameters.length) = some 2 := by decide +kernel
theorem pd_24 : (⟨"PrunedSearchModel", "behind", "(I)I"⟩ : MethodName).cls ≠ "java/lang/invoke/MethodHandle" ∧ (⟨"PrunedSearchModel", "behind", "(I)I"⟩ : MethodName).cls ≠ "java/lang/invoke/VarHandle" ∧ (parseMethodDescriptor (⟨"PrunedSearchModel", "behind", "(I)I"⟩ : MethodName).desc).map (fun d => d.parameters.length) = some 1 := by decide +kernel
theorem pd_25 : (⟨"PrunedSearchModel", "pushAll", "(III)I"⟩ : MethodName).cls ≠ "java/lang/invoke/MethodHandle" ∧ (⟨"PrunedSearchModel", "pushAll", "(III)I"⟩ : MethodName).cls ≠ "java/lang/invoke/VarHandle" ∧ (parseMethodDescriptor (⟨"PrunedSearchModel", "pushAll", "(III)I"⟩ : MethodName).desc).map (fun d => d.parameters.length) = some 3 := by decide +kernel
theorem pd_26 : (⟨"PrunedSearchModel", "stands", "(IIII)Z"⟩ : MethodName).cls ≠ "java/lang/invoke/MethodHandle" ∧ (⟨"PrunedSearchModel", "stands", "(IIII)Z"⟩ : MethodName).cls ≠ "java/lang/invoke/VarHandle" ∧ (parseMethodDescriptor (⟨"PrunedSearchModel", "stands", "(IIII)Z"⟩ : MethodName).desc).map (fun d => d.parameters.length) = some 4 := by decide +kernel
theorem pd_27 : (⟨"PrunedSearchModel", "bind", "(IIII)Z"⟩ : MethodName).cls ≠ "java/lang/invoke/MethodHandle" ∧ (⟨"PrunedSearchModel", "bind", "(IIII)Z"⟩ : MethodName).cls ≠ "java/lang/invoke/VarHandle" ∧ (parseMethodDescriptor (⟨"PrunedSearchModel", "bind", "(IIII)Z"⟩ : MethodName).desc).map (fun d => d.parameters.length) = some 4 := by decide +kernel
theorem pd_28 : (⟨"PrunedSearchModel", "symbolsOf", "(II)I"⟩ : MethodName).cls ≠ "java/lang/invoke/MethodHandle" ∧ (⟨"PrunedSearchModel", "symbolsOf", "(II)I"⟩ : MethodName).cls ≠ "java/lang/invoke/VarHandle" ∧ (parseMethodDescriptor (⟨"PrunedSearchModel", "symbolsOf", "(II)I"⟩ : MethodName).desc).map (fun d => d.parameters.length) = some 2 := by decide +kernel
theorem pd_29 : (⟨"PrunedSearchModel", "end", "(I)V"⟩ : MethodName).cls ≠ "java/lang/invoke/MethodHandle" ∧ (⟨"PrunedSearchModel", "end", "(I)V"⟩ : MethodName).cls ≠ "java/lang/invoke/VarHandle" ∧ (parseMethodDescriptor (⟨"PrunedSearchModel", "end", "(I)V"⟩ : MethodName).desc).map (fun d => d.parameters.length) = some 1 := by decide +kernel
theorem pd_30 : (⟨"PrunedSearchModel", "large", "()Z"⟩ : MethodName).cls ≠ "java/lang/invoke/MethodHandle" ∧ (⟨"PrunedSearchModel", "large", "()Z"⟩ : MethodName).cls ≠ "java/lang/invoke/VarHandle" ∧ (parseMethodDescriptor (⟨"PrunedSearchModel", "large", "()Z"⟩ : MethodName).desc).map (fun d => d.parameters.length) = some 0 := by decide +kernel
theorem pd_31 : (⟨"PrunedSearchModel", "equalize", "(IIII)Z"⟩ : MethodName).cls ≠ "java/lang/invoke/MethodHandle" ∧ (⟨"PrunedSearchModel", "equalize", "(IIII)Z"⟩ : MethodName).cls ≠ "java/lang/invoke/VarHandle" ∧ (parseMethodDescriptor (⟨"PrunedSearchModel", "equalize", "(IIII)Z"⟩ : MethodName).desc).map (fun d => d.parameters.length) = some 4 := by decide +kernel
theorem pd_32 : (⟨"PrunedSearchModel", "resolve", "(II)V"⟩ : MethodName).cls ≠ "java/lang/invoke/MethodHandle" ∧ (⟨"PrunedSearchModel", "resolve", "(II)V"⟩ : MethodName).cls ≠ "java/lang/invoke/VarHandle" ∧ (parseMethodDescriptor (⟨"PrunedSearchModel", "resolve", "(II)V"⟩ : MethodName).desc).map (fun d => d.parameters.length) = some 2 := by decide +kernel
theorem pd_33 : (⟨"PrunedSearchModel", "candidate", "(III)I"⟩ : MethodName).cls ≠ "java/lang/invoke/MethodHandle" ∧ (⟨"PrunedSearchModel", "candidate", "(III)I"⟩ : MethodName).cls ≠ "java/lang/invoke/VarHandle" ∧ (parseMethodDescriptor (⟨"PrunedSearchModel", "candidate", "(III)I"⟩ : MethodName).desc).map (fun d => d.parameters.length) = some 3 := by decide +kernel
theorem pd_34 : (⟨"PrunedSearchModel", "isWordAlone", "(IJ)Z"⟩ : MethodName).cls ≠ "java/lang/invoke/MethodHandle" ∧ (⟨"PrunedSearchModel", "isWordAlone", "(IJ)Z"⟩ : MethodName).cls ≠ "java/lang/invoke/VarHandle" ∧ (parseMethodDescriptor (⟨"PrunedSearchModel", "isWordAlone", "(IJ)Z"⟩ : MethodName).desc).map (fun d => d.parameters.length) = some 2 := by decide +kernel
theorem pd_35 : (⟨"PrunedSearchModel", "strip", "()V"⟩ : MethodName).cls ≠ "java/lang/invoke/MethodHandle" ∧ (⟨"PrunedSearchModel", "strip", "()V"⟩ : MethodName).cls ≠ "java/lang/invoke/VarHandle" ∧ (parseMethodDescriptor (⟨"PrunedSearchModel", "strip", "()V"⟩ : MethodName).desc).map (fun d => d.parameters.length) = some 0 := by decide +kernel
theorem pd_36 : (⟨"PrunedSearchModel", "again", "(I)V"⟩ : MethodName).cls ≠ "java/lang/invoke/MethodHandle" ∧ (⟨"PrunedSearchModel", "again", "(I)V"⟩ : MethodName).cls ≠ "java/lang/invoke/VarHandle" ∧ (parseMethodDescriptor (⟨"PrunedSearchModel", "again", "(I)V"⟩ : MethodName).desc).map (fun d => d.parameters.length) = some 1 := by decide +kernel
theorem pd_37 : (⟨"PrunedSearchModel", "back", "()V"⟩ : MethodName).cls ≠ "java/lang/invoke/MethodHandle" ∧ (⟨"PrunedSearchModel", "back", "()V"⟩ : MethodName).cls ≠ "java/lang/invoke/VarHandle" ∧ (parseMethodDescriptor (⟨"PrunedSearchModel", "back", "()V"⟩ : MethodName).desc).map (fun d => d.parameters.length) = some 0 := by decide +kernel
theorem pd_38 : (⟨"PrunedSearchModel", "forward", "()V"⟩ : MethodName).cls ≠ "java/lang/invoke/MethodHandle" ∧ (⟨"PrunedSearchModel", "forward", "()V"⟩ : MethodName).cls ≠ "java/lang/invoke/VarHandle" ∧ (parseMethodDescriptor (⟨"PrunedSearchModel", "forward", "()V"⟩ : MethodName).desc).map (fun d => d.parameters.length) = some 0 := by decide +kernel
theorem pd_39 : (⟨"PrunedSearchModel", "step", "()V"⟩ : MethodName).cls ≠ "java/lang/invoke/MethodHandle" ∧ (⟨"PrunedSearchModel", "step", "()V"⟩ : MethodName).cls ≠ "java/lang/invoke/VarHandle" ∧ (parseMethodDescriptor (⟨"PrunedSearchModel", "step", "()V"⟩ : MethodName).desc).map (fun d => d.parameters.length) = some 0 := by decide +kernel
theorem pd_40 : (⟨"PrunedSearchModel", "put", "(I)V"⟩ : MethodName).cls ≠ "java/lang/invoke/MethodHandle" ∧ (⟨"PrunedSearchModel", "put", "(I)V"⟩ : MethodName).cls ≠ "java/lang/invoke/VarHandle" ∧ (parseMethodDescriptor (⟨"PrunedSearchModel", "put", "(I)V"⟩ : MethodName).desc).map (fun d => d.parameters.length) = some 1 := by decide +kernel
theorem pd_41 : (⟨"PrunedSearchModel", "later", "(IIII)I"⟩ : MethodName).cls ≠ "java/lang/invoke/MethodHandle" ∧ (⟨"PrunedSearchModel", "later", "(IIII)I"⟩ : MethodName).cls ≠ "java/lang/invoke/VarHandle" ∧ (parseMethodDescriptor (⟨"PrunedSearchModel", "later", "(IIII)I"⟩ : MethodName).desc).map (fun d => d.parameters.length) = some 4 := by decide +kernel
theorem pd_42 : (⟨"PrunedSearchModel", "putWord", "(J)V"⟩ : MethodName).cls ≠ "java/lang/invoke/MethodHandle" ∧ (⟨"PrunedSearchModel", "putWord", "(J)V"⟩ : MethodName).cls ≠ "java/lang/invoke/VarHandle" ∧ (parseMethodDescriptor (⟨"PrunedSearchModel", "putWord", "(J)V"⟩ : MethodName).desc).map (fun d => d.parameters.length) = some 1 := by decide +kernel
theorem pd_43 : (⟨"PrunedSearchModel", "putVariable", "(I)V"⟩ : MethodName).cls ≠ "java/lang/invoke/MethodHandle" ∧ (⟨"PrunedSearchModel", "putVariable", "(I)V"⟩ : MethodName).cls ≠ "java/lang/invoke/VarHandle" ∧ (parseMethodDescriptor (⟨"PrunedSearchModel", "putVariable", "(I)V"⟩ : MethodName).desc).map (fun d => d.parameters.length) = some 1 := by decide +kernel
theorem pd_44 : (⟨"PrunedSearchModel", "writeRest", "(III)I"⟩ : MethodName).cls ≠ "java/lang/invoke/MethodHandle" ∧ (⟨"PrunedSearchModel", "writeRest", "(III)I"⟩ : MethodName).cls ≠ "java/lang/invoke/VarHandle" ∧ (parseMethodDescriptor (⟨"PrunedSearchModel", "writeRest", "(III)I"⟩ : MethodName).desc).map (fun d => d.parameters.length) = some 3 := by decide +kernel
theorem pd_45 : (⟨"PrunedSearchModel", "writeTerm", "(III)I"⟩ : MethodName).cls ≠ "java/lang/invoke/MethodHandle" ∧ (⟨"PrunedSearchModel", "writeTerm", "(III)I"⟩ : MethodName).cls ≠ "java/lang/invoke/VarHandle" ∧ (parseMethodDescriptor (⟨"PrunedSearchModel", "writeTerm", "(III)I"⟩ : MethodName).desc).map (fun d => d.parameters.length) = some 3 := by decide +kernel
theorem pd_46 : (⟨"PrunedSearchModel", "write", "(I)V"⟩ : MethodName).cls ≠ "java/lang/invoke/MethodHandle" ∧ (⟨"PrunedSearchModel", "write", "(I)V"⟩ : MethodName).cls ≠ "java/lang/invoke/VarHandle" ∧ (parseMethodDescriptor (⟨"PrunedSearchModel", "write", "(I)V"⟩ : MethodName).desc).map (fun d => d.parameters.length) = some 1 := by decide +kernel
end
section
/-! printed by wip/gen/drive.py -/
theorem d_M_isSmall_0 : decode prog_13_method_2_code 0 = .ok (.iload_n 0, 1) := by decide +kernel
theorem d_M_isSmall_1 : decode prog_13_method_2_code 1 = .ok (.bipush 97, 2) := by decide +kernel
theorem d_M_isSmall_3 : decode prog_13_method_2_code 3 = .ok (.if_icmp .lt 9, 3) := by decide +kernel
theorem d_M_isSmall_6 : decode prog_13_method_2_code 6 = .ok (.iload_n 0, 1) := by decide +kernel
theorem d_M_isSmall_7 : decode prog_13_method_2_code 7 = .ok (.bipush 122, 2) := by decide +kernel
theorem d_M_isSmall_9 : decode prog_13_method_2_code 9 = .ok (.if_icmp .le 15, 3) := by decide +kernel
theorem d_M_isSmall_12 : decode prog_13_method_2_code 12 = .ok (.iload_n 0, 1) := by decide +kernel
theorem d_M_isSmall_13 : decode prog_13_method_2_code 13 = .ok (.bipush 48, 2) := by decide +kernel
theorem d_M_isSmall_15 : decode prog_13_method_2_code 15 = .ok (.if_icmp .lt 13, 3) := by decide +kernel
theorem d_M_isSmall_18 : decode prog_13_method_2_code 18 = .ok (.iload_n 0, 1) := by decide +kernel
theorem d_M_isSmall_19 : decode prog_13_method_2_code 19 = .ok (.bipush 57, 2) := by decide +kernel
theorem d_M_isSmall_21 : decode prog_13_method_2_code 21 = .ok (.if_icmp .gt 7, 3) := by decide +kernel
theorem d_M_isSmall_24 : decode prog_13_method_2_code 24 = .ok (.iconst 1, 1) := by decide +kernel
theorem d_M_isSmall_25 : decode prog_13_method_2_code 25 = .ok (.goto 4, 3) := by decide +kernel
theorem d_M_isSmall_28 : decode prog_13_method_2_code 28 = .ok (.iconst 0, 1) := by decide +kernel
theorem d_M_isSmall_29 : decode prog_13_method_2_code 29 = .ok (.ireturn, 1) := by decide +kernel
theorem d_M_isWord_0 : decode prog_13_method_3_code 0 = .ok (.iload_n 0, 1) := by decide +kernel
theorem d_M_isWord_1 : decode prog_13_method_3_code 1 = .ok (.invokestatic 104, 3) := by decide +kernel
theorem d_M_isWord_4 : decode prog_13_method_3_code 4 = .ok (.ifCond .ne 21, 3) := by decide +kernel
theorem d_M_isWord_7 : decode prog_13_method_3_code 7 = .ok (.iload_n 0, 1) := by decide +kernel
theorem d_M_isWord_8 : decode prog_13_method_3_code 8 = .ok (.bipush 65, 2) := by decide +kernel
theorem d_M_isWord_10 : decode prog_13_method_3_code 10 = .ok (.if_icmp .lt 9, 3) := by decide +kernel
theorem d_M_isWord_13 : decode prog_13_method_3_code 13 = .ok (.iload_n 0, 1) := by decide +kernel
theorem d_M_isWord_14 : decode prog_13_method_3_code 14 = .ok (.bipush 90, 2) := by decide +kernel
theorem d_M_isWord_16 : decode prog_13_method_3_code 16 = .ok (.if_icmp .le 9, 3) := by decide +kernel
theorem d_M_isWord_19 : decode prog_13_method_3_code 19 = .ok (.iload_n 0, 1) := by decide +kernel
theorem d_M_isWord_20 : decode prog_13_method_3_code 20 = .ok (.bipush 95, 2) := by decide +kernel
theorem d_M_isWord_22 : decode prog_13_method_3_code 22 = .ok (.if_icmp .ne 7, 3) := by decide +kernel
theorem d_M_isWord_25 : decode prog_13_method_3_code 25 = .ok (.iconst 1, 1) := by decide +kernel
theorem d_M_isWord_26 : decode prog_13_method_3_code 26 = .ok (.goto 4, 3) := by decide +kernel
theorem d_M_isWord_29 : decode prog_13_method_3_code 29 = .ok (.iconst 0, 1) := by decide +kernel
theorem d_M_isWord_30 : decode prog_13_method_3_code 30 = .ok (.ireturn, 1) := by decide +kernel
theorem d_M_isSign_0 : decode prog_13_method_4_code 0 = .ok (.iload_n 0, 1) := by decide +kernel
theorem d_M_isSign_1 : decode prog_13_method_4_code 1 = .ok (.bipush 40, 2) := by decide +kernel
theorem d_M_isSign_3 : decode prog_13_method_4_code 3 = .ok (.if_icmp .eq 57, 3) := by decide +kernel
theorem d_M_isSign_6 : decode prog_13_method_4_code 6 = .ok (.iload_n 0, 1) := by decide +kernel
theorem d_M_isSign_7 : decode prog_13_method_4_code 7 = .ok (.bipush 41, 2) := by decide +kernel
theorem d_M_isSign_9 : decode prog_13_method_4_code 9 = .ok (.if_icmp .eq 51, 3) := by decide +kernel
theorem d_M_isSign_12 : decode prog_13_method_4_code 12 = .ok (.iload_n 0, 1) := by decide +kernel
theorem d_M_isSign_13 : decode prog_13_method_4_code 13 = .ok (.bipush 44, 2) := by decide +kernel
theorem d_M_isSign_15 : decode prog_13_method_4_code 15 = .ok (.if_icmp .eq 45, 3) := by decide +kernel
theorem d_M_isSign_18 : decode prog_13_method_4_code 18 = .ok (.iload_n 0, 1) := by decide +kernel
theorem d_M_isSign_19 : decode prog_13_method_4_code 19 = .ok (.bipush 46, 2) := by decide +kernel
theorem d_M_isSign_21 : decode prog_13_method_4_code 21 = .ok (.if_icmp .eq 39, 3) := by decide +kernel
theorem d_M_isSign_24 : decode prog_13_method_4_code 24 = .ok (.iload_n 0, 1) := by decide +kernel
theorem d_M_isSign_25 : decode prog_13_method_4_code 25 = .ok (.bipush 58, 2) := by decide +kernel
theorem d_M_isSign_27 : decode prog_13_method_4_code 27 = .ok (.if_icmp .eq 33, 3) := by decide +kernel
theorem d_M_isSign_30 : decode prog_13_method_4_code 30 = .ok (.iload_n 0, 1) := by decide +kernel
theorem d_M_isSign_31 : decode prog_13_method_4_code 31 = .ok (.bipush 45, 2) := by decide +kernel
theorem d_M_isSign_33 : decode prog_13_method_4_code 33 = .ok (.if_icmp .eq 27, 3) := by decide +kernel
theorem d_M_isSign_36 : decode prog_13_method_4_code 36 = .ok (.iload_n 0, 1) := by decide +kernel
theorem d_M_isSign_37 : decode prog_13_method_4_code 37 = .ok (.bipush 33, 2) := by decide +kernel
theorem d_M_isSign_39 : decode prog_13_method_4_code 39 = .ok (.if_icmp .eq 21, 3) := by decide +kernel
theorem d_M_isSign_42 : decode prog_13_method_4_code 42 = .ok (.iload_n 0, 1) := by decide +kernel
theorem d_M_isSign_43 : decode prog_13_method_4_code 43 = .ok (.bipush 91, 2) := by decide +kernel
theorem d_M_isSign_45 : decode prog_13_method_4_code 45 = .ok (.if_icmp .eq 15, 3) := by decide +kernel
theorem d_M_isSign_48 : decode prog_13_method_4_code 48 = .ok (.iload_n 0, 1) := by decide +kernel
theorem d_M_isSign_49 : decode prog_13_method_4_code 49 = .ok (.bipush 93, 2) := by decide +kernel
theorem d_M_isSign_51 : decode prog_13_method_4_code 51 = .ok (.if_icmp .eq 9, 3) := by decide +kernel
theorem d_M_isSign_54 : decode prog_13_method_4_code 54 = .ok (.iload_n 0, 1) := by decide +kernel
theorem d_M_isSign_55 : decode prog_13_method_4_code 55 = .ok (.bipush 124, 2) := by decide +kernel
theorem d_M_isSign_57 : decode prog_13_method_4_code 57 = .ok (.if_icmp .ne 7, 3) := by decide +kernel
theorem d_M_isSign_60 : decode prog_13_method_4_code 60 = .ok (.iconst 1, 1) := by decide +kernel
theorem d_M_isSign_61 : decode prog_13_method_4_code 61 = .ok (.goto 4, 3) := by decide +kernel
theorem d_M_isSign_64 : decode prog_13_method_4_code 64 = .ok (.iconst 0, 1) := by decide +kernel
theorem d_M_isSign_65 : decode prog_13_method_4_code 65 = .ok (.ireturn, 1) := by decide +kernel
theorem d_M_type_0 : decode prog_13_method_5_code 0 = .ok (.iconst 0, 1) := by decide +kernel
theorem d_M_type_1 : decode prog_13_method_5_code 1 = .ok (.istore_n 3, 1) := by decide +kernel
theorem d_M_type_2 : decode prog_13_method_5_code 2 = .ok (.iload_n 3, 1) := by decide +kernel
theorem d_M_type_3 : decode prog_13_method_5_code 3 = .ok (.bipush 8, 2) := by decide +kernel
theorem d_M_type_5 : decode prog_13_method_5_code 5 = .ok (.if_icmp .ge 63, 3) := by decide +kernel
theorem d_M_type_8 : decode prog_13_method_5_code 8 = .ok (.lload_n 1, 1) := by decide +kernel
theorem d_M_type_9 : decode prog_13_method_5_code 9 = .ok (.bipush 8, 2) := by decide +kernel
theorem d_M_type_11 : decode prog_13_method_5_code 11 = .ok (.iload_n 3, 1) := by decide +kernel
theorem d_M_type_12 : decode prog_13_method_5_code 12 = .ok (.imul, 1) := by decide +kernel
theorem d_M_type_13 : decode prog_13_method_5_code 13 = .ok (.lshr, 1) := by decide +kernel
theorem d_M_type_14 : decode prog_13_method_5_code 14 = .ok (.ldc2_w 108, 3) := by decide +kernel
theorem d_M_type_17 : decode prog_13_method_5_code 17 = .ok (.land, 1) := by decide +kernel
theorem d_M_type_18 : decode prog_13_method_5_code 18 = .ok (.lconst 0, 1) := by decide +kernel
theorem d_M_type_19 : decode prog_13_method_5_code 19 = .ok (.lcmp, 1) := by decide +kernel
theorem d_M_type_20 : decode prog_13_method_5_code 20 = .ok (.ifCond .eq 48, 3) := by decide +kernel
theorem d_M_type_23 : decode prog_13_method_5_code 23 = .ok (.lload_n 1, 1) := by decide +kernel
theorem d_M_type_24 : decode prog_13_method_5_code 24 = .ok (.bipush 8, 2) := by decide +kernel
theorem d_M_type_26 : decode prog_13_method_5_code 26 = .ok (.iload_n 3, 1) := by decide +kernel
theorem d_M_type_27 : decode prog_13_method_5_code 27 = .ok (.imul, 1) := by decide +kernel
theorem d_M_type_28 : decode prog_13_method_5_code 28 = .ok (.lshr, 1) := by decide +kernel
theorem d_M_type_29 : decode prog_13_method_5_code 29 = .ok (.ldc2_w 108, 3) := by decide +kernel
theorem d_M_type_32 : decode prog_13_method_5_code 32 = .ok (.land, 1) := by decide +kernel
theorem d_M_type_33 : decode prog_13_method_5_code 33 = .ok (.l2i, 1) := by decide +kernel
theorem d_M_type_34 : decode prog_13_method_5_code 34 = .ok (.istore 4, 2) := by decide +kernel
theorem d_M_type_36 : decode prog_13_method_5_code 36 = .ok (.iload 4, 2) := by decide +kernel
theorem d_M_type_38 : decode prog_13_method_5_code 38 = .ok (.invokestatic 110, 3) := by decide +kernel
theorem d_M_type_41 : decode prog_13_method_5_code 41 = .ok (.ifCond .ne 20, 3) := by decide +kernel
theorem d_M_type_44 : decode prog_13_method_5_code 44 = .ok (.iload 4, 2) := by decide +kernel
theorem d_M_type_46 : decode prog_13_method_5_code 46 = .ok (.invokestatic 113, 3) := by decide +kernel
theorem d_M_type_49 : decode prog_13_method_5_code 49 = .ok (.ifCond .ne 12, 3) := by decide +kernel
theorem d_M_type_52 : decode prog_13_method_5_code 52 = .ok (.iload 4, 2) := by decide +kernel
theorem d_M_type_54 : decode prog_13_method_5_code 54 = .ok (.bipush 32, 2) := by decide +kernel
theorem d_M_type_56 : decode prog_13_method_5_code 56 = .ok (.if_icmp .eq 5, 3) := by decide +kernel
theorem d_M_type_59 : decode prog_13_method_5_code 59 = .ok (.iconst 0, 1) := by decide +kernel
theorem d_M_type_60 : decode prog_13_method_5_code 60 = .ok (.ireturn, 1) := by decide +kernel
theorem d_M_type_61 : decode prog_13_method_5_code 61 = .ok (.iload_n 3, 1) := by decide +kernel
theorem d_M_type_62 : decode prog_13_method_5_code 62 = .ok (.iconst 1, 1) := by decide +kernel
theorem d_M_type_63 : decode prog_13_method_5_code 63 = .ok (.iadd, 1) := by decide +kernel
theorem d_M_type_64 : decode prog_13_method_5_code 64 = .ok (.istore_n 3, 1) := by decide +kernel
theorem d_M_type_65 : decode prog_13_method_5_code 65 = .ok (.goto (-63), 3) := by decide +kernel
theorem d_M_type_68 : decode prog_13_method_5_code 68 = .ok (.aload_n 0, 1) := by decide +kernel
theorem d_M_type_69 : decode prog_13_method_5_code 69 = .ok (.getfield 116, 3) := by decide +kernel
theorem d_M_type_72 : decode prog_13_method_5_code 72 = .ok (.iload_n 3, 1) := by decide +kernel
theorem d_M_type_73 : decode prog_13_method_5_code 73 = .ok (.iadd, 1) := by decide +kernel
theorem d_M_type_74 : decode prog_13_method_5_code 74 = .ok (.sipush 240, 3) := by decide +kernel
theorem d_M_type_77 : decode prog_13_method_5_code 77 = .ok (.if_icmp .le 5, 3) := by decide +kernel
theorem d_M_type_80 : decode prog_13_method_5_code 80 = .ok (.iconst 0, 1) := by decide +kernel
theorem d_M_type_81 : decode prog_13_method_5_code 81 = .ok (.ireturn, 1) := by decide +kernel
theorem d_M_type_82 : decode prog_13_method_5_code 82 = .ok (.iconst 0, 1) := by decide +kernel
theorem d_M_type_83 : decode prog_13_method_5_code 83 = .ok (.istore 4, 2) := by decide +kernel
theorem d_M_type_85 : decode prog_13_method_5_code 85 = .ok (.iload 4, 2) := by decide +kernel
theorem d_M_type_87 : decode prog_13_method_5_code 87 = .ok (.iload_n 3, 1) := by decide +kernel
theorem d_M_type_88 : decode prog_13_method_5_code 88 = .ok (.if_icmp .ge 40, 3) := by decide +kernel
theorem d_M_type_91 : decode prog_13_method_5_code 91 = .ok (.aload_n 0, 1) := by decide +kernel
theorem d_M_type_92 : decode prog_13_method_5_code 92 = .ok (.getfield 7, 3) := by decide +kernel
theorem d_M_type_95 : decode prog_13_method_5_code 95 = .ok (.aload_n 0, 1) := by decide +kernel
theorem d_M_type_96 : decode prog_13_method_5_code 96 = .ok (.getfield 116, 3) := by decide +kernel
theorem d_M_type_99 : decode prog_13_method_5_code 99 = .ok (.lload_n 1, 1) := by decide +kernel
theorem d_M_type_100 : decode prog_13_method_5_code 100 = .ok (.bipush 8, 2) := by decide +kernel
theorem d_M_type_102 : decode prog_13_method_5_code 102 = .ok (.iload 4, 2) := by decide +kernel
theorem d_M_type_104 : decode prog_13_method_5_code 104 = .ok (.imul, 1) := by decide +kernel
theorem d_M_type_105 : decode prog_13_method_5_code 105 = .ok (.lshr, 1) := by decide +kernel
theorem d_M_type_106 : decode prog_13_method_5_code 106 = .ok (.ldc2_w 108, 3) := by decide +kernel
theorem d_M_type_109 : decode prog_13_method_5_code 109 = .ok (.land, 1) := by decide +kernel
theorem d_M_type_110 : decode prog_13_method_5_code 110 = .ok (.l2i, 1) := by decide +kernel
theorem d_M_type_111 : decode prog_13_method_5_code 111 = .ok (.iastore, 1) := by decide +kernel
theorem d_M_type_112 : decode prog_13_method_5_code 112 = .ok (.aload_n 0, 1) := by decide +kernel
theorem d_M_type_113 : decode prog_13_method_5_code 113 = .ok (.aload_n 0, 1) := by decide +kernel
theorem d_M_type_114 : decode prog_13_method_5_code 114 = .ok (.getfield 116, 3) := by decide +kernel
theorem d_M_type_117 : decode prog_13_method_5_code 117 = .ok (.iconst 1, 1) := by decide +kernel
theorem d_M_type_118 : decode prog_13_method_5_code 118 = .ok (.iadd, 1) := by decide +kernel
theorem d_M_type_119 : decode prog_13_method_5_code 119 = .ok (.putfield 116, 3) := by decide +kernel
theorem d_M_type_122 : decode prog_13_method_5_code 122 = .ok (.iinc 4 1, 3) := by decide +kernel
theorem d_M_type_125 : decode prog_13_method_5_code 125 = .ok (.goto (-40), 3) := by decide +kernel
theorem d_M_type_128 : decode prog_13_method_5_code 128 = .ok (.iconst 1, 1) := by decide +kernel
theorem d_M_type_129 : decode prog_13_method_5_code 129 = .ok (.ireturn, 1) := by decide +kernel
theorem d_M_beginPiece_0 : decode prog_13_method_10_code 0 = .ok (.aload_n 0, 1) := by decide +kernel
theorem d_M_beginPiece_1 : decode prog_13_method_10_code 1 = .ok (.getfield 20, 3) := by decide +kernel
theorem d_M_beginPiece_4 : decode prog_13_method_10_code 4 = .ok (.aload_n 0, 1) := by decide +kernel
theorem d_M_beginPiece_5 : decode prog_13_method_10_code 5 = .ok (.getfield 149, 3) := by decide +kernel
theorem d_M_beginPiece_8 : decode prog_13_method_10_code 8 = .ok (.aload_n 0, 1) := by decide +kernel
theorem d_M_beginPiece_9 : decode prog_13_method_10_code 9 = .ok (.getfield 137, 3) := by decide +kernel
theorem d_M_beginPiece_12 : decode prog_13_method_10_code 12 = .ok (.iastore, 1) := by decide +kernel
theorem d_M_beginPiece_13 : decode prog_13_method_10_code 13 = .ok (.aload_n 0, 1) := by decide +kernel
theorem d_M_beginPiece_14 : decode prog_13_method_10_code 14 = .ok (.getfield 23, 3) := by decide +kernel
theorem d_M_beginPiece_17 : decode prog_13_method_10_code 17 = .ok (.aload_n 0, 1) := by decide +kernel
theorem d_M_beginPiece_18 : decode prog_13_method_10_code 18 = .ok (.getfield 149, 3) := by decide +kernel
theorem d_M_beginPiece_21 : decode prog_13_method_10_code 21 = .ok (.iconst 0, 1) := by decide +kernel
theorem d_M_beginPiece_22 : decode prog_13_method_10_code 22 = .ok (.iastore, 1) := by decide +kernel
theorem d_M_beginPiece_23 : decode prog_13_method_10_code 23 = .ok (.aload_n 0, 1) := by decide +kernel
theorem d_M_beginPiece_24 : decode prog_13_method_10_code 24 = .ok (.iconst 0, 1) := by decide +kernel
theorem d_M_beginPiece_25 : decode prog_13_method_10_code 25 = .ok (.putfield 140, 3) := by decide +kernel
theorem d_M_beginPiece_28 : decode prog_13_method_10_code 28 = .ok (.return_, 1) := by decide +kernel
theorem d_M_at_0 : decode prog_13_method_6_code 0 = .ok (.iload_n 1, 1) := by decide +kernel
theorem d_M_at_1 : decode prog_13_method_6_code 1 = .ok (.aload_n 0, 1) := by decide +kernel
theorem d_M_at_2 : decode prog_13_method_6_code 2 = .ok (.getfield 116, 3) := by decide +kernel
theorem d_M_at_5 : decode prog_13_method_6_code 5 = .ok (.if_icmp .ge 12, 3) := by decide +kernel
theorem d_M_at_8 : decode prog_13_method_6_code 8 = .ok (.aload_n 0, 1) := by decide +kernel
theorem d_M_at_9 : decode prog_13_method_6_code 9 = .ok (.getfield 7, 3) := by decide +kernel
theorem d_M_at_12 : decode prog_13_method_6_code 12 = .ok (.iload_n 1, 1) := by decide +kernel
theorem d_M_at_13 : decode prog_13_method_6_code 13 = .ok (.iaload, 1) := by decide +kernel
theorem d_M_at_14 : decode prog_13_method_6_code 14 = .ok (.goto 4, 3) := by decide +kernel
theorem d_M_at_17 : decode prog_13_method_6_code 17 = .ok (.iconst 0, 1) := by decide +kernel
theorem d_M_at_18 : decode prog_13_method_6_code 18 = .ok (.ireturn, 1) := by decide +kernel
theorem d_M_take_0 : decode prog_13_method_7_code 0 = .ok (.aload_n 0, 1) := by decide +kernel
theorem d_M_take_1 : decode prog_13_method_7_code 1 = .ok (.aload_n 0, 1) := by decide +kernel
theorem d_M_take_2 : decode prog_13_method_7_code 2 = .ok (.getfield 120, 3) := by decide +kernel
theorem d_M_take_5 : decode prog_13_method_7_code 5 = .ok (.putfield 123, 3) := by decide +kernel
theorem d_M_take_8 : decode prog_13_method_7_code 8 = .ok (.aload_n 0, 1) := by decide +kernel
theorem d_M_take_9 : decode prog_13_method_7_code 9 = .ok (.aload_n 0, 1) := by decide +kernel
theorem d_M_take_10 : decode prog_13_method_7_code 10 = .ok (.getfield 123, 3) := by decide +kernel
theorem d_M_take_13 : decode prog_13_method_7_code 13 = .ok (.invokevirtual 126, 3) := by decide +kernel
theorem d_M_take_16 : decode prog_13_method_7_code 16 = .ok (.bipush 32, 2) := by decide +kernel
theorem d_M_take_18 : decode prog_13_method_7_code 18 = .ok (.if_icmp .ne 16, 3) := by decide +kernel
theorem d_M_take_21 : decode prog_13_method_7_code 21 = .ok (.aload_n 0, 1) := by decide +kernel
theorem d_M_take_22 : decode prog_13_method_7_code 22 = .ok (.aload_n 0, 1) := by decide +kernel
theorem d_M_take_23 : decode prog_13_method_7_code 23 = .ok (.getfield 123, 3) := by decide +kernel
theorem d_M_take_26 : decode prog_13_method_7_code 26 = .ok (.iconst 1, 1) := by decide +kernel
theorem d_M_take_27 : decode prog_13_method_7_code 27 = .ok (.iadd, 1) := by decide +kernel
theorem d_M_take_28 : decode prog_13_method_7_code 28 = .ok (.putfield 123, 3) := by decide +kernel
theorem d_M_take_31 : decode prog_13_method_7_code 31 = .ok (.goto (-23), 3) := by decide +kernel
theorem d_M_take_34 : decode prog_13_method_7_code 34 = .ok (.aload_n 0, 1) := by decide +kernel
theorem d_M_take_35 : decode prog_13_method_7_code 35 = .ok (.aload_n 0, 1) := by decide +kernel
theorem d_M_take_36 : decode prog_13_method_7_code 36 = .ok (.getfield 123, 3) := by decide +kernel
theorem d_M_take_39 : decode prog_13_method_7_code 39 = .ok (.invokevirtual 126, 3) := by decide +kernel
theorem d_M_take_42 : decode prog_13_method_7_code 42 = .ok (.istore_n 1, 1) := by decide +kernel
theorem d_M_take_43 : decode prog_13_method_7_code 43 = .ok (.aload_n 0, 1) := by decide +kernel
theorem d_M_take_44 : decode prog_13_method_7_code 44 = .ok (.aload_n 0, 1) := by decide +kernel
theorem d_M_take_45 : decode prog_13_method_7_code 45 = .ok (.getfield 123, 3) := by decide +kernel
theorem d_M_take_48 : decode prog_13_method_7_code 48 = .ok (.iconst 1, 1) := by decide +kernel
theorem d_M_take_49 : decode prog_13_method_7_code 49 = .ok (.iadd, 1) := by decide +kernel
theorem d_M_take_50 : decode prog_13_method_7_code 50 = .ok (.putfield 120, 3) := by decide +kernel
theorem d_M_take_53 : decode prog_13_method_7_code 53 = .ok (.iload_n 1, 1) := by decide +kernel
theorem d_M_take_54 : decode prog_13_method_7_code 54 = .ok (.ifCond .ne 19, 3) := by decide +kernel
theorem d_M_take_57 : decode prog_13_method_7_code 57 = .ok (.aload_n 0, 1) := by decide +kernel
theorem d_M_take_58 : decode prog_13_method_7_code 58 = .ok (.iconst 0, 1) := by decide +kernel
theorem d_M_take_59 : decode prog_13_method_7_code 59 = .ok (.putfield 130, 3) := by decide +kernel
theorem d_M_take_62 : decode prog_13_method_7_code 62 = .ok (.aload_n 0, 1) := by decide +kernel
theorem d_M_take_63 : decode prog_13_method_7_code 63 = .ok (.aload_n 0, 1) := by decide +kernel
theorem d_M_take_64 : decode prog_13_method_7_code 64 = .ok (.getfield 123, 3) := by decide +kernel
theorem d_M_take_67 : decode prog_13_method_7_code 67 = .ok (.putfield 120, 3) := by decide +kernel
theorem d_M_take_70 : decode prog_13_method_7_code 70 = .ok (.goto 199, 3) := by decide +kernel
theorem d_M_take_73 : decode prog_13_method_7_code 73 = .ok (.iload_n 1, 1) := by decide +kernel
theorem d_M_take_74 : decode prog_13_method_7_code 74 = .ok (.invokestatic 110, 3) := by decide +kernel
theorem d_M_take_77 : decode prog_13_method_7_code 77 = .ok (.ifCond .eq 132, 3) := by decide +kernel
theorem d_M_take_80 : decode prog_13_method_7_code 80 = .ok (.aload_n 0, 1) := by decide +kernel
theorem d_M_take_81 : decode prog_13_method_7_code 81 = .ok (.lconst 0, 1) := by decide +kernel
theorem d_M_take_82 : decode prog_13_method_7_code 82 = .ok (.putfield 133, 3) := by decide +kernel
theorem d_M_take_85 : decode prog_13_method_7_code 85 = .ok (.aload_n 0, 1) := by decide +kernel
theorem d_M_take_86 : decode prog_13_method_7_code 86 = .ok (.aload_n 0, 1) := by decide +kernel
theorem d_M_take_87 : decode prog_13_method_7_code 87 = .ok (.getfield 123, 3) := by decide +kernel
theorem d_M_take_90 : decode prog_13_method_7_code 90 = .ok (.putfield 120, 3) := by decide +kernel
theorem d_M_take_93 : decode prog_13_method_7_code 93 = .ok (.aload_n 0, 1) := by decide +kernel
theorem d_M_take_94 : decode prog_13_method_7_code 94 = .ok (.aload_n 0, 1) := by decide +kernel
theorem d_M_take_95 : decode prog_13_method_7_code 95 = .ok (.getfield 120, 3) := by decide +kernel
theorem d_M_take_98 : decode prog_13_method_7_code 98 = .ok (.invokevirtual 126, 3) := by decide +kernel
theorem d_M_take_101 : decode prog_13_method_7_code 101 = .ok (.invokestatic 110, 3) := by decide +kernel
theorem d_M_take_104 : decode prog_13_method_7_code 104 = .ok (.ifCond .eq 68, 3) := by decide +kernel
theorem d_M_take_107 : decode prog_13_method_7_code 107 = .ok (.aload_n 0, 1) := by decide +kernel
theorem d_M_take_108 : decode prog_13_method_7_code 108 = .ok (.aload_n 0, 1) := by decide +kernel
theorem d_M_take_109 : decode prog_13_method_7_code 109 = .ok (.getfield 120, 3) := by decide +kernel
theorem d_M_take_112 : decode prog_13_method_7_code 112 = .ok (.aload_n 0, 1) := by decide +kernel
theorem d_M_take_113 : decode prog_13_method_7_code 113 = .ok (.getfield 123, 3) := by decide +kernel
theorem d_M_take_116 : decode prog_13_method_7_code 116 = .ok (.isub, 1) := by decide +kernel
theorem d_M_take_117 : decode prog_13_method_7_code 117 = .ok (.bipush 8, 2) := by decide +kernel
theorem d_M_take_119 : decode prog_13_method_7_code 119 = .ok (.if_icmp .ge 33, 3) := by decide +kernel
theorem d_M_take_122 : decode prog_13_method_7_code 122 = .ok (.aload_n 0, 1) := by decide +kernel
theorem d_M_take_123 : decode prog_13_method_7_code 123 = .ok (.getfield 133, 3) := by decide +kernel
theorem d_M_take_126 : decode prog_13_method_7_code 126 = .ok (.aload_n 0, 1) := by decide +kernel
theorem d_M_take_127 : decode prog_13_method_7_code 127 = .ok (.aload_n 0, 1) := by decide +kernel
theorem d_M_take_128 : decode prog_13_method_7_code 128 = .ok (.getfield 120, 3) := by decide +kernel
theorem d_M_take_131 : decode prog_13_method_7_code 131 = .ok (.invokevirtual 126, 3) := by decide +kernel
theorem d_M_take_134 : decode prog_13_method_7_code 134 = .ok (.i2l, 1) := by decide +kernel
theorem d_M_take_135 : decode prog_13_method_7_code 135 = .ok (.bipush 8, 2) := by decide +kernel
theorem d_M_take_137 : decode prog_13_method_7_code 137 = .ok (.aload_n 0, 1) := by decide +kernel
theorem d_M_take_138 : decode prog_13_method_7_code 138 = .ok (.getfield 120, 3) := by decide +kernel
theorem d_M_take_141 : decode prog_13_method_7_code 141 = .ok (.aload_n 0, 1) := by decide +kernel
theorem d_M_take_142 : decode prog_13_method_7_code 142 = .ok (.getfield 123, 3) := by decide +kernel
theorem d_M_take_145 : decode prog_13_method_7_code 145 = .ok (.isub, 1) := by decide +kernel
theorem d_M_take_146 : decode prog_13_method_7_code 146 = .ok (.imul, 1) := by decide +kernel
theorem d_M_take_147 : decode prog_13_method_7_code 147 = .ok (.lshl, 1) := by decide +kernel
theorem d_M_take_148 : decode prog_13_method_7_code 148 = .ok (.lor, 1) := by decide +kernel
theorem d_M_take_149 : decode prog_13_method_7_code 149 = .ok (.goto 7, 3) := by decide +kernel
theorem d_M_take_152 : decode prog_13_method_7_code 152 = .ok (.aload_n 0, 1) := by decide +kernel
theorem d_M_take_153 : decode prog_13_method_7_code 153 = .ok (.getfield 133, 3) := by decide +kernel
theorem d_M_take_156 : decode prog_13_method_7_code 156 = .ok (.putfield 133, 3) := by decide +kernel
theorem d_M_take_159 : decode prog_13_method_7_code 159 = .ok (.aload_n 0, 1) := by decide +kernel
theorem d_M_take_160 : decode prog_13_method_7_code 160 = .ok (.aload_n 0, 1) := by decide +kernel
theorem d_M_take_161 : decode prog_13_method_7_code 161 = .ok (.getfield 120, 3) := by decide +kernel
theorem d_M_take_164 : decode prog_13_method_7_code 164 = .ok (.iconst 1, 1) := by decide +kernel
theorem d_M_take_165 : decode prog_13_method_7_code 165 = .ok (.iadd, 1) := by decide +kernel
theorem d_M_take_166 : decode prog_13_method_7_code 166 = .ok (.putfield 120, 3) := by decide +kernel
theorem d_M_take_169 : decode prog_13_method_7_code 169 = .ok (.goto (-76), 3) := by decide +kernel
theorem d_M_take_172 : decode prog_13_method_7_code 172 = .ok (.aload_n 0, 1) := by decide +kernel
theorem d_M_take_173 : decode prog_13_method_7_code 173 = .ok (.aload_n 0, 1) := by decide +kernel
theorem d_M_take_174 : decode prog_13_method_7_code 174 = .ok (.getfield 120, 3) := by decide +kernel
theorem d_M_take_177 : decode prog_13_method_7_code 177 = .ok (.aload_n 0, 1) := by decide +kernel
theorem d_M_take_178 : decode prog_13_method_7_code 178 = .ok (.getfield 123, 3) := by decide +kernel
theorem d_M_take_181 : decode prog_13_method_7_code 181 = .ok (.isub, 1) := by decide +kernel
theorem d_M_take_182 : decode prog_13_method_7_code 182 = .ok (.bipush 8, 2) := by decide +kernel
theorem d_M_take_184 : decode prog_13_method_7_code 184 = .ok (.if_icmp .le 7, 3) := by decide +kernel
theorem d_M_take_187 : decode prog_13_method_7_code 187 = .ok (.iconst (-1), 1) := by decide +kernel
theorem d_M_take_188 : decode prog_13_method_7_code 188 = .ok (.goto 15, 3) := by decide +kernel
theorem d_M_take_191 : decode prog_13_method_7_code 191 = .ok (.iload_n 1, 1) := by decide +kernel
theorem d_M_take_192 : decode prog_13_method_7_code 192 = .ok (.invokestatic 104, 3) := by decide +kernel
theorem d_M_take_195 : decode prog_13_method_7_code 195 = .ok (.ifCond .eq 7, 3) := by decide +kernel
theorem d_M_take_198 : decode prog_13_method_7_code 198 = .ok (.iconst 1, 1) := by decide +kernel
theorem d_M_take_199 : decode prog_13_method_7_code 199 = .ok (.goto 4, 3) := by decide +kernel
theorem d_M_take_202 : decode prog_13_method_7_code 202 = .ok (.iconst 2, 1) := by decide +kernel
theorem d_M_take_203 : decode prog_13_method_7_code 203 = .ok (.putfield 130, 3) := by decide +kernel
theorem d_M_take_206 : decode prog_13_method_7_code 206 = .ok (.goto 63, 3) := by decide +kernel
theorem d_M_take_209 : decode prog_13_method_7_code 209 = .ok (.iload_n 1, 1) := by decide +kernel
theorem d_M_take_210 : decode prog_13_method_7_code 210 = .ok (.bipush 58, 2) := by decide +kernel
theorem d_M_take_212 : decode prog_13_method_7_code 212 = .ok (.if_icmp .eq 9, 3) := by decide +kernel
theorem d_M_take_215 : decode prog_13_method_7_code 215 = .ok (.iload_n 1, 1) := by decide +kernel
theorem d_M_take_216 : decode prog_13_method_7_code 216 = .ok (.bipush 45, 2) := by decide +kernel
theorem d_M_take_218 : decode prog_13_method_7_code 218 = .ok (.if_icmp .ne 46, 3) := by decide +kernel
theorem d_M_take_221 : decode prog_13_method_7_code 221 = .ok (.aload_n 0, 1) := by decide +kernel
theorem d_M_take_222 : decode prog_13_method_7_code 222 = .ok (.iload_n 1, 1) := by decide +kernel
theorem d_M_take_223 : decode prog_13_method_7_code 223 = .ok (.bipush 58, 2) := by decide +kernel
theorem d_M_take_225 : decode prog_13_method_7_code 225 = .ok (.if_icmp .ne 22, 3) := by decide +kernel
theorem d_M_take_228 : decode prog_13_method_7_code 228 = .ok (.aload_n 0, 1) := by decide +kernel
theorem d_M_take_229 : decode prog_13_method_7_code 229 = .ok (.aload_n 0, 1) := by decide +kernel
theorem d_M_take_230 : decode prog_13_method_7_code 230 = .ok (.getfield 123, 3) := by decide +kernel
theorem d_M_take_233 : decode prog_13_method_7_code 233 = .ok (.iconst 1, 1) := by decide +kernel
theorem d_M_take_234 : decode prog_13_method_7_code 234 = .ok (.iadd, 1) := by decide +kernel
theorem d_M_take_235 : decode prog_13_method_7_code 235 = .ok (.invokevirtual 126, 3) := by decide +kernel
theorem d_M_take_238 : decode prog_13_method_7_code 238 = .ok (.bipush 45, 2) := by decide +kernel
theorem d_M_take_240 : decode prog_13_method_7_code 240 = .ok (.if_icmp .ne 7, 3) := by decide +kernel
theorem d_M_take_243 : decode prog_13_method_7_code 243 = .ok (.iconst 3, 1) := by decide +kernel
theorem d_M_take_244 : decode prog_13_method_7_code 244 = .ok (.goto 4, 3) := by decide +kernel
theorem d_M_take_247 : decode prog_13_method_7_code 247 = .ok (.iconst (-1), 1) := by decide +kernel
theorem d_M_take_248 : decode prog_13_method_7_code 248 = .ok (.putfield 130, 3) := by decide +kernel
theorem d_M_take_251 : decode prog_13_method_7_code 251 = .ok (.aload_n 0, 1) := by decide +kernel
theorem d_M_take_252 : decode prog_13_method_7_code 252 = .ok (.aload_n 0, 1) := by decide +kernel
theorem d_M_take_253 : decode prog_13_method_7_code 253 = .ok (.getfield 123, 3) := by decide +kernel
theorem d_M_take_256 : decode prog_13_method_7_code 256 = .ok (.iconst 2, 1) := by decide +kernel
theorem d_M_take_257 : decode prog_13_method_7_code 257 = .ok (.iadd, 1) := by decide +kernel
theorem d_M_take_258 : decode prog_13_method_7_code 258 = .ok (.putfield 120, 3) := by decide +kernel
theorem d_M_take_261 : decode prog_13_method_7_code 261 = .ok (.goto 8, 3) := by decide +kernel
theorem d_M_take_264 : decode prog_13_method_7_code 264 = .ok (.aload_n 0, 1) := by decide +kernel
theorem d_M_take_265 : decode prog_13_method_7_code 265 = .ok (.iload_n 1, 1) := by decide +kernel
theorem d_M_take_266 : decode prog_13_method_7_code 266 = .ok (.putfield 130, 3) := by decide +kernel
theorem d_M_take_269 : decode prog_13_method_7_code 269 = .ok (.return_, 1) := by decide +kernel
theorem d_M_push_0 : decode prog_13_method_13_code 0 = .ok (.aload_n 0, 1) := by decide +kernel
theorem d_M_push_1 : decode prog_13_method_13_code 1 = .ok (.getfield 155, 3) := by decide +kernel
theorem d_M_push_4 : decode prog_13_method_13_code 4 = .ok (.bipush 15, 2) := by decide +kernel
theorem d_M_push_6 : decode prog_13_method_13_code 6 = .ok (.if_icmp .ne 5, 3) := by decide +kernel
theorem d_M_push_9 : decode prog_13_method_13_code 9 = .ok (.iconst 0, 1) := by decide +kernel
theorem d_M_push_10 : decode prog_13_method_13_code 10 = .ok (.ireturn, 1) := by decide +kernel
theorem d_M_push_11 : decode prog_13_method_13_code 11 = .ok (.aload_n 0, 1) := by decide +kernel
theorem d_M_push_12 : decode prog_13_method_13_code 12 = .ok (.getfield 38, 3) := by decide +kernel
theorem d_M_push_15 : decode prog_13_method_13_code 15 = .ok (.aload_n 0, 1) := by decide +kernel
theorem d_M_push_16 : decode prog_13_method_13_code 16 = .ok (.getfield 155, 3) := by decide +kernel
theorem d_M_push_19 : decode prog_13_method_13_code 19 = .ok (.iload_n 1, 1) := by decide +kernel
theorem d_M_push_20 : decode prog_13_method_13_code 20 = .ok (.iastore, 1) := by decide +kernel
theorem d_M_push_21 : decode prog_13_method_13_code 21 = .ok (.aload_n 0, 1) := by decide +kernel
theorem d_M_push_22 : decode prog_13_method_13_code 22 = .ok (.getfield 41, 3) := by decide +kernel
theorem d_M_push_25 : decode prog_13_method_13_code 25 = .ok (.aload_n 0, 1) := by decide +kernel
theorem d_M_push_26 : decode prog_13_method_13_code 26 = .ok (.getfield 155, 3) := by decide +kernel
theorem d_M_push_29 : decode prog_13_method_13_code 29 = .ok (.aload_n 0, 1) := by decide +kernel
theorem d_M_push_30 : decode prog_13_method_13_code 30 = .ok (.getfield 137, 3) := by decide +kernel
theorem d_M_push_33 : decode prog_13_method_13_code 33 = .ok (.iconst 1, 1) := by decide +kernel
theorem d_M_push_34 : decode prog_13_method_13_code 34 = .ok (.isub, 1) := by decide +kernel
theorem d_M_push_35 : decode prog_13_method_13_code 35 = .ok (.iastore, 1) := by decide +kernel
theorem d_M_push_36 : decode prog_13_method_13_code 36 = .ok (.aload_n 0, 1) := by decide +kernel
theorem d_M_push_37 : decode prog_13_method_13_code 37 = .ok (.getfield 44, 3) := by decide +kernel
theorem d_M_push_40 : decode prog_13_method_13_code 40 = .ok (.aload_n 0, 1) := by decide +kernel
theorem d_M_push_41 : decode prog_13_method_13_code 41 = .ok (.getfield 155, 3) := by decide +kernel
theorem d_M_push_44 : decode prog_13_method_13_code 44 = .ok (.iconst 1, 1) := by decide +kernel
theorem d_M_push_45 : decode prog_13_method_13_code 45 = .ok (.iastore, 1) := by decide +kernel
theorem d_M_push_46 : decode prog_13_method_13_code 46 = .ok (.aload_n 0, 1) := by decide +kernel
theorem d_M_push_47 : decode prog_13_method_13_code 47 = .ok (.aload_n 0, 1) := by decide +kernel
theorem d_M_push_48 : decode prog_13_method_13_code 48 = .ok (.getfield 155, 3) := by decide +kernel
theorem d_M_push_51 : decode prog_13_method_13_code 51 = .ok (.iconst 1, 1) := by decide +kernel
theorem d_M_push_52 : decode prog_13_method_13_code 52 = .ok (.iadd, 1) := by decide +kernel
theorem d_M_push_53 : decode prog_13_method_13_code 53 = .ok (.putfield 155, 3) := by decide +kernel
theorem d_M_push_56 : decode prog_13_method_13_code 56 = .ok (.iconst 1, 1) := by decide +kernel
theorem d_M_push_57 : decode prog_13_method_13_code 57 = .ok (.ireturn, 1) := by decide +kernel
theorem d_M_emit_0 : decode prog_13_method_8_code 0 = .ok (.aload_n 0, 1) := by decide +kernel
theorem d_M_emit_1 : decode prog_13_method_8_code 1 = .ok (.getfield 13, 3) := by decide +kernel
theorem d_M_emit_4 : decode prog_13_method_8_code 4 = .ok (.aload_n 0, 1) := by decide +kernel
theorem d_M_emit_5 : decode prog_13_method_8_code 5 = .ok (.getfield 137, 3) := by decide +kernel
theorem d_M_emit_8 : decode prog_13_method_8_code 8 = .ok (.lload_n 1, 1) := by decide +kernel
theorem d_M_emit_9 : decode prog_13_method_8_code 9 = .ok (.lastore, 1) := by decide +kernel
theorem d_M_emit_10 : decode prog_13_method_8_code 10 = .ok (.aload_n 0, 1) := by decide +kernel
theorem d_M_emit_11 : decode prog_13_method_8_code 11 = .ok (.getfield 17, 3) := by decide +kernel
theorem d_M_emit_14 : decode prog_13_method_8_code 14 = .ok (.aload_n 0, 1) := by decide +kernel
theorem d_M_emit_15 : decode prog_13_method_8_code 15 = .ok (.getfield 137, 3) := by decide +kernel
theorem d_M_emit_18 : decode prog_13_method_8_code 18 = .ok (.iload_n 3, 1) := by decide +kernel
theorem d_M_emit_19 : decode prog_13_method_8_code 19 = .ok (.iastore, 1) := by decide +kernel
theorem d_M_emit_20 : decode prog_13_method_8_code 20 = .ok (.aload_n 0, 1) := by decide +kernel
theorem d_M_emit_21 : decode prog_13_method_8_code 21 = .ok (.aload_n 0, 1) := by decide +kernel
theorem d_M_emit_22 : decode prog_13_method_8_code 22 = .ok (.getfield 137, 3) := by decide +kernel
theorem d_M_emit_25 : decode prog_13_method_8_code 25 = .ok (.iconst 1, 1) := by decide +kernel
theorem d_M_emit_26 : decode prog_13_method_8_code 26 = .ok (.iadd, 1) := by decide +kernel
theorem d_M_emit_27 : decode prog_13_method_8_code 27 = .ok (.putfield 137, 3) := by decide +kernel
theorem d_M_emit_30 : decode prog_13_method_8_code 30 = .ok (.return_, 1) := by decide +kernel
theorem d_M_beginGoal_0 : decode prog_13_method_11_code 0 = .ok (.aload_n 0, 1) := by decide +kernel
theorem d_M_beginGoal_1 : decode prog_13_method_11_code 1 = .ok (.getfield 29, 3) := by decide +kernel
theorem d_M_beginGoal_4 : decode prog_13_method_11_code 4 = .ok (.aload_n 0, 1) := by decide +kernel
theorem d_M_beginGoal_5 : decode prog_13_method_11_code 5 = .ok (.getfield 152, 3) := by decide +kernel
theorem d_M_beginGoal_8 : decode prog_13_method_11_code 8 = .ok (.aload_n 0, 1) := by decide +kernel
theorem d_M_beginGoal_9 : decode prog_13_method_11_code 9 = .ok (.getfield 137, 3) := by decide +kernel
theorem d_M_beginGoal_12 : decode prog_13_method_11_code 12 = .ok (.iastore, 1) := by decide +kernel
theorem d_M_beginGoal_13 : decode prog_13_method_11_code 13 = .ok (.aload_n 0, 1) := by decide +kernel
theorem d_M_beginGoal_14 : decode prog_13_method_11_code 14 = .ok (.aload_n 0, 1) := by decide +kernel
theorem d_M_beginGoal_15 : decode prog_13_method_11_code 15 = .ok (.getfield 152, 3) := by decide +kernel
theorem d_M_beginGoal_18 : decode prog_13_method_11_code 18 = .ok (.iconst 1, 1) := by decide +kernel
theorem d_M_beginGoal_19 : decode prog_13_method_11_code 19 = .ok (.iadd, 1) := by decide +kernel
theorem d_M_beginGoal_20 : decode prog_13_method_11_code 20 = .ok (.putfield 152, 3) := by decide +kernel
theorem d_M_beginGoal_23 : decode prog_13_method_11_code 23 = .ok (.aload_n 0, 1) := by decide +kernel
theorem d_M_beginGoal_24 : decode prog_13_method_11_code 24 = .ok (.getfield 23, 3) := by decide +kernel
theorem d_M_beginGoal_27 : decode prog_13_method_11_code 27 = .ok (.aload_n 0, 1) := by decide +kernel
theorem d_M_beginGoal_28 : decode prog_13_method_11_code 28 = .ok (.getfield 149, 3) := by decide +kernel
theorem d_M_beginGoal_31 : decode prog_13_method_11_code 31 = .ok (.aload_n 0, 1) := by decide +kernel
theorem d_M_beginGoal_32 : decode prog_13_method_11_code 32 = .ok (.getfield 23, 3) := by decide +kernel
theorem d_M_beginGoal_35 : decode prog_13_method_11_code 35 = .ok (.aload_n 0, 1) := by decide +kernel
theorem d_M_beginGoal_36 : decode prog_13_method_11_code 36 = .ok (.getfield 149, 3) := by decide +kernel
theorem d_M_beginGoal_39 : decode prog_13_method_11_code 39 = .ok (.iaload, 1) := by decide +kernel
theorem d_M_beginGoal_40 : decode prog_13_method_11_code 40 = .ok (.iconst 1, 1) := by decide +kernel
theorem d_M_beginGoal_41 : decode prog_13_method_11_code 41 = .ok (.iadd, 1) := by decide +kernel
theorem d_M_beginGoal_42 : decode prog_13_method_11_code 42 = .ok (.iastore, 1) := by decide +kernel
theorem d_M_beginGoal_43 : decode prog_13_method_11_code 43 = .ok (.return_, 1) := by decide +kernel
theorem d_M_endPiece_0 : decode prog_13_method_12_code 0 = .ok (.aload_n 0, 1) := by decide +kernel
theorem d_M_endPiece_1 : decode prog_13_method_12_code 1 = .ok (.getfield 26, 3) := by decide +kernel
theorem d_M_endPiece_4 : decode prog_13_method_12_code 4 = .ok (.aload_n 0, 1) := by decide +kernel
theorem d_M_endPiece_5 : decode prog_13_method_12_code 5 = .ok (.getfield 149, 3) := by decide +kernel
theorem d_M_endPiece_8 : decode prog_13_method_12_code 8 = .ok (.aload_n 0, 1) := by decide +kernel
theorem d_M_endPiece_9 : decode prog_13_method_12_code 9 = .ok (.getfield 140, 3) := by decide +kernel
theorem d_M_endPiece_12 : decode prog_13_method_12_code 12 = .ok (.iastore, 1) := by decide +kernel
theorem d_M_endPiece_13 : decode prog_13_method_12_code 13 = .ok (.aload_n 0, 1) := by decide +kernel
theorem d_M_endPiece_14 : decode prog_13_method_12_code 14 = .ok (.aload_n 0, 1) := by decide +kernel
theorem d_M_endPiece_15 : decode prog_13_method_12_code 15 = .ok (.getfield 149, 3) := by decide +kernel
theorem d_M_endPiece_18 : decode prog_13_method_12_code 18 = .ok (.iconst 1, 1) := by decide +kernel
theorem d_M_endPiece_19 : decode prog_13_method_12_code 19 = .ok (.iadd, 1) := by decide +kernel
theorem d_M_endPiece_20 : decode prog_13_method_12_code 20 = .ok (.putfield 149, 3) := by decide +kernel
theorem d_M_endPiece_23 : decode prog_13_method_12_code 23 = .ok (.return_, 1) := by decide +kernel
theorem d_M_outside_0 : decode prog_13_method_16_code 0 = .ok (.iload_n 1, 1) := by decide +kernel
theorem d_M_outside_1 : decode prog_13_method_16_code 1 = .ok (.ifCond .eq 8, 3) := by decide +kernel
theorem d_M_outside_4 : decode prog_13_method_16_code 4 = .ok (.iload_n 1, 1) := by decide +kernel
theorem d_M_outside_5 : decode prog_13_method_16_code 5 = .ok (.iconst 2, 1) := by decide +kernel
theorem d_M_outside_6 : decode prog_13_method_16_code 6 = .ok (.if_icmp .ne 39, 3) := by decide +kernel
theorem d_M_outside_9 : decode prog_13_method_16_code 9 = .ok (.aload_n 0, 1) := by decide +kernel
theorem d_M_outside_10 : decode prog_13_method_16_code 10 = .ok (.getfield 130, 3) := by decide +kernel
theorem d_M_outside_13 : decode prog_13_method_16_code 13 = .ok (.iconst 1, 1) := by decide +kernel
theorem d_M_outside_14 : decode prog_13_method_16_code 14 = .ok (.if_icmp .ne 31, 3) := by decide +kernel
theorem d_M_outside_17 : decode prog_13_method_16_code 17 = .ok (.iload_n 1, 1) := by decide +kernel
theorem d_M_outside_18 : decode prog_13_method_16_code 18 = .ok (.ifCond .ne 10, 3) := by decide +kernel
theorem d_M_outside_21 : decode prog_13_method_16_code 21 = .ok (.aload_n 0, 1) := by decide +kernel
theorem d_M_outside_22 : decode prog_13_method_16_code 22 = .ok (.invokevirtual 170, 3) := by decide +kernel
theorem d_M_outside_25 : decode prog_13_method_16_code 25 = .ok (.goto 7, 3) := by decide +kernel
theorem d_M_outside_28 : decode prog_13_method_16_code 28 = .ok (.aload_n 0, 1) := by decide +kernel
theorem d_M_outside_29 : decode prog_13_method_16_code 29 = .ok (.invokevirtual 173, 3) := by decide +kernel
theorem d_M_outside_32 : decode prog_13_method_16_code 32 = .ok (.aload_n 0, 1) := by decide +kernel
theorem d_M_outside_33 : decode prog_13_method_16_code 33 = .ok (.aload_n 0, 1) := by decide +kernel
theorem d_M_outside_34 : decode prog_13_method_16_code 34 = .ok (.getfield 133, 3) := by decide +kernel
theorem d_M_outside_37 : decode prog_13_method_16_code 37 = .ok (.iconst 0, 1) := by decide +kernel
theorem d_M_outside_38 : decode prog_13_method_16_code 38 = .ok (.invokevirtual 145, 3) := by decide +kernel
theorem d_M_outside_41 : decode prog_13_method_16_code 41 = .ok (.iload_n 1, 1) := by decide +kernel
theorem d_M_outside_42 : decode prog_13_method_16_code 42 = .ok (.iconst 1, 1) := by decide +kernel
theorem d_M_outside_43 : decode prog_13_method_16_code 43 = .ok (.iadd, 1) := by decide +kernel
theorem d_M_outside_44 : decode prog_13_method_16_code 44 = .ok (.ireturn, 1) := by decide +kernel
theorem d_M_outside_45 : decode prog_13_method_16_code 45 = .ok (.iload_n 1, 1) := by decide +kernel
theorem d_M_outside_46 : decode prog_13_method_16_code 46 = .ok (.iconst 2, 1) := by decide +kernel
theorem d_M_outside_47 : decode prog_13_method_16_code 47 = .ok (.if_icmp .ne 25, 3) := by decide +kernel
theorem d_M_outside_50 : decode prog_13_method_16_code 50 = .ok (.aload_n 0, 1) := by decide +kernel
theorem d_M_outside_51 : decode prog_13_method_16_code 51 = .ok (.getfield 130, 3) := by decide +kernel
theorem d_M_outside_54 : decode prog_13_method_16_code 54 = .ok (.bipush 33, 2) := by decide +kernel
theorem d_M_outside_56 : decode prog_13_method_16_code 56 = .ok (.if_icmp .ne 16, 3) := by decide +kernel
theorem d_M_outside_59 : decode prog_13_method_16_code 59 = .ok (.aload_n 0, 1) := by decide +kernel
theorem d_M_outside_60 : decode prog_13_method_16_code 60 = .ok (.invokevirtual 173, 3) := by decide +kernel
theorem d_M_outside_63 : decode prog_13_method_16_code 63 = .ok (.aload_n 0, 1) := by decide +kernel
theorem d_M_outside_64 : decode prog_13_method_16_code 64 = .ok (.lconst 0, 1) := by decide +kernel
theorem d_M_outside_65 : decode prog_13_method_16_code 65 = .ok (.bipush (-2), 2) := by decide +kernel
theorem d_M_outside_67 : decode prog_13_method_16_code 67 = .ok (.invokevirtual 145, 3) := by decide +kernel
theorem d_M_outside_70 : decode prog_13_method_16_code 70 = .ok (.iconst 3, 1) := by decide +kernel
theorem d_M_outside_71 : decode prog_13_method_16_code 71 = .ok (.ireturn, 1) := by decide +kernel
theorem d_M_outside_72 : decode prog_13_method_16_code 72 = .ok (.iload_n 1, 1) := by decide +kernel
theorem d_M_outside_73 : decode prog_13_method_16_code 73 = .ok (.iconst 1, 1) := by decide +kernel
theorem d_M_outside_74 : decode prog_13_method_16_code 74 = .ok (.if_icmp .ne 11, 3) := by decide +kernel
theorem d_M_outside_77 : decode prog_13_method_16_code 77 = .ok (.aload_n 0, 1) := by decide +kernel
theorem d_M_outside_78 : decode prog_13_method_16_code 78 = .ok (.getfield 130, 3) := by decide +kernel
theorem d_M_outside_81 : decode prog_13_method_16_code 81 = .ok (.iconst 3, 1) := by decide +kernel
theorem d_M_outside_82 : decode prog_13_method_16_code 82 = .ok (.if_icmp .eq 17, 3) := by decide +kernel
theorem d_M_outside_85 : decode prog_13_method_16_code 85 = .ok (.iload_n 1, 1) := by decide +kernel
theorem d_M_outside_86 : decode prog_13_method_16_code 86 = .ok (.iconst 3, 1) := by decide +kernel
theorem d_M_outside_87 : decode prog_13_method_16_code 87 = .ok (.if_icmp .ne 14, 3) := by decide +kernel
theorem d_M_outside_90 : decode prog_13_method_16_code 90 = .ok (.aload_n 0, 1) := by decide +kernel
theorem d_M_outside_91 : decode prog_13_method_16_code 91 = .ok (.getfield 130, 3) := by decide +kernel
theorem d_M_outside_94 : decode prog_13_method_16_code 94 = .ok (.bipush 44, 2) := by decide +kernel
theorem d_M_outside_96 : decode prog_13_method_16_code 96 = .ok (.if_icmp .ne 5, 3) := by decide +kernel
theorem d_M_outside_99 : decode prog_13_method_16_code 99 = .ok (.iconst 2, 1) := by decide +kernel
theorem d_M_outside_100 : decode prog_13_method_16_code 100 = .ok (.ireturn, 1) := by decide +kernel
theorem d_M_outside_101 : decode prog_13_method_16_code 101 = .ok (.iload_n 1, 1) := by decide +kernel
theorem d_M_outside_102 : decode prog_13_method_16_code 102 = .ok (.iconst 1, 1) := by decide +kernel
theorem d_M_outside_103 : decode prog_13_method_16_code 103 = .ok (.if_icmp .eq 8, 3) := by decide +kernel
theorem d_M_outside_106 : decode prog_13_method_16_code 106 = .ok (.iload_n 1, 1) := by decide +kernel
theorem d_M_outside_107 : decode prog_13_method_16_code 107 = .ok (.iconst 3, 1) := by decide +kernel
theorem d_M_outside_108 : decode prog_13_method_16_code 108 = .ok (.if_icmp .ne 26, 3) := by decide +kernel
theorem d_M_outside_111 : decode prog_13_method_16_code 111 = .ok (.aload_n 0, 1) := by decide +kernel
theorem d_M_outside_112 : decode prog_13_method_16_code 112 = .ok (.getfield 130, 3) := by decide +kernel
theorem d_M_outside_115 : decode prog_13_method_16_code 115 = .ok (.bipush 46, 2) := by decide +kernel
theorem d_M_outside_117 : decode prog_13_method_16_code 117 = .ok (.if_icmp .ne 17, 3) := by decide +kernel
theorem d_M_outside_120 : decode prog_13_method_16_code 120 = .ok (.aload_n 0, 1) := by decide +kernel
theorem d_M_outside_121 : decode prog_13_method_16_code 121 = .ok (.invokevirtual 176, 3) := by decide +kernel
theorem d_M_outside_124 : decode prog_13_method_16_code 124 = .ok (.iload_n 2, 1) := by decide +kernel
theorem d_M_outside_125 : decode prog_13_method_16_code 125 = .ok (.ifCond .eq 7, 3) := by decide +kernel
theorem d_M_outside_128 : decode prog_13_method_16_code 128 = .ok (.iconst 4, 1) := by decide +kernel
theorem d_M_outside_129 : decode prog_13_method_16_code 129 = .ok (.goto 4, 3) := by decide +kernel
theorem d_M_outside_132 : decode prog_13_method_16_code 132 = .ok (.iconst 0, 1) := by decide +kernel
theorem d_M_outside_133 : decode prog_13_method_16_code 133 = .ok (.ireturn, 1) := by decide +kernel
theorem d_M_outside_134 : decode prog_13_method_16_code 134 = .ok (.iconst (-1), 1) := by decide +kernel
theorem d_M_outside_135 : decode prog_13_method_16_code 135 = .ok (.ireturn, 1) := by decide +kernel
theorem d_M_emitVariable_0 : decode prog_13_method_9_code 0 = .ok (.iconst (-1), 1) := by decide +kernel
theorem d_M_emitVariable_1 : decode prog_13_method_9_code 1 = .ok (.istore_n 1, 1) := by decide +kernel
theorem d_M_emitVariable_2 : decode prog_13_method_9_code 2 = .ok (.iconst 0, 1) := by decide +kernel
theorem d_M_emitVariable_3 : decode prog_13_method_9_code 3 = .ok (.istore_n 2, 1) := by decide +kernel
theorem d_M_emitVariable_4 : decode prog_13_method_9_code 4 = .ok (.iload_n 2, 1) := by decide +kernel
theorem d_M_emitVariable_5 : decode prog_13_method_9_code 5 = .ok (.aload_n 0, 1) := by decide +kernel
theorem d_M_emitVariable_6 : decode prog_13_method_9_code 6 = .ok (.getfield 140, 3) := by decide +kernel
theorem d_M_emitVariable_9 : decode prog_13_method_9_code 9 = .ok (.if_icmp .ge 40, 3) := by decide +kernel
theorem d_M_emitVariable_12 : decode prog_13_method_9_code 12 = .ok (.aload_n 0, 1) := by decide +kernel
theorem d_M_emitVariable_13 : decode prog_13_method_9_code 13 = .ok (.getfield 133, 3) := by decide +kernel
theorem d_M_emitVariable_16 : decode prog_13_method_9_code 16 = .ok (.ldc2_w 143, 3) := by decide +kernel
theorem d_M_emitVariable_19 : decode prog_13_method_9_code 19 = .ok (.lcmp, 1) := by decide +kernel
theorem d_M_emitVariable_20 : decode prog_13_method_9_code 20 = .ok (.ifCond .eq 21, 3) := by decide +kernel
theorem d_M_emitVariable_23 : decode prog_13_method_9_code 23 = .ok (.aload_n 0, 1) := by decide +kernel
theorem d_M_emitVariable_24 : decode prog_13_method_9_code 24 = .ok (.getfield 32, 3) := by decide +kernel
theorem d_M_emitVariable_27 : decode prog_13_method_9_code 27 = .ok (.iload_n 2, 1) := by decide +kernel
theorem d_M_emitVariable_28 : decode prog_13_method_9_code 28 = .ok (.laload, 1) := by decide +kernel
theorem d_M_emitVariable_29 : decode prog_13_method_9_code 29 = .ok (.aload_n 0, 1) := by decide +kernel
theorem d_M_emitVariable_30 : decode prog_13_method_9_code 30 = .ok (.getfield 133, 3) := by decide +kernel
theorem d_M_emitVariable_33 : decode prog_13_method_9_code 33 = .ok (.lcmp, 1) := by decide +kernel
theorem d_M_emitVariable_34 : decode prog_13_method_9_code 34 = .ok (.ifCond .ne 7, 3) := by decide +kernel
theorem d_M_emitVariable_37 : decode prog_13_method_9_code 37 = .ok (.iload_n 2, 1) := by decide +kernel
theorem d_M_emitVariable_38 : decode prog_13_method_9_code 38 = .ok (.goto 4, 3) := by decide +kernel
theorem d_M_emitVariable_41 : decode prog_13_method_9_code 41 = .ok (.iload_n 1, 1) := by decide +kernel
theorem d_M_emitVariable_42 : decode prog_13_method_9_code 42 = .ok (.istore_n 1, 1) := by decide +kernel
theorem d_M_emitVariable_43 : decode prog_13_method_9_code 43 = .ok (.iinc 2 1, 3) := by decide +kernel
theorem d_M_emitVariable_46 : decode prog_13_method_9_code 46 = .ok (.goto (-42), 3) := by decide +kernel
theorem d_M_emitVariable_49 : decode prog_13_method_9_code 49 = .ok (.iload_n 1, 1) := by decide +kernel
theorem d_M_emitVariable_50 : decode prog_13_method_9_code 50 = .ok (.ifCond .ge 44, 3) := by decide +kernel
theorem d_M_emitVariable_53 : decode prog_13_method_9_code 53 = .ok (.aload_n 0, 1) := by decide +kernel
theorem d_M_emitVariable_54 : decode prog_13_method_9_code 54 = .ok (.getfield 140, 3) := by decide +kernel
theorem d_M_emitVariable_57 : decode prog_13_method_9_code 57 = .ok (.istore_n 1, 1) := by decide +kernel
theorem d_M_emitVariable_58 : decode prog_13_method_9_code 58 = .ok (.aload_n 0, 1) := by decide +kernel
theorem d_M_emitVariable_59 : decode prog_13_method_9_code 59 = .ok (.getfield 32, 3) := by decide +kernel
theorem d_M_emitVariable_62 : decode prog_13_method_9_code 62 = .ok (.aload_n 0, 1) := by decide +kernel
theorem d_M_emitVariable_63 : decode prog_13_method_9_code 63 = .ok (.getfield 140, 3) := by decide +kernel
theorem d_M_emitVariable_66 : decode prog_13_method_9_code 66 = .ok (.aload_n 0, 1) := by decide +kernel
theorem d_M_emitVariable_67 : decode prog_13_method_9_code 67 = .ok (.getfield 133, 3) := by decide +kernel
theorem d_M_emitVariable_70 : decode prog_13_method_9_code 70 = .ok (.lastore, 1) := by decide +kernel
theorem d_M_emitVariable_71 : decode prog_13_method_9_code 71 = .ok (.aload_n 0, 1) := by decide +kernel
theorem d_M_emitVariable_72 : decode prog_13_method_9_code 72 = .ok (.getfield 35, 3) := by decide +kernel
theorem d_M_emitVariable_75 : decode prog_13_method_9_code 75 = .ok (.aload_n 0, 1) := by decide +kernel
theorem d_M_emitVariable_76 : decode prog_13_method_9_code 76 = .ok (.getfield 140, 3) := by decide +kernel
theorem d_M_emitVariable_79 : decode prog_13_method_9_code 79 = .ok (.aload_n 0, 1) := by decide +kernel
theorem d_M_emitVariable_80 : decode prog_13_method_9_code 80 = .ok (.getfield 137, 3) := by decide +kernel
theorem d_M_emitVariable_83 : decode prog_13_method_9_code 83 = .ok (.iastore, 1) := by decide +kernel
theorem d_M_emitVariable_84 : decode prog_13_method_9_code 84 = .ok (.aload_n 0, 1) := by decide +kernel
theorem d_M_emitVariable_85 : decode prog_13_method_9_code 85 = .ok (.aload_n 0, 1) := by decide +kernel
theorem d_M_emitVariable_86 : decode prog_13_method_9_code 86 = .ok (.getfield 140, 3) := by decide +kernel
theorem d_M_emitVariable_89 : decode prog_13_method_9_code 89 = .ok (.iconst 1, 1) := by decide +kernel
theorem d_M_emitVariable_90 : decode prog_13_method_9_code 90 = .ok (.iadd, 1) := by decide +kernel
theorem d_M_emitVariable_91 : decode prog_13_method_9_code 91 = .ok (.putfield 140, 3) := by decide +kernel
theorem d_M_emitVariable_94 : decode prog_13_method_9_code 94 = .ok (.aload_n 0, 1) := by decide +kernel
theorem d_M_emitVariable_95 : decode prog_13_method_9_code 95 = .ok (.iload_n 1, 1) := by decide +kernel
theorem d_M_emitVariable_96 : decode prog_13_method_9_code 96 = .ok (.i2l, 1) := by decide +kernel
theorem d_M_emitVariable_97 : decode prog_13_method_9_code 97 = .ok (.iconst (-1), 1) := by decide +kernel
theorem d_M_emitVariable_98 : decode prog_13_method_9_code 98 = .ok (.invokevirtual 145, 3) := by decide +kernel
theorem d_M_emitVariable_101 : decode prog_13_method_9_code 101 = .ok (.return_, 1) := by decide +kernel
theorem d_M_beginTerm_0 : decode prog_13_method_14_code 0 = .ok (.aload_n 0, 1) := by decide +kernel
theorem d_M_beginTerm_1 : decode prog_13_method_14_code 1 = .ok (.getfield 130, 3) := by decide +kernel
theorem d_M_beginTerm_4 : decode prog_13_method_14_code 4 = .ok (.iconst 1, 1) := by decide +kernel
theorem d_M_beginTerm_5 : decode prog_13_method_14_code 5 = .ok (.if_icmp .eq 22, 3) := by decide +kernel
theorem d_M_beginTerm_8 : decode prog_13_method_14_code 8 = .ok (.aload_n 0, 1) := by decide +kernel
theorem d_M_beginTerm_9 : decode prog_13_method_14_code 9 = .ok (.getfield 130, 3) := by decide +kernel
theorem d_M_beginTerm_12 : decode prog_13_method_14_code 12 = .ok (.iconst 2, 1) := by decide +kernel
theorem d_M_beginTerm_13 : decode prog_13_method_14_code 13 = .ok (.if_icmp .eq 14, 3) := by decide +kernel
theorem d_M_beginTerm_16 : decode prog_13_method_14_code 16 = .ok (.aload_n 0, 1) := by decide +kernel
theorem d_M_beginTerm_17 : decode prog_13_method_14_code 17 = .ok (.getfield 130, 3) := by decide +kernel
theorem d_M_beginTerm_20 : decode prog_13_method_14_code 20 = .ok (.bipush 91, 2) := by decide +kernel
theorem d_M_beginTerm_22 : decode prog_13_method_14_code 22 = .ok (.if_icmp .eq 5, 3) := by decide +kernel
theorem d_M_beginTerm_25 : decode prog_13_method_14_code 25 = .ok (.iconst 0, 1) := by decide +kernel
theorem d_M_beginTerm_26 : decode prog_13_method_14_code 26 = .ok (.ireturn, 1) := by decide +kernel
theorem d_M_beginTerm_27 : decode prog_13_method_14_code 27 = .ok (.aload_n 0, 1) := by decide +kernel
theorem d_M_beginTerm_28 : decode prog_13_method_14_code 28 = .ok (.getfield 38, 3) := by decide +kernel
theorem d_M_beginTerm_31 : decode prog_13_method_14_code 31 = .ok (.aload_n 0, 1) := by decide +kernel
theorem d_M_beginTerm_32 : decode prog_13_method_14_code 32 = .ok (.getfield 155, 3) := by decide +kernel
theorem d_M_beginTerm_35 : decode prog_13_method_14_code 35 = .ok (.iconst 1, 1) := by decide +kernel
theorem d_M_beginTerm_36 : decode prog_13_method_14_code 36 = .ok (.isub, 1) := by decide +kernel
theorem d_M_beginTerm_37 : decode prog_13_method_14_code 37 = .ok (.iaload, 1) := by decide +kernel
theorem d_M_beginTerm_38 : decode prog_13_method_14_code 38 = .ok (.iconst 1, 1) := by decide +kernel
theorem d_M_beginTerm_39 : decode prog_13_method_14_code 39 = .ok (.if_icmp .ne 16, 3) := by decide +kernel
theorem d_M_beginTerm_42 : decode prog_13_method_14_code 42 = .ok (.aload_n 0, 1) := by decide +kernel
theorem d_M_beginTerm_43 : decode prog_13_method_14_code 43 = .ok (.getfield 158, 3) := by decide +kernel
theorem d_M_beginTerm_46 : decode prog_13_method_14_code 46 = .ok (.ifCond .eq 9, 3) := by decide +kernel
theorem d_M_beginTerm_49 : decode prog_13_method_14_code 49 = .ok (.aload_n 0, 1) := by decide +kernel
theorem d_M_beginTerm_50 : decode prog_13_method_14_code 50 = .ok (.lconst 1, 1) := by decide +kernel
theorem d_M_beginTerm_51 : decode prog_13_method_14_code 51 = .ok (.iconst 2, 1) := by decide +kernel
theorem d_M_beginTerm_52 : decode prog_13_method_14_code 52 = .ok (.invokevirtual 145, 3) := by decide +kernel
theorem d_M_beginTerm_55 : decode prog_13_method_14_code 55 = .ok (.aload_n 0, 1) := by decide +kernel
theorem d_M_beginTerm_56 : decode prog_13_method_14_code 56 = .ok (.iconst 0, 1) := by decide +kernel
theorem d_M_beginTerm_57 : decode prog_13_method_14_code 57 = .ok (.putfield 158, 3) := by decide +kernel
theorem d_M_beginTerm_60 : decode prog_13_method_14_code 60 = .ok (.aload_n 0, 1) := by decide +kernel
theorem d_M_beginTerm_61 : decode prog_13_method_14_code 61 = .ok (.getfield 130, 3) := by decide +kernel
theorem d_M_beginTerm_64 : decode prog_13_method_14_code 64 = .ok (.iconst 1, 1) := by decide +kernel
theorem d_M_beginTerm_65 : decode prog_13_method_14_code 65 = .ok (.if_icmp .ne 15, 3) := by decide +kernel
theorem d_M_beginTerm_68 : decode prog_13_method_14_code 68 = .ok (.aload_n 0, 1) := by decide +kernel
theorem d_M_beginTerm_69 : decode prog_13_method_14_code 69 = .ok (.aload_n 0, 1) := by decide +kernel
theorem d_M_beginTerm_70 : decode prog_13_method_14_code 70 = .ok (.getfield 133, 3) := by decide +kernel
theorem d_M_beginTerm_73 : decode prog_13_method_14_code 73 = .ok (.iconst 0, 1) := by decide +kernel
theorem d_M_beginTerm_74 : decode prog_13_method_14_code 74 = .ok (.invokevirtual 145, 3) := by decide +kernel
theorem d_M_beginTerm_77 : decode prog_13_method_14_code 77 = .ok (.goto 33, 3) := by decide +kernel
theorem d_M_beginTerm_80 : decode prog_13_method_14_code 80 = .ok (.aload_n 0, 1) := by decide +kernel
theorem d_M_beginTerm_81 : decode prog_13_method_14_code 81 = .ok (.getfield 130, 3) := by decide +kernel
theorem d_M_beginTerm_84 : decode prog_13_method_14_code 84 = .ok (.iconst 2, 1) := by decide +kernel
theorem d_M_beginTerm_85 : decode prog_13_method_14_code 85 = .ok (.if_icmp .ne 10, 3) := by decide +kernel
theorem d_M_beginTerm_88 : decode prog_13_method_14_code 88 = .ok (.aload_n 0, 1) := by decide +kernel
theorem d_M_beginTerm_89 : decode prog_13_method_14_code 89 = .ok (.invokevirtual 162, 3) := by decide +kernel
theorem d_M_beginTerm_92 : decode prog_13_method_14_code 92 = .ok (.goto 18, 3) := by decide +kernel
theorem d_M_beginTerm_95 : decode prog_13_method_14_code 95 = .ok (.aload_n 0, 1) := by decide +kernel
theorem d_M_beginTerm_96 : decode prog_13_method_14_code 96 = .ok (.iconst 1, 1) := by decide +kernel
theorem d_M_beginTerm_97 : decode prog_13_method_14_code 97 = .ok (.invokevirtual 165, 3) := by decide +kernel
theorem d_M_beginTerm_100 : decode prog_13_method_14_code 100 = .ok (.ifCond .ne 5, 3) := by decide +kernel
theorem d_M_beginTerm_103 : decode prog_13_method_14_code 103 = .ok (.iconst 0, 1) := by decide +kernel
theorem d_M_beginTerm_104 : decode prog_13_method_14_code 104 = .ok (.ireturn, 1) := by decide +kernel
theorem d_M_beginTerm_105 : decode prog_13_method_14_code 105 = .ok (.aload_n 0, 1) := by decide +kernel
theorem d_M_beginTerm_106 : decode prog_13_method_14_code 106 = .ok (.iconst 1, 1) := by decide +kernel
theorem d_M_beginTerm_107 : decode prog_13_method_14_code 107 = .ok (.putfield 158, 3) := by decide +kernel
theorem d_M_beginTerm_110 : decode prog_13_method_14_code 110 = .ok (.iconst 1, 1) := by decide +kernel
theorem d_M_beginTerm_111 : decode prog_13_method_14_code 111 = .ok (.ireturn, 1) := by decide +kernel
theorem d_M_goOn_0 : decode prog_13_method_15_code 0 = .ok (.aload_n 0, 1) := by decide +kernel
theorem d_M_goOn_1 : decode prog_13_method_15_code 1 = .ok (.getfield 155, 3) := by decide +kernel
theorem d_M_goOn_4 : decode prog_13_method_15_code 4 = .ok (.iconst 1, 1) := by decide +kernel
theorem d_M_goOn_5 : decode prog_13_method_15_code 5 = .ok (.isub, 1) := by decide +kernel
theorem d_M_goOn_6 : decode prog_13_method_15_code 6 = .ok (.istore_n 1, 1) := by decide +kernel
theorem d_M_goOn_7 : decode prog_13_method_15_code 7 = .ok (.aload_n 0, 1) := by decide +kernel
theorem d_M_goOn_8 : decode prog_13_method_15_code 8 = .ok (.getfield 130, 3) := by decide +kernel
theorem d_M_goOn_11 : decode prog_13_method_15_code 11 = .ok (.bipush 44, 2) := by decide +kernel
theorem d_M_goOn_13 : decode prog_13_method_15_code 13 = .ok (.if_icmp .ne 48, 3) := by decide +kernel
theorem d_M_goOn_16 : decode prog_13_method_15_code 16 = .ok (.aload_n 0, 1) := by decide +kernel
theorem d_M_goOn_17 : decode prog_13_method_15_code 17 = .ok (.getfield 38, 3) := by decide +kernel
theorem d_M_goOn_20 : decode prog_13_method_15_code 20 = .ok (.iload_n 1, 1) := by decide +kernel
theorem d_M_goOn_21 : decode prog_13_method_15_code 21 = .ok (.iaload, 1) := by decide +kernel
theorem d_M_goOn_22 : decode prog_13_method_15_code 22 = .ok (.iconst 2, 1) := by decide +kernel
theorem d_M_goOn_23 : decode prog_13_method_15_code 23 = .ok (.if_icmp .ge 38, 3) := by decide +kernel
theorem d_M_goOn_26 : decode prog_13_method_15_code 26 = .ok (.aload_n 0, 1) := by decide +kernel
theorem d_M_goOn_27 : decode prog_13_method_15_code 27 = .ok (.getfield 44, 3) := by decide +kernel
theorem d_M_goOn_30 : decode prog_13_method_15_code 30 = .ok (.iload_n 1, 1) := by decide +kernel
theorem d_M_goOn_31 : decode prog_13_method_15_code 31 = .ok (.aload_n 0, 1) := by decide +kernel
theorem d_M_goOn_32 : decode prog_13_method_15_code 32 = .ok (.getfield 44, 3) := by decide +kernel
theorem d_M_goOn_35 : decode prog_13_method_15_code 35 = .ok (.iload_n 1, 1) := by decide +kernel
theorem d_M_goOn_36 : decode prog_13_method_15_code 36 = .ok (.iaload, 1) := by decide +kernel
theorem d_M_goOn_37 : decode prog_13_method_15_code 37 = .ok (.iconst 1, 1) := by decide +kernel
theorem d_M_goOn_38 : decode prog_13_method_15_code 38 = .ok (.iadd, 1) := by decide +kernel
theorem d_M_goOn_39 : decode prog_13_method_15_code 39 = .ok (.iastore, 1) := by decide +kernel
theorem d_M_goOn_40 : decode prog_13_method_15_code 40 = .ok (.aload_n 0, 1) := by decide +kernel
theorem d_M_goOn_41 : decode prog_13_method_15_code 41 = .ok (.aload_n 0, 1) := by decide +kernel
theorem d_M_goOn_42 : decode prog_13_method_15_code 42 = .ok (.getfield 38, 3) := by decide +kernel
theorem d_M_goOn_45 : decode prog_13_method_15_code 45 = .ok (.iload_n 1, 1) := by decide +kernel
theorem d_M_goOn_46 : decode prog_13_method_15_code 46 = .ok (.iaload, 1) := by decide +kernel
theorem d_M_goOn_47 : decode prog_13_method_15_code 47 = .ok (.iconst 1, 1) := by decide +kernel
theorem d_M_goOn_48 : decode prog_13_method_15_code 48 = .ok (.if_icmp .ne 7, 3) := by decide +kernel
theorem d_M_goOn_51 : decode prog_13_method_15_code 51 = .ok (.iconst 1, 1) := by decide +kernel
theorem d_M_goOn_52 : decode prog_13_method_15_code 52 = .ok (.goto 4, 3) := by decide +kernel
theorem d_M_goOn_55 : decode prog_13_method_15_code 55 = .ok (.iconst 0, 1) := by decide +kernel
theorem d_M_goOn_56 : decode prog_13_method_15_code 56 = .ok (.putfield 158, 3) := by decide +kernel
theorem d_M_goOn_59 : decode prog_13_method_15_code 59 = .ok (.iconst 1, 1) := by decide +kernel
theorem d_M_goOn_60 : decode prog_13_method_15_code 60 = .ok (.ireturn, 1) := by decide +kernel
theorem d_M_goOn_61 : decode prog_13_method_15_code 61 = .ok (.aload_n 0, 1) := by decide +kernel
theorem d_M_goOn_62 : decode prog_13_method_15_code 62 = .ok (.getfield 130, 3) := by decide +kernel
theorem d_M_goOn_65 : decode prog_13_method_15_code 65 = .ok (.bipush 41, 2) := by decide +kernel
theorem d_M_goOn_67 : decode prog_13_method_15_code 67 = .ok (.if_icmp .ne 36, 3) := by decide +kernel
theorem d_M_goOn_70 : decode prog_13_method_15_code 70 = .ok (.aload_n 0, 1) := by decide +kernel
theorem d_M_goOn_71 : decode prog_13_method_15_code 71 = .ok (.getfield 38, 3) := by decide +kernel
theorem d_M_goOn_74 : decode prog_13_method_15_code 74 = .ok (.iload_n 1, 1) := by decide +kernel
theorem d_M_goOn_75 : decode prog_13_method_15_code 75 = .ok (.iaload, 1) := by decide +kernel
theorem d_M_goOn_76 : decode prog_13_method_15_code 76 = .ok (.ifCond .ne 27, 3) := by decide +kernel
theorem d_M_goOn_79 : decode prog_13_method_15_code 79 = .ok (.aload_n 0, 1) := by decide +kernel
theorem d_M_goOn_80 : decode prog_13_method_15_code 80 = .ok (.getfield 17, 3) := by decide +kernel
theorem d_M_goOn_83 : decode prog_13_method_15_code 83 = .ok (.aload_n 0, 1) := by decide +kernel
theorem d_M_goOn_84 : decode prog_13_method_15_code 84 = .ok (.getfield 41, 3) := by decide +kernel
theorem d_M_goOn_87 : decode prog_13_method_15_code 87 = .ok (.iload_n 1, 1) := by decide +kernel
theorem d_M_goOn_88 : decode prog_13_method_15_code 88 = .ok (.iaload, 1) := by decide +kernel
theorem d_M_goOn_89 : decode prog_13_method_15_code 89 = .ok (.aload_n 0, 1) := by decide +kernel
theorem d_M_goOn_90 : decode prog_13_method_15_code 90 = .ok (.getfield 44, 3) := by decide +kernel
theorem d_M_goOn_93 : decode prog_13_method_15_code 93 = .ok (.iload_n 1, 1) := by decide +kernel
theorem d_M_goOn_94 : decode prog_13_method_15_code 94 = .ok (.iaload, 1) := by decide +kernel
theorem d_M_goOn_95 : decode prog_13_method_15_code 95 = .ok (.iastore, 1) := by decide +kernel
theorem d_M_goOn_96 : decode prog_13_method_15_code 96 = .ok (.aload_n 0, 1) := by decide +kernel
theorem d_M_goOn_97 : decode prog_13_method_15_code 97 = .ok (.iload_n 1, 1) := by decide +kernel
theorem d_M_goOn_98 : decode prog_13_method_15_code 98 = .ok (.putfield 155, 3) := by decide +kernel
theorem d_M_goOn_101 : decode prog_13_method_15_code 101 = .ok (.iconst 1, 1) := by decide +kernel
theorem d_M_goOn_102 : decode prog_13_method_15_code 102 = .ok (.ireturn, 1) := by decide +kernel
theorem d_M_goOn_103 : decode prog_13_method_15_code 103 = .ok (.aload_n 0, 1) := by decide +kernel
theorem d_M_goOn_104 : decode prog_13_method_15_code 104 = .ok (.getfield 130, 3) := by decide +kernel
theorem d_M_goOn_107 : decode prog_13_method_15_code 107 = .ok (.bipush 93, 2) := by decide +kernel
theorem d_M_goOn_109 : decode prog_13_method_15_code 109 = .ok (.if_icmp .ne 37, 3) := by decide +kernel
theorem d_M_goOn_112 : decode prog_13_method_15_code 112 = .ok (.aload_n 0, 1) := by decide +kernel
theorem d_M_goOn_113 : decode prog_13_method_15_code 113 = .ok (.getfield 38, 3) := by decide +kernel
theorem d_M_goOn_116 : decode prog_13_method_15_code 116 = .ok (.iload_n 1, 1) := by decide +kernel
theorem d_M_goOn_117 : decode prog_13_method_15_code 117 = .ok (.iaload, 1) := by decide +kernel
theorem d_M_goOn_118 : decode prog_13_method_15_code 118 = .ok (.ifCond .le 28, 3) := by decide +kernel
theorem d_M_goOn_121 : decode prog_13_method_15_code 121 = .ok (.aload_n 0, 1) := by decide +kernel
theorem d_M_goOn_122 : decode prog_13_method_15_code 122 = .ok (.getfield 38, 3) := by decide +kernel
theorem d_M_goOn_125 : decode prog_13_method_15_code 125 = .ok (.iload_n 1, 1) := by decide +kernel
theorem d_M_goOn_126 : decode prog_13_method_15_code 126 = .ok (.iaload, 1) := by decide +kernel
theorem d_M_goOn_127 : decode prog_13_method_15_code 127 = .ok (.iconst 1, 1) := by decide +kernel
theorem d_M_goOn_128 : decode prog_13_method_15_code 128 = .ok (.if_icmp .ne 11, 3) := by decide +kernel
theorem d_M_goOn_131 : decode prog_13_method_15_code 131 = .ok (.aload_n 0, 1) := by decide +kernel
theorem d_M_goOn_132 : decode prog_13_method_15_code 132 = .ok (.ldc2_w 168, 3) := by decide +kernel
theorem d_M_goOn_135 : decode prog_13_method_15_code 135 = .ok (.iconst 0, 1) := by decide +kernel
theorem d_M_goOn_136 : decode prog_13_method_15_code 136 = .ok (.invokevirtual 145, 3) := by decide +kernel
theorem d_M_goOn_139 : decode prog_13_method_15_code 139 = .ok (.aload_n 0, 1) := by decide +kernel
theorem d_M_goOn_140 : decode prog_13_method_15_code 140 = .ok (.iload_n 1, 1) := by decide +kernel
theorem d_M_goOn_141 : decode prog_13_method_15_code 141 = .ok (.putfield 155, 3) := by decide +kernel
theorem d_M_goOn_144 : decode prog_13_method_15_code 144 = .ok (.iconst 1, 1) := by decide +kernel
theorem d_M_goOn_145 : decode prog_13_method_15_code 145 = .ok (.ireturn, 1) := by decide +kernel
theorem d_M_goOn_146 : decode prog_13_method_15_code 146 = .ok (.aload_n 0, 1) := by decide +kernel
theorem d_M_goOn_147 : decode prog_13_method_15_code 147 = .ok (.getfield 130, 3) := by decide +kernel
theorem d_M_goOn_150 : decode prog_13_method_15_code 150 = .ok (.bipush 124, 2) := by decide +kernel
theorem d_M_goOn_152 : decode prog_13_method_15_code 152 = .ok (.if_icmp .ne 22, 3) := by decide +kernel
theorem d_M_goOn_155 : decode prog_13_method_15_code 155 = .ok (.aload_n 0, 1) := by decide +kernel
theorem d_M_goOn_156 : decode prog_13_method_15_code 156 = .ok (.getfield 38, 3) := by decide +kernel
theorem d_M_goOn_159 : decode prog_13_method_15_code 159 = .ok (.iload_n 1, 1) := by decide +kernel
theorem d_M_goOn_160 : decode prog_13_method_15_code 160 = .ok (.iaload, 1) := by decide +kernel
theorem d_M_goOn_161 : decode prog_13_method_15_code 161 = .ok (.iconst 1, 1) := by decide +kernel
theorem d_M_goOn_162 : decode prog_13_method_15_code 162 = .ok (.if_icmp .ne 12, 3) := by decide +kernel
theorem d_M_goOn_165 : decode prog_13_method_15_code 165 = .ok (.aload_n 0, 1) := by decide +kernel
theorem d_M_goOn_166 : decode prog_13_method_15_code 166 = .ok (.getfield 38, 3) := by decide +kernel
theorem d_M_goOn_169 : decode prog_13_method_15_code 169 = .ok (.iload_n 1, 1) := by decide +kernel
theorem d_M_goOn_170 : decode prog_13_method_15_code 170 = .ok (.iconst 2, 1) := by decide +kernel
theorem d_M_goOn_171 : decode prog_13_method_15_code 171 = .ok (.iastore, 1) := by decide +kernel
theorem d_M_goOn_172 : decode prog_13_method_15_code 172 = .ok (.iconst 1, 1) := by decide +kernel
theorem d_M_goOn_173 : decode prog_13_method_15_code 173 = .ok (.ireturn, 1) := by decide +kernel
theorem d_M_goOn_174 : decode prog_13_method_15_code 174 = .ok (.iconst 0, 1) := by decide +kernel
theorem d_M_goOn_175 : decode prog_13_method_15_code 175 = .ok (.ireturn, 1) := by decide +kernel
theorem d_M_read_0 : decode prog_13_method_17_code 0 = .ok (.iload_n 1, 1) := by decide +kernel
theorem d_M_read_1 : decode prog_13_method_17_code 1 = .ok (.ifCond .eq 7, 3) := by decide +kernel
theorem d_M_read_4 : decode prog_13_method_17_code 4 = .ok (.iconst 2, 1) := by decide +kernel
theorem d_M_read_5 : decode prog_13_method_17_code 5 = .ok (.goto 4, 3) := by decide +kernel
theorem d_M_read_8 : decode prog_13_method_17_code 8 = .ok (.iconst 0, 1) := by decide +kernel
theorem d_M_read_9 : decode prog_13_method_17_code 9 = .ok (.istore_n 2, 1) := by decide +kernel
theorem d_M_read_10 : decode prog_13_method_17_code 10 = .ok (.iconst 0, 1) := by decide +kernel
theorem d_M_read_11 : decode prog_13_method_17_code 11 = .ok (.istore_n 3, 1) := by decide +kernel
theorem d_M_read_12 : decode prog_13_method_17_code 12 = .ok (.iconst 0, 1) := by decide +kernel
theorem d_M_read_13 : decode prog_13_method_17_code 13 = .ok (.istore 4, 2) := by decide +kernel
theorem d_M_read_15 : decode prog_13_method_17_code 15 = .ok (.aload_n 0, 1) := by decide +kernel
theorem d_M_read_16 : decode prog_13_method_17_code 16 = .ok (.iconst 0, 1) := by decide +kernel
theorem d_M_read_17 : decode prog_13_method_17_code 17 = .ok (.putfield 120, 3) := by decide +kernel
theorem d_M_read_20 : decode prog_13_method_17_code 20 = .ok (.aload_n 0, 1) := by decide +kernel
theorem d_M_read_21 : decode prog_13_method_17_code 21 = .ok (.iconst 0, 1) := by decide +kernel
theorem d_M_read_22 : decode prog_13_method_17_code 22 = .ok (.putfield 137, 3) := by decide +kernel
theorem d_M_read_25 : decode prog_13_method_17_code 25 = .ok (.aload_n 0, 1) := by decide +kernel
theorem d_M_read_26 : decode prog_13_method_17_code 26 = .ok (.iconst 0, 1) := by decide +kernel
theorem d_M_read_27 : decode prog_13_method_17_code 27 = .ok (.putfield 149, 3) := by decide +kernel
theorem d_M_read_30 : decode prog_13_method_17_code 30 = .ok (.aload_n 0, 1) := by decide +kernel
theorem d_M_read_31 : decode prog_13_method_17_code 31 = .ok (.iconst 0, 1) := by decide +kernel
theorem d_M_read_32 : decode prog_13_method_17_code 32 = .ok (.putfield 152, 3) := by decide +kernel
theorem d_M_read_35 : decode prog_13_method_17_code 35 = .ok (.aload_n 0, 1) := by decide +kernel
theorem d_M_read_36 : decode prog_13_method_17_code 36 = .ok (.iconst 0, 1) := by decide +kernel
theorem d_M_read_37 : decode prog_13_method_17_code 37 = .ok (.putfield 155, 3) := by decide +kernel
theorem d_M_read_40 : decode prog_13_method_17_code 40 = .ok (.aload_n 0, 1) := by decide +kernel
theorem d_M_read_41 : decode prog_13_method_17_code 41 = .ok (.iconst 0, 1) := by decide +kernel
theorem d_M_read_42 : decode prog_13_method_17_code 42 = .ok (.putfield 158, 3) := by decide +kernel
theorem d_M_read_45 : decode prog_13_method_17_code 45 = .ok (.aload_n 0, 1) := by decide +kernel
theorem d_M_read_46 : decode prog_13_method_17_code 46 = .ok (.invokevirtual 170, 3) := by decide +kernel
theorem d_M_read_49 : decode prog_13_method_17_code 49 = .ok (.iconst 0, 1) := by decide +kernel
theorem d_M_read_50 : decode prog_13_method_17_code 50 = .ok (.istore 5, 2) := by decide +kernel
theorem d_M_read_52 : decode prog_13_method_17_code 52 = .ok (.iload 5, 2) := by decide +kernel
theorem d_M_read_54 : decode prog_13_method_17_code 54 = .ok (.sipush 300, 3) := by decide +kernel
theorem d_M_read_57 : decode prog_13_method_17_code 57 = .ok (.if_icmp .ge 287, 3) := by decide +kernel
theorem d_M_read_60 : decode prog_13_method_17_code 60 = .ok (.aload_n 0, 1) := by decide +kernel
theorem d_M_read_61 : decode prog_13_method_17_code 61 = .ok (.invokevirtual 179, 3) := by decide +kernel
theorem d_M_read_64 : decode prog_13_method_17_code 64 = .ok (.aload_n 0, 1) := by decide +kernel
theorem d_M_read_65 : decode prog_13_method_17_code 65 = .ok (.getfield 130, 3) := by decide +kernel
theorem d_M_read_68 : decode prog_13_method_17_code 68 = .ok (.ifCond .ne 28, 3) := by decide +kernel
theorem d_M_read_71 : decode prog_13_method_17_code 71 = .ok (.aload_n 0, 1) := by decide +kernel
theorem d_M_read_72 : decode prog_13_method_17_code 72 = .ok (.getfield 155, 3) := by decide +kernel
theorem d_M_read_75 : decode prog_13_method_17_code 75 = .ok (.ifCond .ne 16, 3) := by decide +kernel
theorem d_M_read_78 : decode prog_13_method_17_code 78 = .ok (.iload_n 2, 1) := by decide +kernel
theorem d_M_read_79 : decode prog_13_method_17_code 79 = .ok (.ifCond .eq 8, 3) := by decide +kernel
theorem d_M_read_82 : decode prog_13_method_17_code 82 = .ok (.iload_n 2, 1) := by decide +kernel
theorem d_M_read_83 : decode prog_13_method_17_code 83 = .ok (.iconst 4, 1) := by decide +kernel
theorem d_M_read_84 : decode prog_13_method_17_code 84 = .ok (.if_icmp .ne 7, 3) := by decide +kernel
theorem d_M_read_87 : decode prog_13_method_17_code 87 = .ok (.iconst (-1), 1) := by decide +kernel
theorem d_M_read_88 : decode prog_13_method_17_code 88 = .ok (.goto 7, 3) := by decide +kernel
theorem d_M_read_91 : decode prog_13_method_17_code 91 = .ok (.aload_n 0, 1) := by decide +kernel
theorem d_M_read_92 : decode prog_13_method_17_code 92 = .ok (.getfield 116, 3) := by decide +kernel
theorem d_M_read_95 : decode prog_13_method_17_code 95 = .ok (.ireturn, 1) := by decide +kernel
theorem d_M_read_96 : decode prog_13_method_17_code 96 = .ok (.iload_n 3, 1) := by decide +kernel
theorem d_M_read_97 : decode prog_13_method_17_code 97 = .ok (.ifCond .eq 33, 3) := by decide +kernel
theorem d_M_read_100 : decode prog_13_method_17_code 100 = .ok (.aload_n 0, 1) := by decide +kernel
theorem d_M_read_101 : decode prog_13_method_17_code 101 = .ok (.getfield 130, 3) := by decide +kernel
theorem d_M_read_104 : decode prog_13_method_17_code 104 = .ok (.bipush 40, 2) := by decide +kernel
theorem d_M_read_106 : decode prog_13_method_17_code 106 = .ok (.if_icmp .ne 24, 3) := by decide +kernel
theorem d_M_read_109 : decode prog_13_method_17_code 109 = .ok (.aload_n 0, 1) := by decide +kernel
theorem d_M_read_110 : decode prog_13_method_17_code 110 = .ok (.iconst 0, 1) := by decide +kernel
theorem d_M_read_111 : decode prog_13_method_17_code 111 = .ok (.invokevirtual 165, 3) := by decide +kernel
theorem d_M_read_114 : decode prog_13_method_17_code 114 = .ok (.ifCond .ne 8, 3) := by decide +kernel
theorem d_M_read_117 : decode prog_13_method_17_code 117 = .ok (.aload_n 0, 1) := by decide +kernel
theorem d_M_read_118 : decode prog_13_method_17_code 118 = .ok (.getfield 123, 3) := by decide +kernel
theorem d_M_read_121 : decode prog_13_method_17_code 121 = .ok (.ireturn, 1) := by decide +kernel
theorem d_M_read_122 : decode prog_13_method_17_code 122 = .ok (.iconst 0, 1) := by decide +kernel
theorem d_M_read_123 : decode prog_13_method_17_code 123 = .ok (.istore_n 3, 1) := by decide +kernel
theorem d_M_read_124 : decode prog_13_method_17_code 124 = .ok (.iconst 1, 1) := by decide +kernel
theorem d_M_read_125 : decode prog_13_method_17_code 125 = .ok (.istore 4, 2) := by decide +kernel
theorem d_M_read_127 : decode prog_13_method_17_code 127 = .ok (.goto 211, 3) := by decide +kernel
theorem d_M_read_130 : decode prog_13_method_17_code 130 = .ok (.aload_n 0, 1) := by decide +kernel
theorem d_M_read_131 : decode prog_13_method_17_code 131 = .ok (.getfield 155, 3) := by decide +kernel
theorem d_M_read_134 : decode prog_13_method_17_code 134 = .ok (.ifCond .ne 33, 3) := by decide +kernel
theorem d_M_read_137 : decode prog_13_method_17_code 137 = .ok (.aload_n 0, 1) := by decide +kernel
theorem d_M_read_138 : decode prog_13_method_17_code 138 = .ok (.iload_n 2, 1) := by decide +kernel
theorem d_M_read_139 : decode prog_13_method_17_code 139 = .ok (.iload_n 1, 1) := by decide +kernel
theorem d_M_read_140 : decode prog_13_method_17_code 140 = .ok (.invokevirtual 182, 3) := by decide +kernel
theorem d_M_read_143 : decode prog_13_method_17_code 143 = .ok (.istore_n 2, 1) := by decide +kernel
theorem d_M_read_144 : decode prog_13_method_17_code 144 = .ok (.aload_n 0, 1) := by decide +kernel
theorem d_M_read_145 : decode prog_13_method_17_code 145 = .ok (.getfield 130, 3) := by decide +kernel
theorem d_M_read_148 : decode prog_13_method_17_code 148 = .ok (.iconst 1, 1) := by decide +kernel
theorem d_M_read_149 : decode prog_13_method_17_code 149 = .ok (.if_icmp .ne 7, 3) := by decide +kernel
theorem d_M_read_152 : decode prog_13_method_17_code 152 = .ok (.iconst 1, 1) := by decide +kernel
theorem d_M_read_153 : decode prog_13_method_17_code 153 = .ok (.goto 4, 3) := by decide +kernel
theorem d_M_read_156 : decode prog_13_method_17_code 156 = .ok (.iconst 0, 1) := by decide +kernel
theorem d_M_read_157 : decode prog_13_method_17_code 157 = .ok (.istore_n 3, 1) := by decide +kernel
theorem d_M_read_158 : decode prog_13_method_17_code 158 = .ok (.iload_n 2, 1) := by decide +kernel
theorem d_M_read_159 : decode prog_13_method_17_code 159 = .ok (.ifCond .ge 179, 3) := by decide +kernel
theorem d_M_read_162 : decode prog_13_method_17_code 162 = .ok (.aload_n 0, 1) := by decide +kernel
theorem d_M_read_163 : decode prog_13_method_17_code 163 = .ok (.getfield 123, 3) := by decide +kernel
theorem d_M_read_166 : decode prog_13_method_17_code 166 = .ok (.ireturn, 1) := by decide +kernel
theorem d_M_read_167 : decode prog_13_method_17_code 167 = .ok (.iload 4, 2) := by decide +kernel
theorem d_M_read_169 : decode prog_13_method_17_code 169 = .ok (.ifCond .eq 80, 3) := by decide +kernel
theorem d_M_read_172 : decode prog_13_method_17_code 172 = .ok (.aload_n 0, 1) := by decide +kernel
theorem d_M_read_173 : decode prog_13_method_17_code 173 = .ok (.getfield 130, 3) := by decide +kernel
theorem d_M_read_176 : decode prog_13_method_17_code 176 = .ok (.bipush 93, 2) := by decide +kernel
theorem d_M_read_178 : decode prog_13_method_17_code 178 = .ok (.if_icmp .ne 71, 3) := by decide +kernel
theorem d_M_read_181 : decode prog_13_method_17_code 181 = .ok (.aload_n 0, 1) := by decide +kernel
theorem d_M_read_182 : decode prog_13_method_17_code 182 = .ok (.getfield 158, 3) := by decide +kernel
theorem d_M_read_185 : decode prog_13_method_17_code 185 = .ok (.ifCond .eq 64, 3) := by decide +kernel
theorem d_M_read_188 : decode prog_13_method_17_code 188 = .ok (.aload_n 0, 1) := by decide +kernel
theorem d_M_read_189 : decode prog_13_method_17_code 189 = .ok (.getfield 38, 3) := by decide +kernel
theorem d_M_read_192 : decode prog_13_method_17_code 192 = .ok (.aload_n 0, 1) := by decide +kernel
theorem d_M_read_193 : decode prog_13_method_17_code 193 = .ok (.getfield 155, 3) := by decide +kernel
theorem d_M_read_196 : decode prog_13_method_17_code 196 = .ok (.iconst 1, 1) := by decide +kernel
theorem d_M_read_197 : decode prog_13_method_17_code 197 = .ok (.isub, 1) := by decide +kernel
theorem d_M_read_198 : decode prog_13_method_17_code 198 = .ok (.iaload, 1) := by decide +kernel
theorem d_M_read_199 : decode prog_13_method_17_code 199 = .ok (.iconst 1, 1) := by decide +kernel
theorem d_M_read_200 : decode prog_13_method_17_code 200 = .ok (.if_icmp .ne 49, 3) := by decide +kernel
theorem d_M_read_203 : decode prog_13_method_17_code 203 = .ok (.aload_n 0, 1) := by decide +kernel
theorem d_M_read_204 : decode prog_13_method_17_code 204 = .ok (.getfield 44, 3) := by decide +kernel
theorem d_M_read_207 : decode prog_13_method_17_code 207 = .ok (.aload_n 0, 1) := by decide +kernel
theorem d_M_read_208 : decode prog_13_method_17_code 208 = .ok (.getfield 155, 3) := by decide +kernel
theorem d_M_read_211 : decode prog_13_method_17_code 211 = .ok (.iconst 1, 1) := by decide +kernel
theorem d_M_read_212 : decode prog_13_method_17_code 212 = .ok (.isub, 1) := by decide +kernel
theorem d_M_read_213 : decode prog_13_method_17_code 213 = .ok (.iaload, 1) := by decide +kernel
theorem d_M_read_214 : decode prog_13_method_17_code 214 = .ok (.iconst 1, 1) := by decide +kernel
theorem d_M_read_215 : decode prog_13_method_17_code 215 = .ok (.if_icmp .ne 34, 3) := by decide +kernel
theorem d_M_read_218 : decode prog_13_method_17_code 218 = .ok (.aload_n 0, 1) := by decide +kernel
theorem d_M_read_219 : decode prog_13_method_17_code 219 = .ok (.ldc2_w 168, 3) := by decide +kernel
theorem d_M_read_222 : decode prog_13_method_17_code 222 = .ok (.iconst 0, 1) := by decide +kernel
theorem d_M_read_223 : decode prog_13_method_17_code 223 = .ok (.invokevirtual 145, 3) := by decide +kernel
theorem d_M_read_226 : decode prog_13_method_17_code 226 = .ok (.aload_n 0, 1) := by decide +kernel
theorem d_M_read_227 : decode prog_13_method_17_code 227 = .ok (.aload_n 0, 1) := by decide +kernel
theorem d_M_read_228 : decode prog_13_method_17_code 228 = .ok (.getfield 155, 3) := by decide +kernel
theorem d_M_read_231 : decode prog_13_method_17_code 231 = .ok (.iconst 1, 1) := by decide +kernel
theorem d_M_read_232 : decode prog_13_method_17_code 232 = .ok (.isub, 1) := by decide +kernel
theorem d_M_read_233 : decode prog_13_method_17_code 233 = .ok (.putfield 155, 3) := by decide +kernel
theorem d_M_read_236 : decode prog_13_method_17_code 236 = .ok (.aload_n 0, 1) := by decide +kernel
theorem d_M_read_237 : decode prog_13_method_17_code 237 = .ok (.iconst 0, 1) := by decide +kernel
theorem d_M_read_238 : decode prog_13_method_17_code 238 = .ok (.putfield 158, 3) := by decide +kernel
theorem d_M_read_241 : decode prog_13_method_17_code 241 = .ok (.iconst 0, 1) := by decide +kernel
theorem d_M_read_242 : decode prog_13_method_17_code 242 = .ok (.istore_n 3, 1) := by decide +kernel
theorem d_M_read_243 : decode prog_13_method_17_code 243 = .ok (.iconst 0, 1) := by decide +kernel
theorem d_M_read_244 : decode prog_13_method_17_code 244 = .ok (.istore 4, 2) := by decide +kernel
theorem d_M_read_246 : decode prog_13_method_17_code 246 = .ok (.goto 92, 3) := by decide +kernel
theorem d_M_read_249 : decode prog_13_method_17_code 249 = .ok (.iload 4, 2) := by decide +kernel
theorem d_M_read_251 : decode prog_13_method_17_code 251 = .ok (.ifCond .eq 48, 3) := by decide +kernel
theorem d_M_read_254 : decode prog_13_method_17_code 254 = .ok (.aload_n 0, 1) := by decide +kernel
theorem d_M_read_255 : decode prog_13_method_17_code 255 = .ok (.invokevirtual 186, 3) := by decide +kernel
theorem d_M_read_258 : decode prog_13_method_17_code 258 = .ok (.ifCond .ne 8, 3) := by decide +kernel
theorem d_M_read_261 : decode prog_13_method_17_code 261 = .ok (.aload_n 0, 1) := by decide +kernel
theorem d_M_read_262 : decode prog_13_method_17_code 262 = .ok (.getfield 123, 3) := by decide +kernel
theorem d_M_read_265 : decode prog_13_method_17_code 265 = .ok (.ireturn, 1) := by decide +kernel
theorem d_M_read_266 : decode prog_13_method_17_code 266 = .ok (.aload_n 0, 1) := by decide +kernel
theorem d_M_read_267 : decode prog_13_method_17_code 267 = .ok (.getfield 130, 3) := by decide +kernel
theorem d_M_read_270 : decode prog_13_method_17_code 270 = .ok (.iconst 1, 1) := by decide +kernel
theorem d_M_read_271 : decode prog_13_method_17_code 271 = .ok (.if_icmp .ne 7, 3) := by decide +kernel
theorem d_M_read_274 : decode prog_13_method_17_code 274 = .ok (.iconst 1, 1) := by decide +kernel
theorem d_M_read_275 : decode prog_13_method_17_code 275 = .ok (.goto 4, 3) := by decide +kernel
theorem d_M_read_278 : decode prog_13_method_17_code 278 = .ok (.iconst 0, 1) := by decide +kernel
theorem d_M_read_279 : decode prog_13_method_17_code 279 = .ok (.istore_n 3, 1) := by decide +kernel
theorem d_M_read_280 : decode prog_13_method_17_code 280 = .ok (.aload_n 0, 1) := by decide +kernel
theorem d_M_read_281 : decode prog_13_method_17_code 281 = .ok (.getfield 130, 3) := by decide +kernel
theorem d_M_read_284 : decode prog_13_method_17_code 284 = .ok (.bipush 91, 2) := by decide +kernel
theorem d_M_read_286 : decode prog_13_method_17_code 286 = .ok (.if_icmp .ne 7, 3) := by decide +kernel
theorem d_M_read_289 : decode prog_13_method_17_code 289 = .ok (.iconst 1, 1) := by decide +kernel
theorem d_M_read_290 : decode prog_13_method_17_code 290 = .ok (.goto 4, 3) := by decide +kernel
theorem d_M_read_293 : decode prog_13_method_17_code 293 = .ok (.iconst 0, 1) := by decide +kernel
theorem d_M_read_294 : decode prog_13_method_17_code 294 = .ok (.istore 4, 2) := by decide +kernel
theorem d_M_read_296 : decode prog_13_method_17_code 296 = .ok (.goto 42, 3) := by decide +kernel
theorem d_M_read_299 : decode prog_13_method_17_code 299 = .ok (.aload_n 0, 1) := by decide +kernel
theorem d_M_read_300 : decode prog_13_method_17_code 300 = .ok (.invokevirtual 190, 3) := by decide +kernel
theorem d_M_read_303 : decode prog_13_method_17_code 303 = .ok (.ifCond .ne 8, 3) := by decide +kernel
theorem d_M_read_306 : decode prog_13_method_17_code 306 = .ok (.aload_n 0, 1) := by decide +kernel
theorem d_M_read_307 : decode prog_13_method_17_code 307 = .ok (.getfield 123, 3) := by decide +kernel
theorem d_M_read_310 : decode prog_13_method_17_code 310 = .ok (.ireturn, 1) := by decide +kernel
theorem d_M_read_311 : decode prog_13_method_17_code 311 = .ok (.iconst 0, 1) := by decide +kernel
theorem d_M_read_312 : decode prog_13_method_17_code 312 = .ok (.istore_n 3, 1) := by decide +kernel
theorem d_M_read_313 : decode prog_13_method_17_code 313 = .ok (.aload_n 0, 1) := by decide +kernel
theorem d_M_read_314 : decode prog_13_method_17_code 314 = .ok (.getfield 130, 3) := by decide +kernel
theorem d_M_read_317 : decode prog_13_method_17_code 317 = .ok (.bipush 44, 2) := by decide +kernel
theorem d_M_read_319 : decode prog_13_method_17_code 319 = .ok (.if_icmp .eq 12, 3) := by decide +kernel
theorem d_M_read_322 : decode prog_13_method_17_code 322 = .ok (.aload_n 0, 1) := by decide +kernel
theorem d_M_read_323 : decode prog_13_method_17_code 323 = .ok (.getfield 130, 3) := by decide +kernel
theorem d_M_read_326 : decode prog_13_method_17_code 326 = .ok (.bipush 124, 2) := by decide +kernel
theorem d_M_read_328 : decode prog_13_method_17_code 328 = .ok (.if_icmp .ne 7, 3) := by decide +kernel
theorem d_M_read_331 : decode prog_13_method_17_code 331 = .ok (.iconst 1, 1) := by decide +kernel
theorem d_M_read_332 : decode prog_13_method_17_code 332 = .ok (.goto 4, 3) := by decide +kernel
theorem d_M_read_335 : decode prog_13_method_17_code 335 = .ok (.iconst 0, 1) := by decide +kernel
theorem d_M_read_336 : decode prog_13_method_17_code 336 = .ok (.istore 4, 2) := by decide +kernel
theorem d_M_read_338 : decode prog_13_method_17_code 338 = .ok (.iinc 5 1, 3) := by decide +kernel
theorem d_M_read_341 : decode prog_13_method_17_code 341 = .ok (.goto (-289), 3) := by decide +kernel
theorem d_M_read_344 : decode prog_13_method_17_code 344 = .ok (.aload_n 0, 1) := by decide +kernel
theorem d_M_read_345 : decode prog_13_method_17_code 345 = .ok (.getfield 116, 3) := by decide +kernel
theorem d_M_read_348 : decode prog_13_method_17_code 348 = .ok (.ireturn, 1) := by decide +kernel
theorem d_M_noSearch_0 : decode prog_13_method_22_code 0 = .ok (.aload_n 0, 1) := by decide +kernel
theorem d_M_noSearch_1 : decode prog_13_method_22_code 1 = .ok (.iconst 0, 1) := by decide +kernel
theorem d_M_noSearch_2 : decode prog_13_method_22_code 2 = .ok (.putfield 199, 3) := by decide +kernel
theorem d_M_noSearch_5 : decode prog_13_method_22_code 5 = .ok (.aload_n 0, 1) := by decide +kernel
theorem d_M_noSearch_6 : decode prog_13_method_22_code 6 = .ok (.iconst 0, 1) := by decide +kernel
theorem d_M_noSearch_7 : decode prog_13_method_22_code 7 = .ok (.putfield 202, 3) := by decide +kernel
theorem d_M_noSearch_10 : decode prog_13_method_22_code 10 = .ok (.aload_n 0, 1) := by decide +kernel
theorem d_M_noSearch_11 : decode prog_13_method_22_code 11 = .ok (.iconst 0, 1) := by decide +kernel
theorem d_M_noSearch_12 : decode prog_13_method_22_code 12 = .ok (.putfield 205, 3) := by decide +kernel
theorem d_M_noSearch_15 : decode prog_13_method_22_code 15 = .ok (.aload_n 0, 1) := by decide +kernel
theorem d_M_noSearch_16 : decode prog_13_method_22_code 16 = .ok (.iconst 0, 1) := by decide +kernel
theorem d_M_noSearch_17 : decode prog_13_method_22_code 17 = .ok (.putfield 208, 3) := by decide +kernel
theorem d_M_noSearch_20 : decode prog_13_method_22_code 20 = .ok (.aload_n 0, 1) := by decide +kernel
theorem d_M_noSearch_21 : decode prog_13_method_22_code 21 = .ok (.iconst 0, 1) := by decide +kernel
theorem d_M_noSearch_22 : decode prog_13_method_22_code 22 = .ok (.putfield 211, 3) := by decide +kernel
theorem d_M_noSearch_25 : decode prog_13_method_22_code 25 = .ok (.return_, 1) := by decide +kernel
theorem d_M_endOf_0 : decode prog_13_method_18_code 0 = .ok (.iload_n 1, 1) := by decide +kernel
theorem d_M_endOf_1 : decode prog_13_method_18_code 1 = .ok (.iconst 1, 1) := by decide +kernel
theorem d_M_endOf_2 : decode prog_13_method_18_code 2 = .ok (.iadd, 1) := by decide +kernel
theorem d_M_endOf_3 : decode prog_13_method_18_code 3 = .ok (.aload_n 0, 1) := by decide +kernel
theorem d_M_endOf_4 : decode prog_13_method_18_code 4 = .ok (.getfield 149, 3) := by decide +kernel
theorem d_M_endOf_7 : decode prog_13_method_18_code 7 = .ok (.if_icmp .ge 14, 3) := by decide +kernel
theorem d_M_endOf_10 : decode prog_13_method_18_code 10 = .ok (.aload_n 0, 1) := by decide +kernel
theorem d_M_endOf_11 : decode prog_13_method_18_code 11 = .ok (.getfield 20, 3) := by decide +kernel
theorem d_M_endOf_14 : decode prog_13_method_18_code 14 = .ok (.iload_n 1, 1) := by decide +kernel
theorem d_M_endOf_15 : decode prog_13_method_18_code 15 = .ok (.iconst 1, 1) := by decide +kernel
theorem d_M_endOf_16 : decode prog_13_method_18_code 16 = .ok (.iadd, 1) := by decide +kernel
theorem d_M_endOf_17 : decode prog_13_method_18_code 17 = .ok (.iaload, 1) := by decide +kernel
theorem d_M_endOf_18 : decode prog_13_method_18_code 18 = .ok (.goto 7, 3) := by decide +kernel
theorem d_M_endOf_21 : decode prog_13_method_18_code 21 = .ok (.aload_n 0, 1) := by decide +kernel
theorem d_M_endOf_22 : decode prog_13_method_18_code 22 = .ok (.getfield 137, 3) := by decide +kernel
theorem d_M_endOf_25 : decode prog_13_method_18_code 25 = .ok (.ireturn, 1) := by decide +kernel
theorem d_M_tooMuch_0 : decode prog_13_method_19_code 0 = .ok (.aload_n 0, 1) := by decide +kernel
theorem d_M_tooMuch_1 : decode prog_13_method_19_code 1 = .ok (.iload_n 1, 1) := by decide +kernel
theorem d_M_tooMuch_2 : decode prog_13_method_19_code 2 = .ok (.invokevirtual 193, 3) := by decide +kernel
theorem d_M_tooMuch_5 : decode prog_13_method_19_code 5 = .ok (.aload_n 0, 1) := by decide +kernel
theorem d_M_tooMuch_6 : decode prog_13_method_19_code 6 = .ok (.getfield 20, 3) := by decide +kernel
theorem d_M_tooMuch_9 : decode prog_13_method_19_code 9 = .ok (.iload_n 1, 1) := by decide +kernel
theorem d_M_tooMuch_10 : decode prog_13_method_19_code 10 = .ok (.iaload, 1) := by decide +kernel
theorem d_M_tooMuch_11 : decode prog_13_method_19_code 11 = .ok (.isub, 1) := by decide +kernel
theorem d_M_tooMuch_12 : decode prog_13_method_19_code 12 = .ok (.bipush 40, 2) := by decide +kernel
theorem d_M_tooMuch_14 : decode prog_13_method_19_code 14 = .ok (.if_icmp .gt 25, 3) := by decide +kernel
theorem d_M_tooMuch_17 : decode prog_13_method_19_code 17 = .ok (.aload_n 0, 1) := by decide +kernel
theorem d_M_tooMuch_18 : decode prog_13_method_19_code 18 = .ok (.getfield 26, 3) := by decide +kernel
theorem d_M_tooMuch_21 : decode prog_13_method_19_code 21 = .ok (.iload_n 1, 1) := by decide +kernel
theorem d_M_tooMuch_22 : decode prog_13_method_19_code 22 = .ok (.iaload, 1) := by decide +kernel
theorem d_M_tooMuch_23 : decode prog_13_method_19_code 23 = .ok (.bipush 8, 2) := by decide +kernel
theorem d_M_tooMuch_25 : decode prog_13_method_19_code 25 = .ok (.if_icmp .gt 14, 3) := by decide +kernel
theorem d_M_tooMuch_28 : decode prog_13_method_19_code 28 = .ok (.aload_n 0, 1) := by decide +kernel
theorem d_M_tooMuch_29 : decode prog_13_method_19_code 29 = .ok (.getfield 23, 3) := by decide +kernel
theorem d_M_tooMuch_32 : decode prog_13_method_19_code 32 = .ok (.iload_n 1, 1) := by decide +kernel
theorem d_M_tooMuch_33 : decode prog_13_method_19_code 33 = .ok (.iaload, 1) := by decide +kernel
theorem d_M_tooMuch_34 : decode prog_13_method_19_code 34 = .ok (.bipush 8, 2) := by decide +kernel
theorem d_M_tooMuch_36 : decode prog_13_method_19_code 36 = .ok (.if_icmp .le 7, 3) := by decide +kernel
theorem d_M_tooMuch_39 : decode prog_13_method_19_code 39 = .ok (.iconst 1, 1) := by decide +kernel
theorem d_M_tooMuch_40 : decode prog_13_method_19_code 40 = .ok (.goto 4, 3) := by decide +kernel
theorem d_M_tooMuch_43 : decode prog_13_method_19_code 43 = .ok (.iconst 0, 1) := by decide +kernel
theorem d_M_tooMuch_44 : decode prog_13_method_19_code 44 = .ok (.istore_n 2, 1) := by decide +kernel
theorem d_M_tooMuch_45 : decode prog_13_method_19_code 45 = .ok (.aload_n 0, 1) := by decide +kernel
theorem d_M_tooMuch_46 : decode prog_13_method_19_code 46 = .ok (.getfield 20, 3) := by decide +kernel
theorem d_M_tooMuch_49 : decode prog_13_method_19_code 49 = .ok (.iload_n 1, 1) := by decide +kernel
theorem d_M_tooMuch_50 : decode prog_13_method_19_code 50 = .ok (.iaload, 1) := by decide +kernel
theorem d_M_tooMuch_51 : decode prog_13_method_19_code 51 = .ok (.istore_n 3, 1) := by decide +kernel
theorem d_M_tooMuch_52 : decode prog_13_method_19_code 52 = .ok (.iload_n 3, 1) := by decide +kernel
theorem d_M_tooMuch_53 : decode prog_13_method_19_code 53 = .ok (.aload_n 0, 1) := by decide +kernel
theorem d_M_tooMuch_54 : decode prog_13_method_19_code 54 = .ok (.iload_n 1, 1) := by decide +kernel
theorem d_M_tooMuch_55 : decode prog_13_method_19_code 55 = .ok (.invokevirtual 193, 3) := by decide +kernel
theorem d_M_tooMuch_58 : decode prog_13_method_19_code 58 = .ok (.if_icmp .ge 29, 3) := by decide +kernel
theorem d_M_tooMuch_61 : decode prog_13_method_19_code 61 = .ok (.iload_n 2, 1) := by decide +kernel
theorem d_M_tooMuch_62 : decode prog_13_method_19_code 62 = .ok (.ifCond .ne 13, 3) := by decide +kernel
theorem d_M_tooMuch_65 : decode prog_13_method_19_code 65 = .ok (.aload_n 0, 1) := by decide +kernel
theorem d_M_tooMuch_66 : decode prog_13_method_19_code 66 = .ok (.getfield 17, 3) := by decide +kernel
theorem d_M_tooMuch_69 : decode prog_13_method_19_code 69 = .ok (.iload_n 3, 1) := by decide +kernel
theorem d_M_tooMuch_70 : decode prog_13_method_19_code 70 = .ok (.iaload, 1) := by decide +kernel
theorem d_M_tooMuch_71 : decode prog_13_method_19_code 71 = .ok (.iconst 4, 1) := by decide +kernel
theorem d_M_tooMuch_72 : decode prog_13_method_19_code 72 = .ok (.if_icmp .le 7, 3) := by decide +kernel
theorem d_M_tooMuch_75 : decode prog_13_method_19_code 75 = .ok (.iconst 1, 1) := by decide +kernel
theorem d_M_tooMuch_76 : decode prog_13_method_19_code 76 = .ok (.goto 4, 3) := by decide +kernel
theorem d_M_tooMuch_79 : decode prog_13_method_19_code 79 = .ok (.iconst 0, 1) := by decide +kernel
theorem d_M_tooMuch_80 : decode prog_13_method_19_code 80 = .ok (.istore_n 2, 1) := by decide +kernel
theorem d_M_tooMuch_81 : decode prog_13_method_19_code 81 = .ok (.iinc 3 1, 3) := by decide +kernel
theorem d_M_tooMuch_84 : decode prog_13_method_19_code 84 = .ok (.goto (-32), 3) := by decide +kernel
theorem d_M_tooMuch_87 : decode prog_13_method_19_code 87 = .ok (.iload_n 2, 1) := by decide +kernel
theorem d_M_tooMuch_88 : decode prog_13_method_19_code 88 = .ok (.ireturn, 1) := by decide +kernel
theorem d_M_addNames_0 : decode prog_13_method_20_code 0 = .ok (.aload_n 0, 1) := by decide +kernel
theorem d_M_addNames_1 : decode prog_13_method_20_code 1 = .ok (.getfield 196, 3) := by decide +kernel
theorem d_M_addNames_4 : decode prog_13_method_20_code 4 = .ok (.istore_n 1, 1) := by decide +kernel
theorem d_M_addNames_5 : decode prog_13_method_20_code 5 = .ok (.iconst 0, 1) := by decide +kernel
theorem d_M_addNames_6 : decode prog_13_method_20_code 6 = .ok (.istore_n 2, 1) := by decide +kernel
theorem d_M_addNames_7 : decode prog_13_method_20_code 7 = .ok (.iload_n 2, 1) := by decide +kernel
theorem d_M_addNames_8 : decode prog_13_method_20_code 8 = .ok (.aload_n 0, 1) := by decide +kernel
theorem d_M_addNames_9 : decode prog_13_method_20_code 9 = .ok (.getfield 137, 3) := by decide +kernel
theorem d_M_addNames_12 : decode prog_13_method_20_code 12 = .ok (.if_icmp .ge 110, 3) := by decide +kernel
theorem d_M_addNames_15 : decode prog_13_method_20_code 15 = .ok (.aload_n 0, 1) := by decide +kernel
theorem d_M_addNames_16 : decode prog_13_method_20_code 16 = .ok (.getfield 17, 3) := by decide +kernel
theorem d_M_addNames_19 : decode prog_13_method_20_code 19 = .ok (.iload_n 2, 1) := by decide +kernel
theorem d_M_addNames_20 : decode prog_13_method_20_code 20 = .ok (.iaload, 1) := by decide +kernel
theorem d_M_addNames_21 : decode prog_13_method_20_code 21 = .ok (.ifCond .lt 27, 3) := by decide +kernel
theorem d_M_addNames_24 : decode prog_13_method_20_code 24 = .ok (.aload_n 0, 1) := by decide +kernel
theorem d_M_addNames_25 : decode prog_13_method_20_code 25 = .ok (.getfield 13, 3) := by decide +kernel
theorem d_M_addNames_28 : decode prog_13_method_20_code 28 = .ok (.iload_n 2, 1) := by decide +kernel
theorem d_M_addNames_29 : decode prog_13_method_20_code 29 = .ok (.laload, 1) := by decide +kernel
theorem d_M_addNames_30 : decode prog_13_method_20_code 30 = .ok (.lconst 1, 1) := by decide +kernel
theorem d_M_addNames_31 : decode prog_13_method_20_code 31 = .ok (.lcmp, 1) := by decide +kernel
theorem d_M_addNames_32 : decode prog_13_method_20_code 32 = .ok (.ifCond .eq 16, 3) := by decide +kernel
theorem d_M_addNames_35 : decode prog_13_method_20_code 35 = .ok (.aload_n 0, 1) := by decide +kernel
theorem d_M_addNames_36 : decode prog_13_method_20_code 36 = .ok (.getfield 13, 3) := by decide +kernel
theorem d_M_addNames_39 : decode prog_13_method_20_code 39 = .ok (.iload_n 2, 1) := by decide +kernel
theorem d_M_addNames_40 : decode prog_13_method_20_code 40 = .ok (.laload, 1) := by decide +kernel
theorem d_M_addNames_41 : decode prog_13_method_20_code 41 = .ok (.ldc2_w 168, 3) := by decide +kernel
theorem d_M_addNames_44 : decode prog_13_method_20_code 44 = .ok (.lcmp, 1) := by decide +kernel
theorem d_M_addNames_45 : decode prog_13_method_20_code 45 = .ok (.ifCond .ne 7, 3) := by decide +kernel
theorem d_M_addNames_48 : decode prog_13_method_20_code 48 = .ok (.iconst 1, 1) := by decide +kernel
theorem d_M_addNames_49 : decode prog_13_method_20_code 49 = .ok (.goto 4, 3) := by decide +kernel
theorem d_M_addNames_52 : decode prog_13_method_20_code 52 = .ok (.iconst 0, 1) := by decide +kernel
theorem d_M_addNames_53 : decode prog_13_method_20_code 53 = .ok (.istore_n 3, 1) := by decide +kernel
theorem d_M_addNames_54 : decode prog_13_method_20_code 54 = .ok (.iconst 0, 1) := by decide +kernel
theorem d_M_addNames_55 : decode prog_13_method_20_code 55 = .ok (.istore 4, 2) := by decide +kernel
theorem d_M_addNames_57 : decode prog_13_method_20_code 57 = .ok (.iload 4, 2) := by decide +kernel
theorem d_M_addNames_59 : decode prog_13_method_20_code 59 = .ok (.iload_n 1, 1) := by decide +kernel
theorem d_M_addNames_60 : decode prog_13_method_20_code 60 = .ok (.if_icmp .ge 36, 3) := by decide +kernel
theorem d_M_addNames_63 : decode prog_13_method_20_code 63 = .ok (.iload_n 3, 1) := by decide +kernel
theorem d_M_addNames_64 : decode prog_13_method_20_code 64 = .ok (.ifCond .ne 32, 3) := by decide +kernel
theorem d_M_addNames_67 : decode prog_13_method_20_code 67 = .ok (.aload_n 0, 1) := by decide +kernel
theorem d_M_addNames_68 : decode prog_13_method_20_code 68 = .ok (.getfield 62, 3) := by decide +kernel
theorem d_M_addNames_71 : decode prog_13_method_20_code 71 = .ok (.iload 4, 2) := by decide +kernel
theorem d_M_addNames_73 : decode prog_13_method_20_code 73 = .ok (.laload, 1) := by decide +kernel
theorem d_M_addNames_74 : decode prog_13_method_20_code 74 = .ok (.aload_n 0, 1) := by decide +kernel
theorem d_M_addNames_75 : decode prog_13_method_20_code 75 = .ok (.getfield 13, 3) := by decide +kernel
theorem d_M_addNames_78 : decode prog_13_method_20_code 78 = .ok (.iload_n 2, 1) := by decide +kernel
theorem d_M_addNames_79 : decode prog_13_method_20_code 79 = .ok (.laload, 1) := by decide +kernel
theorem d_M_addNames_80 : decode prog_13_method_20_code 80 = .ok (.lcmp, 1) := by decide +kernel
theorem d_M_addNames_81 : decode prog_13_method_20_code 81 = .ok (.ifCond .ne 7, 3) := by decide +kernel
theorem d_M_addNames_84 : decode prog_13_method_20_code 84 = .ok (.iconst 1, 1) := by decide +kernel
theorem d_M_addNames_85 : decode prog_13_method_20_code 85 = .ok (.goto 4, 3) := by decide +kernel
theorem d_M_addNames_88 : decode prog_13_method_20_code 88 = .ok (.iconst 0, 1) := by decide +kernel
theorem d_M_addNames_89 : decode prog_13_method_20_code 89 = .ok (.istore_n 3, 1) := by decide +kernel
theorem d_M_addNames_90 : decode prog_13_method_20_code 90 = .ok (.iinc 4 1, 3) := by decide +kernel
theorem d_M_addNames_93 : decode prog_13_method_20_code 93 = .ok (.goto (-36), 3) := by decide +kernel
theorem d_M_addNames_96 : decode prog_13_method_20_code 96 = .ok (.iload_n 3, 1) := by decide +kernel
theorem d_M_addNames_97 : decode prog_13_method_20_code 97 = .ok (.ifCond .ne 19, 3) := by decide +kernel
theorem d_M_addNames_100 : decode prog_13_method_20_code 100 = .ok (.aload_n 0, 1) := by decide +kernel
theorem d_M_addNames_101 : decode prog_13_method_20_code 101 = .ok (.getfield 62, 3) := by decide +kernel
theorem d_M_addNames_104 : decode prog_13_method_20_code 104 = .ok (.iload_n 1, 1) := by decide +kernel
theorem d_M_addNames_105 : decode prog_13_method_20_code 105 = .ok (.aload_n 0, 1) := by decide +kernel
theorem d_M_addNames_106 : decode prog_13_method_20_code 106 = .ok (.getfield 13, 3) := by decide +kernel
theorem d_M_addNames_109 : decode prog_13_method_20_code 109 = .ok (.iload_n 2, 1) := by decide +kernel
theorem d_M_addNames_110 : decode prog_13_method_20_code 110 = .ok (.laload, 1) := by decide +kernel
theorem d_M_addNames_111 : decode prog_13_method_20_code 111 = .ok (.lastore, 1) := by decide +kernel
theorem d_M_addNames_112 : decode prog_13_method_20_code 112 = .ok (.iload_n 1, 1) := by decide +kernel
theorem d_M_addNames_113 : decode prog_13_method_20_code 113 = .ok (.iconst 1, 1) := by decide +kernel
theorem d_M_addNames_114 : decode prog_13_method_20_code 114 = .ok (.iadd, 1) := by decide +kernel
theorem d_M_addNames_115 : decode prog_13_method_20_code 115 = .ok (.istore_n 1, 1) := by decide +kernel
theorem d_M_addNames_116 : decode prog_13_method_20_code 116 = .ok (.iinc 2 1, 3) := by decide +kernel
theorem d_M_addNames_119 : decode prog_13_method_20_code 119 = .ok (.goto (-112), 3) := by decide +kernel
theorem d_M_addNames_122 : decode prog_13_method_20_code 122 = .ok (.iload_n 1, 1) := by decide +kernel
theorem d_M_addNames_123 : decode prog_13_method_20_code 123 = .ok (.ireturn, 1) := by decide +kernel
theorem d_M_keep_0 : decode prog_13_method_21_code 0 = .ok (.aload_n 0, 1) := by decide +kernel
theorem d_M_keep_1 : decode prog_13_method_21_code 1 = .ok (.getfield 53, 3) := by decide +kernel
theorem d_M_keep_4 : decode prog_13_method_21_code 4 = .ok (.iload_n 3, 1) := by decide +kernel
theorem d_M_keep_5 : decode prog_13_method_21_code 5 = .ok (.aload_n 0, 1) := by decide +kernel
theorem d_M_keep_6 : decode prog_13_method_21_code 6 = .ok (.iload_n 1, 1) := by decide +kernel
theorem d_M_keep_7 : decode prog_13_method_21_code 7 = .ok (.invokevirtual 193, 3) := by decide +kernel
theorem d_M_keep_10 : decode prog_13_method_21_code 10 = .ok (.aload_n 0, 1) := by decide +kernel
theorem d_M_keep_11 : decode prog_13_method_21_code 11 = .ok (.getfield 20, 3) := by decide +kernel
theorem d_M_keep_14 : decode prog_13_method_21_code 14 = .ok (.iload_n 1, 1) := by decide +kernel
theorem d_M_keep_15 : decode prog_13_method_21_code 15 = .ok (.iaload, 1) := by decide +kernel
theorem d_M_keep_16 : decode prog_13_method_21_code 16 = .ok (.isub, 1) := by decide +kernel
theorem d_M_keep_17 : decode prog_13_method_21_code 17 = .ok (.iastore, 1) := by decide +kernel
theorem d_M_keep_18 : decode prog_13_method_21_code 18 = .ok (.iconst 0, 1) := by decide +kernel
theorem d_M_keep_19 : decode prog_13_method_21_code 19 = .ok (.istore 4, 2) := by decide +kernel
theorem d_M_keep_21 : decode prog_13_method_21_code 21 = .ok (.iload 4, 2) := by decide +kernel
theorem d_M_keep_23 : decode prog_13_method_21_code 23 = .ok (.aload_n 0, 1) := by decide +kernel
theorem d_M_keep_24 : decode prog_13_method_21_code 24 = .ok (.getfield 53, 3) := by decide +kernel
theorem d_M_keep_27 : decode prog_13_method_21_code 27 = .ok (.iload_n 3, 1) := by decide +kernel
theorem d_M_keep_28 : decode prog_13_method_21_code 28 = .ok (.iaload, 1) := by decide +kernel
theorem d_M_keep_29 : decode prog_13_method_21_code 29 = .ok (.if_icmp .ge 61, 3) := by decide +kernel
theorem d_M_keep_32 : decode prog_13_method_21_code 32 = .ok (.aload_n 0, 1) := by decide +kernel
theorem d_M_keep_33 : decode prog_13_method_21_code 33 = .ok (.getfield 47, 3) := by decide +kernel
theorem d_M_keep_36 : decode prog_13_method_21_code 36 = .ok (.bipush 40, 2) := by decide +kernel
theorem d_M_keep_38 : decode prog_13_method_21_code 38 = .ok (.iload_n 3, 1) := by decide +kernel
theorem d_M_keep_39 : decode prog_13_method_21_code 39 = .ok (.imul, 1) := by decide +kernel
theorem d_M_keep_40 : decode prog_13_method_21_code 40 = .ok (.iload 4, 2) := by decide +kernel
theorem d_M_keep_42 : decode prog_13_method_21_code 42 = .ok (.iadd, 1) := by decide +kernel
theorem d_M_keep_43 : decode prog_13_method_21_code 43 = .ok (.aload_n 0, 1) := by decide +kernel
theorem d_M_keep_44 : decode prog_13_method_21_code 44 = .ok (.getfield 13, 3) := by decide +kernel
theorem d_M_keep_47 : decode prog_13_method_21_code 47 = .ok (.aload_n 0, 1) := by decide +kernel
theorem d_M_keep_48 : decode prog_13_method_21_code 48 = .ok (.getfield 20, 3) := by decide +kernel
theorem d_M_keep_51 : decode prog_13_method_21_code 51 = .ok (.iload_n 1, 1) := by decide +kernel
theorem d_M_keep_52 : decode prog_13_method_21_code 52 = .ok (.iaload, 1) := by decide +kernel
theorem d_M_keep_53 : decode prog_13_method_21_code 53 = .ok (.iload 4, 2) := by decide +kernel
theorem d_M_keep_55 : decode prog_13_method_21_code 55 = .ok (.iadd, 1) := by decide +kernel
theorem d_M_keep_56 : decode prog_13_method_21_code 56 = .ok (.laload, 1) := by decide +kernel
theorem d_M_keep_57 : decode prog_13_method_21_code 57 = .ok (.lastore, 1) := by decide +kernel
theorem d_M_keep_58 : decode prog_13_method_21_code 58 = .ok (.aload_n 0, 1) := by decide +kernel
theorem d_M_keep_59 : decode prog_13_method_21_code 59 = .ok (.getfield 50, 3) := by decide +kernel
theorem d_M_keep_62 : decode prog_13_method_21_code 62 = .ok (.bipush 40, 2) := by decide +kernel
theorem d_M_keep_64 : decode prog_13_method_21_code 64 = .ok (.iload_n 3, 1) := by decide +kernel
theorem d_M_keep_65 : decode prog_13_method_21_code 65 = .ok (.imul, 1) := by decide +kernel
theorem d_M_keep_66 : decode prog_13_method_21_code 66 = .ok (.iload 4, 2) := by decide +kernel
theorem d_M_keep_68 : decode prog_13_method_21_code 68 = .ok (.iadd, 1) := by decide +kernel
theorem d_M_keep_69 : decode prog_13_method_21_code 69 = .ok (.aload_n 0, 1) := by decide +kernel
theorem d_M_keep_70 : decode prog_13_method_21_code 70 = .ok (.getfield 17, 3) := by decide +kernel
theorem d_M_keep_73 : decode prog_13_method_21_code 73 = .ok (.aload_n 0, 1) := by decide +kernel
theorem d_M_keep_74 : decode prog_13_method_21_code 74 = .ok (.getfield 20, 3) := by decide +kernel
theorem d_M_keep_77 : decode prog_13_method_21_code 77 = .ok (.iload_n 1, 1) := by decide +kernel
theorem d_M_keep_78 : decode prog_13_method_21_code 78 = .ok (.iaload, 1) := by decide +kernel
theorem d_M_keep_79 : decode prog_13_method_21_code 79 = .ok (.iload 4, 2) := by decide +kernel
theorem d_M_keep_81 : decode prog_13_method_21_code 81 = .ok (.iadd, 1) := by decide +kernel
theorem d_M_keep_82 : decode prog_13_method_21_code 82 = .ok (.iaload, 1) := by decide +kernel
theorem d_M_keep_83 : decode prog_13_method_21_code 83 = .ok (.iastore, 1) := by decide +kernel
theorem d_M_keep_84 : decode prog_13_method_21_code 84 = .ok (.iinc 4 1, 3) := by decide +kernel
theorem d_M_keep_87 : decode prog_13_method_21_code 87 = .ok (.goto (-66), 3) := by decide +kernel
theorem d_M_keep_90 : decode prog_13_method_21_code 90 = .ok (.aload_n 0, 1) := by decide +kernel
theorem d_M_keep_91 : decode prog_13_method_21_code 91 = .ok (.getfield 56, 3) := by decide +kernel
theorem d_M_keep_94 : decode prog_13_method_21_code 94 = .ok (.iload_n 3, 1) := by decide +kernel
theorem d_M_keep_95 : decode prog_13_method_21_code 95 = .ok (.aload_n 0, 1) := by decide +kernel
theorem d_M_keep_96 : decode prog_13_method_21_code 96 = .ok (.getfield 23, 3) := by decide +kernel
theorem d_M_keep_99 : decode prog_13_method_21_code 99 = .ok (.iload_n 1, 1) := by decide +kernel
theorem d_M_keep_100 : decode prog_13_method_21_code 100 = .ok (.iaload, 1) := by decide +kernel
theorem d_M_keep_101 : decode prog_13_method_21_code 101 = .ok (.iastore, 1) := by decide +kernel
theorem d_M_keep_102 : decode prog_13_method_21_code 102 = .ok (.iconst 0, 1) := by decide +kernel
theorem d_M_keep_103 : decode prog_13_method_21_code 103 = .ok (.istore 4, 2) := by decide +kernel
theorem d_M_keep_105 : decode prog_13_method_21_code 105 = .ok (.iload 4, 2) := by decide +kernel
theorem d_M_keep_107 : decode prog_13_method_21_code 107 = .ok (.aload_n 0, 1) := by decide +kernel
theorem d_M_keep_108 : decode prog_13_method_21_code 108 = .ok (.getfield 56, 3) := by decide +kernel
theorem d_M_keep_111 : decode prog_13_method_21_code 111 = .ok (.iload_n 3, 1) := by decide +kernel
theorem d_M_keep_112 : decode prog_13_method_21_code 112 = .ok (.iaload, 1) := by decide +kernel
theorem d_M_keep_113 : decode prog_13_method_21_code 113 = .ok (.if_icmp .ge 42, 3) := by decide +kernel
theorem d_M_keep_116 : decode prog_13_method_21_code 116 = .ok (.aload_n 0, 1) := by decide +kernel
theorem d_M_keep_117 : decode prog_13_method_21_code 117 = .ok (.getfield 59, 3) := by decide +kernel
theorem d_M_keep_120 : decode prog_13_method_21_code 120 = .ok (.bipush 8, 2) := by decide +kernel
theorem d_M_keep_122 : decode prog_13_method_21_code 122 = .ok (.iload_n 3, 1) := by decide +kernel
theorem d_M_keep_123 : decode prog_13_method_21_code 123 = .ok (.imul, 1) := by decide +kernel
theorem d_M_keep_124 : decode prog_13_method_21_code 124 = .ok (.iload 4, 2) := by decide +kernel
theorem d_M_keep_126 : decode prog_13_method_21_code 126 = .ok (.iadd, 1) := by decide +kernel
theorem d_M_keep_127 : decode prog_13_method_21_code 127 = .ok (.bipush 40, 2) := by decide +kernel
theorem d_M_keep_129 : decode prog_13_method_21_code 129 = .ok (.iload_n 3, 1) := by decide +kernel
theorem d_M_keep_130 : decode prog_13_method_21_code 130 = .ok (.imul, 1) := by decide +kernel
theorem d_M_keep_131 : decode prog_13_method_21_code 131 = .ok (.aload_n 0, 1) := by decide +kernel
theorem d_M_keep_132 : decode prog_13_method_21_code 132 = .ok (.getfield 29, 3) := by decide +kernel
theorem d_M_keep_135 : decode prog_13_method_21_code 135 = .ok (.iload_n 2, 1) := by decide +kernel
theorem d_M_keep_136 : decode prog_13_method_21_code 136 = .ok (.iload 4, 2) := by decide +kernel
theorem d_M_keep_138 : decode prog_13_method_21_code 138 = .ok (.iadd, 1) := by decide +kernel
theorem d_M_keep_139 : decode prog_13_method_21_code 139 = .ok (.iaload, 1) := by decide +kernel
theorem d_M_keep_140 : decode prog_13_method_21_code 140 = .ok (.iadd, 1) := by decide +kernel
theorem d_M_keep_141 : decode prog_13_method_21_code 141 = .ok (.aload_n 0, 1) := by decide +kernel
theorem d_M_keep_142 : decode prog_13_method_21_code 142 = .ok (.getfield 20, 3) := by decide +kernel
theorem d_M_keep_145 : decode prog_13_method_21_code 145 = .ok (.iload_n 1, 1) := by decide +kernel
theorem d_M_keep_146 : decode prog_13_method_21_code 146 = .ok (.iaload, 1) := by decide +kernel
theorem d_M_keep_147 : decode prog_13_method_21_code 147 = .ok (.isub, 1) := by decide +kernel
theorem d_M_keep_148 : decode prog_13_method_21_code 148 = .ok (.iastore, 1) := by decide +kernel
theorem d_M_keep_149 : decode prog_13_method_21_code 149 = .ok (.iinc 4 1, 3) := by decide +kernel
theorem d_M_keep_152 : decode prog_13_method_21_code 152 = .ok (.goto (-47), 3) := by decide +kernel
theorem d_M_keep_155 : decode prog_13_method_21_code 155 = .ok (.return_, 1) := by decide +kernel
theorem d_M_consult_0 : decode prog_13_method_23_code 0 = .ok (.aload_n 0, 1) := by decide +kernel
theorem d_M_consult_1 : decode prog_13_method_23_code 1 = .ok (.iconst 0, 1) := by decide +kernel
theorem d_M_consult_2 : decode prog_13_method_23_code 2 = .ok (.invokevirtual 214, 3) := by decide +kernel
theorem d_M_consult_5 : decode prog_13_method_23_code 5 = .ok (.istore_n 1, 1) := by decide +kernel
theorem d_M_consult_6 : decode prog_13_method_23_code 6 = .ok (.aload_n 0, 1) := by decide +kernel
theorem d_M_consult_7 : decode prog_13_method_23_code 7 = .ok (.iconst 0, 1) := by decide +kernel
theorem d_M_consult_8 : decode prog_13_method_23_code 8 = .ok (.putfield 116, 3) := by decide +kernel
theorem d_M_consult_11 : decode prog_13_method_23_code 11 = .ok (.aload_n 0, 1) := by decide +kernel
theorem d_M_consult_12 : decode prog_13_method_23_code 12 = .ok (.invokevirtual 218, 3) := by decide +kernel
theorem d_M_consult_15 : decode prog_13_method_23_code 15 = .ok (.iload_n 1, 1) := by decide +kernel
theorem d_M_consult_16 : decode prog_13_method_23_code 16 = .ok (.ifCond .lt 7, 3) := by decide +kernel
theorem d_M_consult_19 : decode prog_13_method_23_code 19 = .ok (.iconst (-1), 1) := by decide +kernel
theorem d_M_consult_20 : decode prog_13_method_23_code 20 = .ok (.iload_n 1, 1) := by decide +kernel
theorem d_M_consult_21 : decode prog_13_method_23_code 21 = .ok (.isub, 1) := by decide +kernel
theorem d_M_consult_22 : decode prog_13_method_23_code 22 = .ok (.ireturn, 1) := by decide +kernel
theorem d_M_consult_23 : decode prog_13_method_23_code 23 = .ok (.aload_n 0, 1) := by decide +kernel
theorem d_M_consult_24 : decode prog_13_method_23_code 24 = .ok (.getfield 221, 3) := by decide +kernel
theorem d_M_consult_27 : decode prog_13_method_23_code 27 = .ok (.aload_n 0, 1) := by decide +kernel
theorem d_M_consult_28 : decode prog_13_method_23_code 28 = .ok (.getfield 149, 3) := by decide +kernel
theorem d_M_consult_31 : decode prog_13_method_23_code 31 = .ok (.iadd, 1) := by decide +kernel
theorem d_M_consult_32 : decode prog_13_method_23_code 32 = .ok (.bipush 24, 2) := by decide +kernel
theorem d_M_consult_34 : decode prog_13_method_23_code 34 = .ok (.if_icmp .le 7, 3) := by decide +kernel
theorem d_M_consult_37 : decode prog_13_method_23_code 37 = .ok (.iconst 1, 1) := by decide +kernel
theorem d_M_consult_38 : decode prog_13_method_23_code 38 = .ok (.goto 4, 3) := by decide +kernel
theorem d_M_consult_41 : decode prog_13_method_23_code 41 = .ok (.iconst 0, 1) := by decide +kernel
theorem d_M_consult_42 : decode prog_13_method_23_code 42 = .ok (.istore_n 2, 1) := by decide +kernel
theorem d_M_consult_43 : decode prog_13_method_23_code 43 = .ok (.iconst 0, 1) := by decide +kernel
theorem d_M_consult_44 : decode prog_13_method_23_code 44 = .ok (.istore_n 3, 1) := by decide +kernel
theorem d_M_consult_45 : decode prog_13_method_23_code 45 = .ok (.iload_n 3, 1) := by decide +kernel
theorem d_M_consult_46 : decode prog_13_method_23_code 46 = .ok (.aload_n 0, 1) := by decide +kernel
theorem d_M_consult_47 : decode prog_13_method_23_code 47 = .ok (.getfield 149, 3) := by decide +kernel
theorem d_M_consult_50 : decode prog_13_method_23_code 50 = .ok (.if_icmp .ge 27, 3) := by decide +kernel
theorem d_M_consult_53 : decode prog_13_method_23_code 53 = .ok (.iload_n 2, 1) := by decide +kernel
theorem d_M_consult_54 : decode prog_13_method_23_code 54 = .ok (.ifCond .ne 11, 3) := by decide +kernel
theorem d_M_consult_57 : decode prog_13_method_23_code 57 = .ok (.aload_n 0, 1) := by decide +kernel
theorem d_M_consult_58 : decode prog_13_method_23_code 58 = .ok (.iload_n 3, 1) := by decide +kernel
theorem d_M_consult_59 : decode prog_13_method_23_code 59 = .ok (.invokevirtual 224, 3) := by decide +kernel
theorem d_M_consult_62 : decode prog_13_method_23_code 62 = .ok (.ifCond .eq 7, 3) := by decide +kernel
theorem d_M_consult_65 : decode prog_13_method_23_code 65 = .ok (.iconst 1, 1) := by decide +kernel
theorem d_M_consult_66 : decode prog_13_method_23_code 66 = .ok (.goto 4, 3) := by decide +kernel
theorem d_M_consult_69 : decode prog_13_method_23_code 69 = .ok (.iconst 0, 1) := by decide +kernel
theorem d_M_consult_70 : decode prog_13_method_23_code 70 = .ok (.istore_n 2, 1) := by decide +kernel
theorem d_M_consult_71 : decode prog_13_method_23_code 71 = .ok (.iinc 3 1, 3) := by decide +kernel
theorem d_M_consult_74 : decode prog_13_method_23_code 74 = .ok (.goto (-29), 3) := by decide +kernel
theorem d_M_consult_77 : decode prog_13_method_23_code 77 = .ok (.aload_n 0, 1) := by decide +kernel
theorem d_M_consult_78 : decode prog_13_method_23_code 78 = .ok (.invokevirtual 227, 3) := by decide +kernel
theorem d_M_consult_81 : decode prog_13_method_23_code 81 = .ok (.istore_n 3, 1) := by decide +kernel
theorem d_M_consult_82 : decode prog_13_method_23_code 82 = .ok (.iload_n 2, 1) := by decide +kernel
theorem d_M_consult_83 : decode prog_13_method_23_code 83 = .ok (.ifCond .ne 9, 3) := by decide +kernel
theorem d_M_consult_86 : decode prog_13_method_23_code 86 = .ok (.iload_n 3, 1) := by decide +kernel
theorem d_M_consult_87 : decode prog_13_method_23_code 87 = .ok (.bipush 32, 2) := by decide +kernel
theorem d_M_consult_89 : decode prog_13_method_23_code 89 = .ok (.if_icmp .le 7, 3) := by decide +kernel
theorem d_M_consult_92 : decode prog_13_method_23_code 92 = .ok (.sipush (-1000), 3) := by decide +kernel
theorem d_M_consult_95 : decode prog_13_method_23_code 95 = .ok (.ireturn, 1) := by decide +kernel
theorem d_M_consult_96 : decode prog_13_method_23_code 96 = .ok (.aload_n 0, 1) := by decide +kernel
theorem d_M_consult_97 : decode prog_13_method_23_code 97 = .ok (.iload_n 3, 1) := by decide +kernel
theorem d_M_consult_98 : decode prog_13_method_23_code 98 = .ok (.putfield 196, 3) := by decide +kernel
theorem d_M_consult_101 : decode prog_13_method_23_code 101 = .ok (.iconst 0, 1) := by decide +kernel
theorem d_M_consult_102 : decode prog_13_method_23_code 102 = .ok (.istore 4, 2) := by decide +kernel
theorem d_M_consult_104 : decode prog_13_method_23_code 104 = .ok (.iconst 0, 1) := by decide +kernel
theorem d_M_consult_105 : decode prog_13_method_23_code 105 = .ok (.istore 5, 2) := by decide +kernel
theorem d_M_consult_107 : decode prog_13_method_23_code 107 = .ok (.iload 5, 2) := by decide +kernel
theorem d_M_consult_109 : decode prog_13_method_23_code 109 = .ok (.aload_n 0, 1) := by decide +kernel
theorem d_M_consult_110 : decode prog_13_method_23_code 110 = .ok (.getfield 149, 3) := by decide +kernel
theorem d_M_consult_113 : decode prog_13_method_23_code 113 = .ok (.if_icmp .ge 43, 3) := by decide +kernel
theorem d_M_consult_116 : decode prog_13_method_23_code 116 = .ok (.aload_n 0, 1) := by decide +kernel
theorem d_M_consult_117 : decode prog_13_method_23_code 117 = .ok (.iload 5, 2) := by decide +kernel
theorem d_M_consult_119 : decode prog_13_method_23_code 119 = .ok (.iload 4, 2) := by decide +kernel
theorem d_M_consult_121 : decode prog_13_method_23_code 121 = .ok (.aload_n 0, 1) := by decide +kernel
theorem d_M_consult_122 : decode prog_13_method_23_code 122 = .ok (.getfield 221, 3) := by decide +kernel
theorem d_M_consult_125 : decode prog_13_method_23_code 125 = .ok (.invokevirtual 231, 3) := by decide +kernel
theorem d_M_consult_128 : decode prog_13_method_23_code 128 = .ok (.iload 4, 2) := by decide +kernel
theorem d_M_consult_130 : decode prog_13_method_23_code 130 = .ok (.aload_n 0, 1) := by decide +kernel
theorem d_M_consult_131 : decode prog_13_method_23_code 131 = .ok (.getfield 23, 3) := by decide +kernel
theorem d_M_consult_134 : decode prog_13_method_23_code 134 = .ok (.iload 5, 2) := by decide +kernel
theorem d_M_consult_136 : decode prog_13_method_23_code 136 = .ok (.iaload, 1) := by decide +kernel
theorem d_M_consult_137 : decode prog_13_method_23_code 137 = .ok (.iadd, 1) := by decide +kernel
theorem d_M_consult_138 : decode prog_13_method_23_code 138 = .ok (.istore 4, 2) := by decide +kernel
theorem d_M_consult_140 : decode prog_13_method_23_code 140 = .ok (.aload_n 0, 1) := by decide +kernel
theorem d_M_consult_141 : decode prog_13_method_23_code 141 = .ok (.aload_n 0, 1) := by decide +kernel
theorem d_M_consult_142 : decode prog_13_method_23_code 142 = .ok (.getfield 221, 3) := by decide +kernel
theorem d_M_consult_145 : decode prog_13_method_23_code 145 = .ok (.iconst 1, 1) := by decide +kernel
theorem d_M_consult_146 : decode prog_13_method_23_code 146 = .ok (.iadd, 1) := by decide +kernel
theorem d_M_consult_147 : decode prog_13_method_23_code 147 = .ok (.putfield 221, 3) := by decide +kernel
theorem d_M_consult_150 : decode prog_13_method_23_code 150 = .ok (.iinc 5 1, 3) := by decide +kernel
theorem d_M_consult_153 : decode prog_13_method_23_code 153 = .ok (.goto (-46), 3) := by decide +kernel
theorem d_M_consult_156 : decode prog_13_method_23_code 156 = .ok (.aload_n 0, 1) := by decide +kernel
theorem d_M_consult_157 : decode prog_13_method_23_code 157 = .ok (.getfield 149, 3) := by decide +kernel
theorem d_M_consult_160 : decode prog_13_method_23_code 160 = .ok (.ireturn, 1) := by decide +kernel
theorem d_M_clearFrame_0 : decode prog_13_method_32_code 0 = .ok (.iconst 0, 1) := by decide +kernel
theorem d_M_clearFrame_1 : decode prog_13_method_32_code 1 = .ok (.istore_n 2, 1) := by decide +kernel
theorem d_M_clearFrame_2 : decode prog_13_method_32_code 2 = .ok (.iload_n 2, 1) := by decide +kernel
theorem d_M_clearFrame_3 : decode prog_13_method_32_code 3 = .ok (.bipush 8, 2) := by decide +kernel
theorem d_M_clearFrame_5 : decode prog_13_method_32_code 5 = .ok (.if_icmp .ge 21, 3) := by decide +kernel
theorem d_M_clearFrame_8 : decode prog_13_method_32_code 8 = .ok (.aload_n 0, 1) := by decide +kernel
theorem d_M_clearFrame_9 : decode prog_13_method_32_code 9 = .ok (.getfield 89, 3) := by decide +kernel
theorem d_M_clearFrame_12 : decode prog_13_method_32_code 12 = .ok (.bipush 8, 2) := by decide +kernel
theorem d_M_clearFrame_14 : decode prog_13_method_32_code 14 = .ok (.iload_n 1, 1) := by decide +kernel
theorem d_M_clearFrame_15 : decode prog_13_method_32_code 15 = .ok (.imul, 1) := by decide +kernel
theorem d_M_clearFrame_16 : decode prog_13_method_32_code 16 = .ok (.iload_n 2, 1) := by decide +kernel
theorem d_M_clearFrame_17 : decode prog_13_method_32_code 17 = .ok (.iadd, 1) := by decide +kernel
theorem d_M_clearFrame_18 : decode prog_13_method_32_code 18 = .ok (.iconst (-1), 1) := by decide +kernel
theorem d_M_clearFrame_19 : decode prog_13_method_32_code 19 = .ok (.iastore, 1) := by decide +kernel
theorem d_M_clearFrame_20 : decode prog_13_method_32_code 20 = .ok (.iinc 2 1, 3) := by decide +kernel
theorem d_M_clearFrame_23 : decode prog_13_method_32_code 23 = .ok (.goto (-21), 3) := by decide +kernel
theorem d_M_clearFrame_26 : decode prog_13_method_32_code 26 = .ok (.return_, 1) := by decide +kernel
theorem d_M_prepend_0 : decode prog_13_method_33_code 0 = .ok (.aload_n 0, 1) := by decide +kernel
theorem d_M_prepend_1 : decode prog_13_method_33_code 1 = .ok (.getfield 56, 3) := by decide +kernel
theorem d_M_prepend_4 : decode prog_13_method_33_code 4 = .ok (.iload_n 1, 1) := by decide +kernel
theorem d_M_prepend_5 : decode prog_13_method_33_code 5 = .ok (.iaload, 1) := by decide +kernel
theorem d_M_prepend_6 : decode prog_13_method_33_code 6 = .ok (.iconst 1, 1) := by decide +kernel
theorem d_M_prepend_7 : decode prog_13_method_33_code 7 = .ok (.isub, 1) := by decide +kernel
theorem d_M_prepend_8 : decode prog_13_method_33_code 8 = .ok (.istore 4, 2) := by decide +kernel
theorem d_M_prepend_10 : decode prog_13_method_33_code 10 = .ok (.iload 4, 2) := by decide +kernel
theorem d_M_prepend_12 : decode prog_13_method_33_code 12 = .ok (.ifCond .lt 60, 3) := by decide +kernel
theorem d_M_prepend_15 : decode prog_13_method_33_code 15 = .ok (.aload_n 0, 1) := by decide +kernel
theorem d_M_prepend_16 : decode prog_13_method_33_code 16 = .ok (.getfield 80, 3) := by decide +kernel
theorem d_M_prepend_19 : decode prog_13_method_33_code 19 = .ok (.aload_n 0, 1) := by decide +kernel
theorem d_M_prepend_20 : decode prog_13_method_33_code 20 = .ok (.getfield 211, 3) := by decide +kernel
theorem d_M_prepend_23 : decode prog_13_method_33_code 23 = .ok (.aload_n 0, 1) := by decide +kernel
theorem d_M_prepend_24 : decode prog_13_method_33_code 24 = .ok (.getfield 59, 3) := by decide +kernel
theorem d_M_prepend_27 : decode prog_13_method_33_code 27 = .ok (.bipush 8, 2) := by decide +kernel
theorem d_M_prepend_29 : decode prog_13_method_33_code 29 = .ok (.iload_n 1, 1) := by decide +kernel
theorem d_M_prepend_30 : decode prog_13_method_33_code 30 = .ok (.imul, 1) := by decide +kernel
theorem d_M_prepend_31 : decode prog_13_method_33_code 31 = .ok (.iload 4, 2) := by decide +kernel
theorem d_M_prepend_33 : decode prog_13_method_33_code 33 = .ok (.iadd, 1) := by decide +kernel
theorem d_M_prepend_34 : decode prog_13_method_33_code 34 = .ok (.iaload, 1) := by decide +kernel
theorem d_M_prepend_35 : decode prog_13_method_33_code 35 = .ok (.iastore, 1) := by decide +kernel
theorem d_M_prepend_36 : decode prog_13_method_33_code 36 = .ok (.aload_n 0, 1) := by decide +kernel
theorem d_M_prepend_37 : decode prog_13_method_33_code 37 = .ok (.getfield 83, 3) := by decide +kernel
theorem d_M_prepend_40 : decode prog_13_method_33_code 40 = .ok (.aload_n 0, 1) := by decide +kernel
theorem d_M_prepend_41 : decode prog_13_method_33_code 41 = .ok (.getfield 211, 3) := by decide +kernel
theorem d_M_prepend_44 : decode prog_13_method_33_code 44 = .ok (.iload_n 2, 1) := by decide +kernel
theorem d_M_prepend_45 : decode prog_13_method_33_code 45 = .ok (.iastore, 1) := by decide +kernel
theorem d_M_prepend_46 : decode prog_13_method_33_code 46 = .ok (.aload_n 0, 1) := by decide +kernel
theorem d_M_prepend_47 : decode prog_13_method_33_code 47 = .ok (.getfield 86, 3) := by decide +kernel
theorem d_M_prepend_50 : decode prog_13_method_33_code 50 = .ok (.aload_n 0, 1) := by decide +kernel
theorem d_M_prepend_51 : decode prog_13_method_33_code 51 = .ok (.getfield 211, 3) := by decide +kernel
theorem d_M_prepend_54 : decode prog_13_method_33_code 54 = .ok (.iload_n 3, 1) := by decide +kernel
theorem d_M_prepend_55 : decode prog_13_method_33_code 55 = .ok (.iastore, 1) := by decide +kernel
theorem d_M_prepend_56 : decode prog_13_method_33_code 56 = .ok (.aload_n 0, 1) := by decide +kernel
theorem d_M_prepend_57 : decode prog_13_method_33_code 57 = .ok (.aload_n 0, 1) := by decide +kernel
theorem d_M_prepend_58 : decode prog_13_method_33_code 58 = .ok (.getfield 211, 3) := by decide +kernel
theorem d_M_prepend_61 : decode prog_13_method_33_code 61 = .ok (.iconst 1, 1) := by decide +kernel
theorem d_M_prepend_62 : decode prog_13_method_33_code 62 = .ok (.iadd, 1) := by decide +kernel
theorem d_M_prepend_63 : decode prog_13_method_33_code 63 = .ok (.putfield 211, 3) := by decide +kernel
theorem d_M_prepend_66 : decode prog_13_method_33_code 66 = .ok (.iinc 4 (-1), 3) := by decide +kernel
theorem d_M_prepend_69 : decode prog_13_method_33_code 69 = .ok (.goto (-59), 3) := by decide +kernel
theorem d_M_prepend_72 : decode prog_13_method_33_code 72 = .ok (.return_, 1) := by decide +kernel
theorem d_M_begin_0 : decode prog_13_method_34_code 0 = .ok (.aload_n 0, 1) := by decide +kernel
theorem d_M_begin_1 : decode prog_13_method_34_code 1 = .ok (.iconst 0, 1) := by decide +kernel
theorem d_M_begin_2 : decode prog_13_method_34_code 2 = .ok (.putfield 211, 3) := by decide +kernel
theorem d_M_begin_5 : decode prog_13_method_34_code 5 = .ok (.aload_n 0, 1) := by decide +kernel
theorem d_M_begin_6 : decode prog_13_method_34_code 6 = .ok (.iconst 0, 1) := by decide +kernel
theorem d_M_begin_7 : decode prog_13_method_34_code 7 = .ok (.putfield 205, 3) := by decide +kernel
theorem d_M_begin_10 : decode prog_13_method_34_code 10 = .ok (.aload_n 0, 1) := by decide +kernel
theorem d_M_begin_11 : decode prog_13_method_34_code 11 = .ok (.iconst 0, 1) := by decide +kernel
theorem d_M_begin_12 : decode prog_13_method_34_code 12 = .ok (.invokevirtual 265, 3) := by decide +kernel
theorem d_M_begin_15 : decode prog_13_method_34_code 15 = .ok (.aload_n 0, 1) := by decide +kernel
theorem d_M_begin_16 : decode prog_13_method_34_code 16 = .ok (.bipush 24, 2) := by decide +kernel
theorem d_M_begin_18 : decode prog_13_method_34_code 18 = .ok (.iconst 0, 1) := by decide +kernel
theorem d_M_begin_19 : decode prog_13_method_34_code 19 = .ok (.iconst 0, 1) := by decide +kernel
theorem d_M_begin_20 : decode prog_13_method_34_code 20 = .ok (.invokevirtual 269, 3) := by decide +kernel
theorem d_M_begin_23 : decode prog_13_method_34_code 23 = .ok (.return_, 1) := by decide +kernel
theorem d_M_ask_0 : decode prog_13_method_24_code 0 = .ok (.aload_n 0, 1) := by decide +kernel
theorem d_M_ask_1 : decode prog_13_method_24_code 1 = .ok (.iconst 1, 1) := by decide +kernel
theorem d_M_ask_2 : decode prog_13_method_24_code 2 = .ok (.invokevirtual 214, 3) := by decide +kernel
theorem d_M_ask_5 : decode prog_13_method_24_code 5 = .ok (.istore_n 1, 1) := by decide +kernel
theorem d_M_ask_6 : decode prog_13_method_24_code 6 = .ok (.aload_n 0, 1) := by decide +kernel
theorem d_M_ask_7 : decode prog_13_method_24_code 7 = .ok (.iconst 0, 1) := by decide +kernel
theorem d_M_ask_8 : decode prog_13_method_24_code 8 = .ok (.putfield 116, 3) := by decide +kernel
theorem d_M_ask_11 : decode prog_13_method_24_code 11 = .ok (.aload_n 0, 1) := by decide +kernel
theorem d_M_ask_12 : decode prog_13_method_24_code 12 = .ok (.invokevirtual 218, 3) := by decide +kernel
theorem d_M_ask_15 : decode prog_13_method_24_code 15 = .ok (.iload_n 1, 1) := by decide +kernel
theorem d_M_ask_16 : decode prog_13_method_24_code 16 = .ok (.ifCond .lt 7, 3) := by decide +kernel
theorem d_M_ask_19 : decode prog_13_method_24_code 19 = .ok (.iconst (-1), 1) := by decide +kernel
theorem d_M_ask_20 : decode prog_13_method_24_code 20 = .ok (.iload_n 1, 1) := by decide +kernel
theorem d_M_ask_21 : decode prog_13_method_24_code 21 = .ok (.isub, 1) := by decide +kernel
theorem d_M_ask_22 : decode prog_13_method_24_code 22 = .ok (.ireturn, 1) := by decide +kernel
theorem d_M_ask_23 : decode prog_13_method_24_code 23 = .ok (.aload_n 0, 1) := by decide +kernel
theorem d_M_ask_24 : decode prog_13_method_24_code 24 = .ok (.invokevirtual 227, 3) := by decide +kernel
theorem d_M_ask_27 : decode prog_13_method_24_code 27 = .ok (.istore_n 2, 1) := by decide +kernel
theorem d_M_ask_28 : decode prog_13_method_24_code 28 = .ok (.aload_n 0, 1) := by decide +kernel
theorem d_M_ask_29 : decode prog_13_method_24_code 29 = .ok (.iconst 0, 1) := by decide +kernel
theorem d_M_ask_30 : decode prog_13_method_24_code 30 = .ok (.invokevirtual 224, 3) := by decide +kernel
theorem d_M_ask_33 : decode prog_13_method_24_code 33 = .ok (.ifCond .ne 9, 3) := by decide +kernel
theorem d_M_ask_36 : decode prog_13_method_24_code 36 = .ok (.iload_n 2, 1) := by decide +kernel
theorem d_M_ask_37 : decode prog_13_method_24_code 37 = .ok (.bipush 32, 2) := by decide +kernel
theorem d_M_ask_39 : decode prog_13_method_24_code 39 = .ok (.if_icmp .le 7, 3) := by decide +kernel
theorem d_M_ask_42 : decode prog_13_method_24_code 42 = .ok (.sipush (-1000), 3) := by decide +kernel
theorem d_M_ask_45 : decode prog_13_method_24_code 45 = .ok (.ireturn, 1) := by decide +kernel
theorem d_M_ask_46 : decode prog_13_method_24_code 46 = .ok (.aload_n 0, 1) := by decide +kernel
theorem d_M_ask_47 : decode prog_13_method_24_code 47 = .ok (.iload_n 2, 1) := by decide +kernel
theorem d_M_ask_48 : decode prog_13_method_24_code 48 = .ok (.putfield 196, 3) := by decide +kernel
theorem d_M_ask_51 : decode prog_13_method_24_code 51 = .ok (.aload_n 0, 1) := by decide +kernel
theorem d_M_ask_52 : decode prog_13_method_24_code 52 = .ok (.iconst 0, 1) := by decide +kernel
theorem d_M_ask_53 : decode prog_13_method_24_code 53 = .ok (.iconst 0, 1) := by decide +kernel
theorem d_M_ask_54 : decode prog_13_method_24_code 54 = .ok (.bipush 24, 2) := by decide +kernel
theorem d_M_ask_56 : decode prog_13_method_24_code 56 = .ok (.invokevirtual 231, 3) := by decide +kernel
theorem d_M_ask_59 : decode prog_13_method_24_code 59 = .ok (.aload_n 0, 1) := by decide +kernel
theorem d_M_ask_60 : decode prog_13_method_24_code 60 = .ok (.iconst 0, 1) := by decide +kernel
theorem d_M_ask_61 : decode prog_13_method_24_code 61 = .ok (.putfield 235, 3) := by decide +kernel
theorem d_M_ask_64 : decode prog_13_method_24_code 64 = .ok (.iconst 0, 1) := by decide +kernel
theorem d_M_ask_65 : decode prog_13_method_24_code 65 = .ok (.istore_n 3, 1) := by decide +kernel
theorem d_M_ask_66 : decode prog_13_method_24_code 66 = .ok (.iload_n 3, 1) := by decide +kernel
theorem d_M_ask_67 : decode prog_13_method_24_code 67 = .ok (.aload_n 0, 1) := by decide +kernel
theorem d_M_ask_68 : decode prog_13_method_24_code 68 = .ok (.getfield 140, 3) := by decide +kernel
theorem d_M_ask_71 : decode prog_13_method_24_code 71 = .ok (.if_icmp .ge 51, 3) := by decide +kernel
theorem d_M_ask_74 : decode prog_13_method_24_code 74 = .ok (.aload_n 0, 1) := by decide +kernel
theorem d_M_ask_75 : decode prog_13_method_24_code 75 = .ok (.getfield 32, 3) := by decide +kernel
theorem d_M_ask_78 : decode prog_13_method_24_code 78 = .ok (.iload_n 3, 1) := by decide +kernel
theorem d_M_ask_79 : decode prog_13_method_24_code 79 = .ok (.laload, 1) := by decide +kernel
theorem d_M_ask_80 : decode prog_13_method_24_code 80 = .ok (.ldc2_w 143, 3) := by decide +kernel
theorem d_M_ask_83 : decode prog_13_method_24_code 83 = .ok (.lcmp, 1) := by decide +kernel
theorem d_M_ask_84 : decode prog_13_method_24_code 84 = .ok (.ifCond .eq 32, 3) := by decide +kernel
theorem d_M_ask_87 : decode prog_13_method_24_code 87 = .ok (.aload_n 0, 1) := by decide +kernel
theorem d_M_ask_88 : decode prog_13_method_24_code 88 = .ok (.getfield 65, 3) := by decide +kernel
theorem d_M_ask_91 : decode prog_13_method_24_code 91 = .ok (.aload_n 0, 1) := by decide +kernel
theorem d_M_ask_92 : decode prog_13_method_24_code 92 = .ok (.getfield 235, 3) := by decide +kernel
theorem d_M_ask_95 : decode prog_13_method_24_code 95 = .ok (.sipush 960, 3) := by decide +kernel
theorem d_M_ask_98 : decode prog_13_method_24_code 98 = .ok (.aload_n 0, 1) := by decide +kernel
theorem d_M_ask_99 : decode prog_13_method_24_code 99 = .ok (.getfield 35, 3) := by decide +kernel
theorem d_M_ask_102 : decode prog_13_method_24_code 102 = .ok (.iload_n 3, 1) := by decide +kernel
theorem d_M_ask_103 : decode prog_13_method_24_code 103 = .ok (.iaload, 1) := by decide +kernel
theorem d_M_ask_104 : decode prog_13_method_24_code 104 = .ok (.iadd, 1) := by decide +kernel
theorem d_M_ask_105 : decode prog_13_method_24_code 105 = .ok (.iastore, 1) := by decide +kernel
theorem d_M_ask_106 : decode prog_13_method_24_code 106 = .ok (.aload_n 0, 1) := by decide +kernel
theorem d_M_ask_107 : decode prog_13_method_24_code 107 = .ok (.aload_n 0, 1) := by decide +kernel
theorem d_M_ask_108 : decode prog_13_method_24_code 108 = .ok (.getfield 235, 3) := by decide +kernel
theorem d_M_ask_111 : decode prog_13_method_24_code 111 = .ok (.iconst 1, 1) := by decide +kernel
theorem d_M_ask_112 : decode prog_13_method_24_code 112 = .ok (.iadd, 1) := by decide +kernel
theorem d_M_ask_113 : decode prog_13_method_24_code 113 = .ok (.putfield 235, 3) := by decide +kernel
theorem d_M_ask_116 : decode prog_13_method_24_code 116 = .ok (.iinc 3 1, 3) := by decide +kernel
theorem d_M_ask_119 : decode prog_13_method_24_code 119 = .ok (.goto (-53), 3) := by decide +kernel
theorem d_M_ask_122 : decode prog_13_method_24_code 122 = .ok (.aload_n 0, 1) := by decide +kernel
theorem d_M_ask_123 : decode prog_13_method_24_code 123 = .ok (.iconst 1, 1) := by decide +kernel
theorem d_M_ask_124 : decode prog_13_method_24_code 124 = .ok (.putfield 199, 3) := by decide +kernel
theorem d_M_ask_127 : decode prog_13_method_24_code 127 = .ok (.aload_n 0, 1) := by decide +kernel
theorem d_M_ask_128 : decode prog_13_method_24_code 128 = .ok (.invokevirtual 238, 3) := by decide +kernel
theorem d_M_ask_131 : decode prog_13_method_24_code 131 = .ok (.aload_n 0, 1) := by decide +kernel
theorem d_M_ask_132 : decode prog_13_method_24_code 132 = .ok (.getfield 235, 3) := by decide +kernel
theorem d_M_ask_135 : decode prog_13_method_24_code 135 = .ok (.ireturn, 1) := by decide +kernel
theorem d_M_end_0 : decode prog_13_method_40_code 0 = .ok (.aload_n 0, 1) := by decide +kernel
theorem d_M_end_1 : decode prog_13_method_40_code 1 = .ok (.iconst 4, 1) := by decide +kernel
theorem d_M_end_2 : decode prog_13_method_40_code 2 = .ok (.putfield 199, 3) := by decide +kernel
theorem d_M_end_5 : decode prog_13_method_40_code 5 = .ok (.aload_n 0, 1) := by decide +kernel
theorem d_M_end_6 : decode prog_13_method_40_code 6 = .ok (.iload_n 1, 1) := by decide +kernel
theorem d_M_end_7 : decode prog_13_method_40_code 7 = .ok (.putfield 288, 3) := by decide +kernel
theorem d_M_end_10 : decode prog_13_method_40_code 10 = .ok (.return_, 1) := by decide +kernel
theorem d_M_isWordAlone_0 : decode prog_13_method_35_code 0 = .ok (.aload_n 0, 1) := by decide +kernel
theorem d_M_isWordAlone_1 : decode prog_13_method_35_code 1 = .ok (.getfield 50, 3) := by decide +kernel
theorem d_M_isWordAlone_4 : decode prog_13_method_35_code 4 = .ok (.iload_n 1, 1) := by decide +kernel
theorem d_M_isWordAlone_5 : decode prog_13_method_35_code 5 = .ok (.iaload, 1) := by decide +kernel
theorem d_M_isWordAlone_6 : decode prog_13_method_35_code 6 = .ok (.ifCond .ne 18, 3) := by decide +kernel
theorem d_M_isWordAlone_9 : decode prog_13_method_35_code 9 = .ok (.aload_n 0, 1) := by decide +kernel
theorem d_M_isWordAlone_10 : decode prog_13_method_35_code 10 = .ok (.getfield 47, 3) := by decide +kernel
theorem d_M_isWordAlone_13 : decode prog_13_method_35_code 13 = .ok (.iload_n 1, 1) := by decide +kernel
theorem d_M_isWordAlone_14 : decode prog_13_method_35_code 14 = .ok (.laload, 1) := by decide +kernel
theorem d_M_isWordAlone_15 : decode prog_13_method_35_code 15 = .ok (.lload_n 2, 1) := by decide +kernel
theorem d_M_isWordAlone_16 : decode prog_13_method_35_code 16 = .ok (.lcmp, 1) := by decide +kernel
theorem d_M_isWordAlone_17 : decode prog_13_method_35_code 17 = .ok (.ifCond .ne 7, 3) := by decide +kernel
theorem d_M_isWordAlone_20 : decode prog_13_method_35_code 20 = .ok (.iconst 1, 1) := by decide +kernel
theorem d_M_isWordAlone_21 : decode prog_13_method_35_code 21 = .ok (.goto 4, 3) := by decide +kernel
theorem d_M_isWordAlone_24 : decode prog_13_method_35_code 24 = .ok (.iconst 0, 1) := by decide +kernel
theorem d_M_isWordAlone_25 : decode prog_13_method_35_code 25 = .ok (.ireturn, 1) := by decide +kernel
theorem d_M_follow_0 : decode prog_13_method_26_code 0 = .ok (.aload_n 0, 1) := by decide +kernel
theorem d_M_follow_1 : decode prog_13_method_26_code 1 = .ok (.iload_n 1, 1) := by decide +kernel
theorem d_M_follow_2 : decode prog_13_method_26_code 2 = .ok (.putfield 241, 3) := by decide +kernel
theorem d_M_follow_5 : decode prog_13_method_26_code 5 = .ok (.aload_n 0, 1) := by decide +kernel
theorem d_M_follow_6 : decode prog_13_method_26_code 6 = .ok (.iload_n 2, 1) := by decide +kernel
theorem d_M_follow_7 : decode prog_13_method_26_code 7 = .ok (.putfield 244, 3) := by decide +kernel
theorem d_M_follow_10 : decode prog_13_method_26_code 10 = .ok (.iconst 0, 1) := by decide +kernel
theorem d_M_follow_11 : decode prog_13_method_26_code 11 = .ok (.istore_n 3, 1) := by decide +kernel
theorem d_M_follow_12 : decode prog_13_method_26_code 12 = .ok (.iload_n 3, 1) := by decide +kernel
theorem d_M_follow_13 : decode prog_13_method_26_code 13 = .ok (.sipush 500, 3) := by decide +kernel
theorem d_M_follow_16 : decode prog_13_method_26_code 16 = .ok (.if_icmp .ge 75, 3) := by decide +kernel
theorem d_M_follow_19 : decode prog_13_method_26_code 19 = .ok (.aload_n 0, 1) := by decide +kernel
theorem d_M_follow_20 : decode prog_13_method_26_code 20 = .ok (.getfield 50, 3) := by decide +kernel
theorem d_M_follow_23 : decode prog_13_method_26_code 23 = .ok (.aload_n 0, 1) := by decide +kernel
theorem d_M_follow_24 : decode prog_13_method_26_code 24 = .ok (.getfield 241, 3) := by decide +kernel
theorem d_M_follow_27 : decode prog_13_method_26_code 27 = .ok (.iaload, 1) := by decide +kernel
theorem d_M_follow_28 : decode prog_13_method_26_code 28 = .ok (.iconst (-1), 1) := by decide +kernel
theorem d_M_follow_29 : decode prog_13_method_26_code 29 = .ok (.if_icmp .ne 62, 3) := by decide +kernel
theorem d_M_follow_32 : decode prog_13_method_26_code 32 = .ok (.bipush 8, 2) := by decide +kernel
theorem d_M_follow_34 : decode prog_13_method_26_code 34 = .ok (.aload_n 0, 1) := by decide +kernel
theorem d_M_follow_35 : decode prog_13_method_26_code 35 = .ok (.getfield 244, 3) := by decide +kernel
theorem d_M_follow_38 : decode prog_13_method_26_code 38 = .ok (.imul, 1) := by decide +kernel
theorem d_M_follow_39 : decode prog_13_method_26_code 39 = .ok (.aload_n 0, 1) := by decide +kernel
theorem d_M_follow_40 : decode prog_13_method_26_code 40 = .ok (.getfield 47, 3) := by decide +kernel
theorem d_M_follow_43 : decode prog_13_method_26_code 43 = .ok (.aload_n 0, 1) := by decide +kernel
theorem d_M_follow_44 : decode prog_13_method_26_code 44 = .ok (.getfield 241, 3) := by decide +kernel
theorem d_M_follow_47 : decode prog_13_method_26_code 47 = .ok (.laload, 1) := by decide +kernel
theorem d_M_follow_48 : decode prog_13_method_26_code 48 = .ok (.l2i, 1) := by decide +kernel
theorem d_M_follow_49 : decode prog_13_method_26_code 49 = .ok (.iadd, 1) := by decide +kernel
theorem d_M_follow_50 : decode prog_13_method_26_code 50 = .ok (.istore 4, 2) := by decide +kernel
theorem d_M_follow_52 : decode prog_13_method_26_code 52 = .ok (.aload_n 0, 1) := by decide +kernel
theorem d_M_follow_53 : decode prog_13_method_26_code 53 = .ok (.getfield 89, 3) := by decide +kernel
theorem d_M_follow_56 : decode prog_13_method_26_code 56 = .ok (.iload 4, 2) := by decide +kernel
theorem d_M_follow_58 : decode prog_13_method_26_code 58 = .ok (.iaload, 1) := by decide +kernel
theorem d_M_follow_59 : decode prog_13_method_26_code 59 = .ok (.ifCond .ge 4, 3) := by decide +kernel
theorem d_M_follow_62 : decode prog_13_method_26_code 62 = .ok (.return_, 1) := by decide +kernel
theorem d_M_follow_63 : decode prog_13_method_26_code 63 = .ok (.aload_n 0, 1) := by decide +kernel
theorem d_M_follow_64 : decode prog_13_method_26_code 64 = .ok (.aload_n 0, 1) := by decide +kernel
theorem d_M_follow_65 : decode prog_13_method_26_code 65 = .ok (.getfield 89, 3) := by decide +kernel
theorem d_M_follow_68 : decode prog_13_method_26_code 68 = .ok (.iload 4, 2) := by decide +kernel
theorem d_M_follow_70 : decode prog_13_method_26_code 70 = .ok (.iaload, 1) := by decide +kernel
theorem d_M_follow_71 : decode prog_13_method_26_code 71 = .ok (.putfield 241, 3) := by decide +kernel
theorem d_M_follow_74 : decode prog_13_method_26_code 74 = .ok (.aload_n 0, 1) := by decide +kernel
theorem d_M_follow_75 : decode prog_13_method_26_code 75 = .ok (.aload_n 0, 1) := by decide +kernel
theorem d_M_follow_76 : decode prog_13_method_26_code 76 = .ok (.getfield 92, 3) := by decide +kernel
theorem d_M_follow_79 : decode prog_13_method_26_code 79 = .ok (.iload 4, 2) := by decide +kernel
theorem d_M_follow_81 : decode prog_13_method_26_code 81 = .ok (.iaload, 1) := by decide +kernel
theorem d_M_follow_82 : decode prog_13_method_26_code 82 = .ok (.putfield 244, 3) := by decide +kernel
theorem d_M_follow_85 : decode prog_13_method_26_code 85 = .ok (.iinc 3 1, 3) := by decide +kernel
theorem d_M_follow_88 : decode prog_13_method_26_code 88 = .ok (.goto (-76), 3) := by decide +kernel
theorem d_M_follow_91 : decode prog_13_method_26_code 91 = .ok (.return_, 1) := by decide +kernel
theorem d_M_candidate_0 : decode prog_13_method_38_code 0 = .ok (.iload_n 3, 1) := by decide +kernel
theorem d_M_candidate_1 : decode prog_13_method_38_code 1 = .ok (.iconst 1, 1) := by decide +kernel
theorem d_M_candidate_2 : decode prog_13_method_38_code 2 = .ok (.iadd, 1) := by decide +kernel
theorem d_M_candidate_3 : decode prog_13_method_38_code 3 = .ok (.istore 4, 2) := by decide +kernel
theorem d_M_candidate_5 : decode prog_13_method_38_code 5 = .ok (.iload 4, 2) := by decide +kernel
theorem d_M_candidate_7 : decode prog_13_method_38_code 7 = .ok (.aload_n 0, 1) := by decide +kernel
theorem d_M_candidate_8 : decode prog_13_method_38_code 8 = .ok (.getfield 221, 3) := by decide +kernel
theorem d_M_candidate_11 : decode prog_13_method_38_code 11 = .ok (.if_icmp .ge 162, 3) := by decide +kernel
theorem d_M_candidate_14 : decode prog_13_method_38_code 14 = .ok (.bipush 40, 2) := by decide +kernel
theorem d_M_candidate_16 : decode prog_13_method_38_code 16 = .ok (.iload 4, 2) := by decide +kernel
theorem d_M_candidate_18 : decode prog_13_method_38_code 18 = .ok (.imul, 1) := by decide +kernel
theorem d_M_candidate_19 : decode prog_13_method_38_code 19 = .ok (.istore 5, 2) := by decide +kernel
theorem d_M_candidate_21 : decode prog_13_method_38_code 21 = .ok (.aload_n 0, 1) := by decide +kernel
theorem d_M_candidate_22 : decode prog_13_method_38_code 22 = .ok (.getfield 47, 3) := by decide +kernel
theorem d_M_candidate_25 : decode prog_13_method_38_code 25 = .ok (.iload 5, 2) := by decide +kernel
theorem d_M_candidate_27 : decode prog_13_method_38_code 27 = .ok (.laload, 1) := by decide +kernel
theorem d_M_candidate_28 : decode prog_13_method_38_code 28 = .ok (.aload_n 0, 1) := by decide +kernel
theorem d_M_candidate_29 : decode prog_13_method_38_code 29 = .ok (.getfield 47, 3) := by decide +kernel
theorem d_M_candidate_32 : decode prog_13_method_38_code 32 = .ok (.iload_n 1, 1) := by decide +kernel
theorem d_M_candidate_33 : decode prog_13_method_38_code 33 = .ok (.laload, 1) := by decide +kernel
theorem d_M_candidate_34 : decode prog_13_method_38_code 34 = .ok (.lcmp, 1) := by decide +kernel
theorem d_M_candidate_35 : decode prog_13_method_38_code 35 = .ok (.ifCond .ne 23, 3) := by decide +kernel
theorem d_M_candidate_38 : decode prog_13_method_38_code 38 = .ok (.aload_n 0, 1) := by decide +kernel
theorem d_M_candidate_39 : decode prog_13_method_38_code 39 = .ok (.getfield 50, 3) := by decide +kernel
theorem d_M_candidate_42 : decode prog_13_method_38_code 42 = .ok (.iload 5, 2) := by decide +kernel
theorem d_M_candidate_44 : decode prog_13_method_38_code 44 = .ok (.iaload, 1) := by decide +kernel
theorem d_M_candidate_45 : decode prog_13_method_38_code 45 = .ok (.aload_n 0, 1) := by decide +kernel
theorem d_M_candidate_46 : decode prog_13_method_38_code 46 = .ok (.getfield 50, 3) := by decide +kernel
theorem d_M_candidate_49 : decode prog_13_method_38_code 49 = .ok (.iload_n 1, 1) := by decide +kernel
theorem d_M_candidate_50 : decode prog_13_method_38_code 50 = .ok (.iaload, 1) := by decide +kernel
theorem d_M_candidate_51 : decode prog_13_method_38_code 51 = .ok (.if_icmp .ne 7, 3) := by decide +kernel
theorem d_M_candidate_54 : decode prog_13_method_38_code 54 = .ok (.iconst 1, 1) := by decide +kernel
theorem d_M_candidate_55 : decode prog_13_method_38_code 55 = .ok (.goto 4, 3) := by decide +kernel
theorem d_M_candidate_58 : decode prog_13_method_38_code 58 = .ok (.iconst 0, 1) := by decide +kernel
theorem d_M_candidate_59 : decode prog_13_method_38_code 59 = .ok (.istore 6, 2) := by decide +kernel
theorem d_M_candidate_61 : decode prog_13_method_38_code 61 = .ok (.iload 6, 2) := by decide +kernel
theorem d_M_candidate_63 : decode prog_13_method_38_code 63 = .ok (.ifCond .eq 96, 3) := by decide +kernel
theorem d_M_candidate_66 : decode prog_13_method_38_code 66 = .ok (.aload_n 0, 1) := by decide +kernel
theorem d_M_candidate_67 : decode prog_13_method_38_code 67 = .ok (.getfield 50, 3) := by decide +kernel
theorem d_M_candidate_70 : decode prog_13_method_38_code 70 = .ok (.iload_n 1, 1) := by decide +kernel
theorem d_M_candidate_71 : decode prog_13_method_38_code 71 = .ok (.iaload, 1) := by decide +kernel
theorem d_M_candidate_72 : decode prog_13_method_38_code 72 = .ok (.ifCond .le 87, 3) := by decide +kernel
theorem d_M_candidate_75 : decode prog_13_method_38_code 75 = .ok (.aload_n 0, 1) := by decide +kernel
theorem d_M_candidate_76 : decode prog_13_method_38_code 76 = .ok (.iload_n 1, 1) := by decide +kernel
theorem d_M_candidate_77 : decode prog_13_method_38_code 77 = .ok (.iconst 1, 1) := by decide +kernel
theorem d_M_candidate_78 : decode prog_13_method_38_code 78 = .ok (.iadd, 1) := by decide +kernel
theorem d_M_candidate_79 : decode prog_13_method_38_code 79 = .ok (.iload_n 2, 1) := by decide +kernel
theorem d_M_candidate_80 : decode prog_13_method_38_code 80 = .ok (.invokevirtual 250, 3) := by decide +kernel
theorem d_M_candidate_83 : decode prog_13_method_38_code 83 = .ok (.iload 5, 2) := by decide +kernel
theorem d_M_candidate_85 : decode prog_13_method_38_code 85 = .ok (.iconst 1, 1) := by decide +kernel
theorem d_M_candidate_86 : decode prog_13_method_38_code 86 = .ok (.iadd, 1) := by decide +kernel
theorem d_M_candidate_87 : decode prog_13_method_38_code 87 = .ok (.istore 7, 2) := by decide +kernel
theorem d_M_candidate_89 : decode prog_13_method_38_code 89 = .ok (.aload_n 0, 1) := by decide +kernel
theorem d_M_candidate_90 : decode prog_13_method_38_code 90 = .ok (.getfield 50, 3) := by decide +kernel
theorem d_M_candidate_93 : decode prog_13_method_38_code 93 = .ok (.iload 7, 2) := by decide +kernel
theorem d_M_candidate_95 : decode prog_13_method_38_code 95 = .ok (.iaload, 1) := by decide +kernel
theorem d_M_candidate_96 : decode prog_13_method_38_code 96 = .ok (.iconst (-1), 1) := by decide +kernel
theorem d_M_candidate_97 : decode prog_13_method_38_code 97 = .ok (.if_icmp .eq 55, 3) := by decide +kernel
theorem d_M_candidate_100 : decode prog_13_method_38_code 100 = .ok (.aload_n 0, 1) := by decide +kernel
theorem d_M_candidate_101 : decode prog_13_method_38_code 101 = .ok (.getfield 50, 3) := by decide +kernel
theorem d_M_candidate_104 : decode prog_13_method_38_code 104 = .ok (.aload_n 0, 1) := by decide +kernel
theorem d_M_candidate_105 : decode prog_13_method_38_code 105 = .ok (.getfield 241, 3) := by decide +kernel
theorem d_M_candidate_108 : decode prog_13_method_38_code 108 = .ok (.iaload, 1) := by decide +kernel
theorem d_M_candidate_109 : decode prog_13_method_38_code 109 = .ok (.iconst (-1), 1) := by decide +kernel
theorem d_M_candidate_110 : decode prog_13_method_38_code 110 = .ok (.if_icmp .eq 42, 3) := by decide +kernel
theorem d_M_candidate_113 : decode prog_13_method_38_code 113 = .ok (.aload_n 0, 1) := by decide +kernel
theorem d_M_candidate_114 : decode prog_13_method_38_code 114 = .ok (.getfield 47, 3) := by decide +kernel
theorem d_M_candidate_117 : decode prog_13_method_38_code 117 = .ok (.iload 7, 2) := by decide +kernel
theorem d_M_candidate_119 : decode prog_13_method_38_code 119 = .ok (.laload, 1) := by decide +kernel
theorem d_M_candidate_120 : decode prog_13_method_38_code 120 = .ok (.aload_n 0, 1) := by decide +kernel
theorem d_M_candidate_121 : decode prog_13_method_38_code 121 = .ok (.getfield 47, 3) := by decide +kernel
theorem d_M_candidate_124 : decode prog_13_method_38_code 124 = .ok (.aload_n 0, 1) := by decide +kernel
theorem d_M_candidate_125 : decode prog_13_method_38_code 125 = .ok (.getfield 241, 3) := by decide +kernel
theorem d_M_candidate_128 : decode prog_13_method_38_code 128 = .ok (.laload, 1) := by decide +kernel
theorem d_M_candidate_129 : decode prog_13_method_38_code 129 = .ok (.lcmp, 1) := by decide +kernel
theorem d_M_candidate_130 : decode prog_13_method_38_code 130 = .ok (.ifCond .ne 26, 3) := by decide +kernel
theorem d_M_candidate_133 : decode prog_13_method_38_code 133 = .ok (.aload_n 0, 1) := by decide +kernel
theorem d_M_candidate_134 : decode prog_13_method_38_code 134 = .ok (.getfield 50, 3) := by decide +kernel
theorem d_M_candidate_137 : decode prog_13_method_38_code 137 = .ok (.iload 7, 2) := by decide +kernel
theorem d_M_candidate_139 : decode prog_13_method_38_code 139 = .ok (.iaload, 1) := by decide +kernel
theorem d_M_candidate_140 : decode prog_13_method_38_code 140 = .ok (.aload_n 0, 1) := by decide +kernel
theorem d_M_candidate_141 : decode prog_13_method_38_code 141 = .ok (.getfield 50, 3) := by decide +kernel
theorem d_M_candidate_144 : decode prog_13_method_38_code 144 = .ok (.aload_n 0, 1) := by decide +kernel
theorem d_M_candidate_145 : decode prog_13_method_38_code 145 = .ok (.getfield 241, 3) := by decide +kernel
theorem d_M_candidate_148 : decode prog_13_method_38_code 148 = .ok (.iaload, 1) := by decide +kernel
theorem d_M_candidate_149 : decode prog_13_method_38_code 149 = .ok (.if_icmp .ne 7, 3) := by decide +kernel
theorem d_M_candidate_152 : decode prog_13_method_38_code 152 = .ok (.iconst 1, 1) := by decide +kernel
theorem d_M_candidate_153 : decode prog_13_method_38_code 153 = .ok (.goto 4, 3) := by decide +kernel
theorem d_M_candidate_156 : decode prog_13_method_38_code 156 = .ok (.iconst 0, 1) := by decide +kernel
theorem d_M_candidate_157 : decode prog_13_method_38_code 157 = .ok (.istore 6, 2) := by decide +kernel
theorem d_M_candidate_159 : decode prog_13_method_38_code 159 = .ok (.iload 6, 2) := by decide +kernel
theorem d_M_candidate_161 : decode prog_13_method_38_code 161 = .ok (.ifCond .eq 6, 3) := by decide +kernel
theorem d_M_candidate_164 : decode prog_13_method_38_code 164 = .ok (.iload 4, 2) := by decide +kernel
theorem d_M_candidate_166 : decode prog_13_method_38_code 166 = .ok (.ireturn, 1) := by decide +kernel
theorem d_M_candidate_167 : decode prog_13_method_38_code 167 = .ok (.iinc 4 1, 3) := by decide +kernel
theorem d_M_candidate_170 : decode prog_13_method_38_code 170 = .ok (.goto (-165), 3) := by decide +kernel
theorem d_M_candidate_173 : decode prog_13_method_38_code 173 = .ok (.iconst (-1), 1) := by decide +kernel
theorem d_M_candidate_174 : decode prog_13_method_38_code 174 = .ok (.ireturn, 1) := by decide +kernel
theorem d_M_behind_0 : decode prog_13_method_25_code 0 = .ok (.iload_n 1, 1) := by decide +kernel
theorem d_M_behind_1 : decode prog_13_method_25_code 1 = .ok (.istore_n 2, 1) := by decide +kernel
theorem d_M_behind_2 : decode prog_13_method_25_code 2 = .ok (.iconst 1, 1) := by decide +kernel
theorem d_M_behind_3 : decode prog_13_method_25_code 3 = .ok (.istore_n 3, 1) := by decide +kernel
theorem d_M_behind_4 : decode prog_13_method_25_code 4 = .ok (.iload_n 3, 1) := by decide +kernel
theorem d_M_behind_5 : decode prog_13_method_25_code 5 = .ok (.ifCond .le 35, 3) := by decide +kernel
theorem d_M_behind_8 : decode prog_13_method_25_code 8 = .ok (.aload_n 0, 1) := by decide +kernel
theorem d_M_behind_9 : decode prog_13_method_25_code 9 = .ok (.getfield 50, 3) := by decide +kernel
theorem d_M_behind_12 : decode prog_13_method_25_code 12 = .ok (.iload_n 2, 1) := by decide +kernel
theorem d_M_behind_13 : decode prog_13_method_25_code 13 = .ok (.iaload, 1) := by decide +kernel
theorem d_M_behind_14 : decode prog_13_method_25_code 14 = .ok (.ifCond .le 14, 3) := by decide +kernel
theorem d_M_behind_17 : decode prog_13_method_25_code 17 = .ok (.iload_n 3, 1) := by decide +kernel
theorem d_M_behind_18 : decode prog_13_method_25_code 18 = .ok (.aload_n 0, 1) := by decide +kernel
theorem d_M_behind_19 : decode prog_13_method_25_code 19 = .ok (.getfield 50, 3) := by decide +kernel
theorem d_M_behind_22 : decode prog_13_method_25_code 22 = .ok (.iload_n 2, 1) := by decide +kernel
theorem d_M_behind_23 : decode prog_13_method_25_code 23 = .ok (.iaload, 1) := by decide +kernel
theorem d_M_behind_24 : decode prog_13_method_25_code 24 = .ok (.iadd, 1) := by decide +kernel
theorem d_M_behind_25 : decode prog_13_method_25_code 25 = .ok (.goto 4, 3) := by decide +kernel
theorem d_M_behind_28 : decode prog_13_method_25_code 28 = .ok (.iload_n 3, 1) := by decide +kernel
theorem d_M_behind_29 : decode prog_13_method_25_code 29 = .ok (.istore_n 3, 1) := by decide +kernel
theorem d_M_behind_30 : decode prog_13_method_25_code 30 = .ok (.iload_n 2, 1) := by decide +kernel
theorem d_M_behind_31 : decode prog_13_method_25_code 31 = .ok (.iconst 1, 1) := by decide +kernel
theorem d_M_behind_32 : decode prog_13_method_25_code 32 = .ok (.iadd, 1) := by decide +kernel
theorem d_M_behind_33 : decode prog_13_method_25_code 33 = .ok (.istore_n 2, 1) := by decide +kernel
theorem d_M_behind_34 : decode prog_13_method_25_code 34 = .ok (.iinc 3 (-1), 3) := by decide +kernel
theorem d_M_behind_37 : decode prog_13_method_25_code 37 = .ok (.goto (-33), 3) := by decide +kernel
theorem d_M_behind_40 : decode prog_13_method_25_code 40 = .ok (.iload_n 2, 1) := by decide +kernel
theorem d_M_behind_41 : decode prog_13_method_25_code 41 = .ok (.ireturn, 1) := by decide +kernel
theorem d_M_pushAll_0 : decode prog_13_method_27_code 0 = .ok (.aload_n 0, 1) := by decide +kernel
theorem d_M_pushAll_1 : decode prog_13_method_27_code 1 = .ok (.getfield 50, 3) := by decide +kernel
theorem d_M_pushAll_4 : decode prog_13_method_27_code 4 = .ok (.iload_n 1, 1) := by decide +kernel
theorem d_M_pushAll_5 : decode prog_13_method_27_code 5 = .ok (.iaload, 1) := by decide +kernel
theorem d_M_pushAll_6 : decode prog_13_method_27_code 6 = .ok (.ifCond .le 12, 3) := by decide +kernel
theorem d_M_pushAll_9 : decode prog_13_method_27_code 9 = .ok (.aload_n 0, 1) := by decide +kernel
theorem d_M_pushAll_10 : decode prog_13_method_27_code 10 = .ok (.getfield 50, 3) := by decide +kernel
theorem d_M_pushAll_13 : decode prog_13_method_27_code 13 = .ok (.iload_n 1, 1) := by decide +kernel
theorem d_M_pushAll_14 : decode prog_13_method_27_code 14 = .ok (.iaload, 1) := by decide +kernel
theorem d_M_pushAll_15 : decode prog_13_method_27_code 15 = .ok (.goto 4, 3) := by decide +kernel
theorem d_M_pushAll_18 : decode prog_13_method_27_code 18 = .ok (.iconst 0, 1) := by decide +kernel
theorem d_M_pushAll_19 : decode prog_13_method_27_code 19 = .ok (.istore 4, 2) := by decide +kernel
theorem d_M_pushAll_21 : decode prog_13_method_27_code 21 = .ok (.iload_n 1, 1) := by decide +kernel
theorem d_M_pushAll_22 : decode prog_13_method_27_code 22 = .ok (.iconst 1, 1) := by decide +kernel
theorem d_M_pushAll_23 : decode prog_13_method_27_code 23 = .ok (.iadd, 1) := by decide +kernel
theorem d_M_pushAll_24 : decode prog_13_method_27_code 24 = .ok (.istore 5, 2) := by decide +kernel
theorem d_M_pushAll_26 : decode prog_13_method_27_code 26 = .ok (.iload 4, 2) := by decide +kernel
theorem d_M_pushAll_28 : decode prog_13_method_27_code 28 = .ok (.iconst 1, 1) := by decide +kernel
theorem d_M_pushAll_29 : decode prog_13_method_27_code 29 = .ok (.isub, 1) := by decide +kernel
theorem d_M_pushAll_30 : decode prog_13_method_27_code 30 = .ok (.istore 6, 2) := by decide +kernel
theorem d_M_pushAll_32 : decode prog_13_method_27_code 32 = .ok (.iload 6, 2) := by decide +kernel
theorem d_M_pushAll_34 : decode prog_13_method_27_code 34 = .ok (.ifCond .lt 44, 3) := by decide +kernel
theorem d_M_pushAll_37 : decode prog_13_method_27_code 37 = .ok (.aload_n 0, 1) := by decide +kernel
theorem d_M_pushAll_38 : decode prog_13_method_27_code 38 = .ok (.getfield 95, 3) := by decide +kernel
theorem d_M_pushAll_41 : decode prog_13_method_27_code 41 = .ok (.iload_n 3, 1) := by decide +kernel
theorem d_M_pushAll_42 : decode prog_13_method_27_code 42 = .ok (.iconst 2, 1) := by decide +kernel
theorem d_M_pushAll_43 : decode prog_13_method_27_code 43 = .ok (.iload 6, 2) := by decide +kernel
theorem d_M_pushAll_45 : decode prog_13_method_27_code 45 = .ok (.imul, 1) := by decide +kernel
theorem d_M_pushAll_46 : decode prog_13_method_27_code 46 = .ok (.iadd, 1) := by decide +kernel
theorem d_M_pushAll_47 : decode prog_13_method_27_code 47 = .ok (.iload 5, 2) := by decide +kernel
theorem d_M_pushAll_49 : decode prog_13_method_27_code 49 = .ok (.iastore, 1) := by decide +kernel
theorem d_M_pushAll_50 : decode prog_13_method_27_code 50 = .ok (.aload_n 0, 1) := by decide +kernel
theorem d_M_pushAll_51 : decode prog_13_method_27_code 51 = .ok (.getfield 95, 3) := by decide +kernel
theorem d_M_pushAll_54 : decode prog_13_method_27_code 54 = .ok (.iload_n 3, 1) := by decide +kernel
theorem d_M_pushAll_55 : decode prog_13_method_27_code 55 = .ok (.iconst 2, 1) := by decide +kernel
theorem d_M_pushAll_56 : decode prog_13_method_27_code 56 = .ok (.iload 6, 2) := by decide +kernel
theorem d_M_pushAll_58 : decode prog_13_method_27_code 58 = .ok (.imul, 1) := by decide +kernel
theorem d_M_pushAll_59 : decode prog_13_method_27_code 59 = .ok (.iadd, 1) := by decide +kernel
theorem d_M_pushAll_60 : decode prog_13_method_27_code 60 = .ok (.iconst 1, 1) := by decide +kernel
theorem d_M_pushAll_61 : decode prog_13_method_27_code 61 = .ok (.iadd, 1) := by decide +kernel
theorem d_M_pushAll_62 : decode prog_13_method_27_code 62 = .ok (.iload_n 2, 1) := by decide +kernel
theorem d_M_pushAll_63 : decode prog_13_method_27_code 63 = .ok (.iastore, 1) := by decide +kernel
theorem d_M_pushAll_64 : decode prog_13_method_27_code 64 = .ok (.aload_n 0, 1) := by decide +kernel
theorem d_M_pushAll_65 : decode prog_13_method_27_code 65 = .ok (.iload 5, 2) := by decide +kernel
theorem d_M_pushAll_67 : decode prog_13_method_27_code 67 = .ok (.invokevirtual 247, 3) := by decide +kernel
theorem d_M_pushAll_70 : decode prog_13_method_27_code 70 = .ok (.istore 5, 2) := by decide +kernel
theorem d_M_pushAll_72 : decode prog_13_method_27_code 72 = .ok (.iinc 6 (-1), 3) := by decide +kernel
theorem d_M_pushAll_75 : decode prog_13_method_27_code 75 = .ok (.goto (-43), 3) := by decide +kernel
theorem d_M_pushAll_78 : decode prog_13_method_27_code 78 = .ok (.iload_n 3, 1) := by decide +kernel
theorem d_M_pushAll_79 : decode prog_13_method_27_code 79 = .ok (.iconst 2, 1) := by decide +kernel
theorem d_M_pushAll_80 : decode prog_13_method_27_code 80 = .ok (.iload 4, 2) := by decide +kernel
theorem d_M_pushAll_82 : decode prog_13_method_27_code 82 = .ok (.imul, 1) := by decide +kernel
theorem d_M_pushAll_83 : decode prog_13_method_27_code 83 = .ok (.iadd, 1) := by decide +kernel
theorem d_M_pushAll_84 : decode prog_13_method_27_code 84 = .ok (.ireturn, 1) := by decide +kernel
theorem d_M_stands_0 : decode prog_13_method_29_code 0 = .ok (.aload_n 0, 1) := by decide +kernel
theorem d_M_stands_1 : decode prog_13_method_29_code 1 = .ok (.getfield 95, 3) := by decide +kernel
theorem d_M_stands_4 : decode prog_13_method_29_code 4 = .ok (.iload 4, 2) := by decide +kernel
theorem d_M_stands_6 : decode prog_13_method_29_code 6 = .ok (.iload_n 2, 1) := by decide +kernel
theorem d_M_stands_7 : decode prog_13_method_29_code 7 = .ok (.iastore, 1) := by decide +kernel
theorem d_M_stands_8 : decode prog_13_method_29_code 8 = .ok (.aload_n 0, 1) := by decide +kernel
theorem d_M_stands_9 : decode prog_13_method_29_code 9 = .ok (.getfield 95, 3) := by decide +kernel
theorem d_M_stands_12 : decode prog_13_method_29_code 12 = .ok (.iload 4, 2) := by decide +kernel
theorem d_M_stands_14 : decode prog_13_method_29_code 14 = .ok (.iconst 1, 1) := by decide +kernel
theorem d_M_stands_15 : decode prog_13_method_29_code 15 = .ok (.iadd, 1) := by decide +kernel
theorem d_M_stands_16 : decode prog_13_method_29_code 16 = .ok (.iload_n 3, 1) := by decide +kernel
theorem d_M_stands_17 : decode prog_13_method_29_code 17 = .ok (.iastore, 1) := by decide +kernel
theorem d_M_stands_18 : decode prog_13_method_29_code 18 = .ok (.iload 4, 2) := by decide +kernel
theorem d_M_stands_20 : decode prog_13_method_29_code 20 = .ok (.iconst 2, 1) := by decide +kernel
theorem d_M_stands_21 : decode prog_13_method_29_code 21 = .ok (.iadd, 1) := by decide +kernel
theorem d_M_stands_22 : decode prog_13_method_29_code 22 = .ok (.istore 5, 2) := by decide +kernel
theorem d_M_stands_24 : decode prog_13_method_29_code 24 = .ok (.iload 5, 2) := by decide +kernel
theorem d_M_stands_26 : decode prog_13_method_29_code 26 = .ok (.iload 4, 2) := by decide +kernel
theorem d_M_stands_28 : decode prog_13_method_29_code 28 = .ok (.if_icmp .le 83, 3) := by decide +kernel
theorem d_M_stands_31 : decode prog_13_method_29_code 31 = .ok (.aload_n 0, 1) := by decide +kernel
theorem d_M_stands_32 : decode prog_13_method_29_code 32 = .ok (.aload_n 0, 1) := by decide +kernel
theorem d_M_stands_33 : decode prog_13_method_29_code 33 = .ok (.getfield 95, 3) := by decide +kernel
theorem d_M_stands_36 : decode prog_13_method_29_code 36 = .ok (.iload 5, 2) := by decide +kernel
theorem d_M_stands_38 : decode prog_13_method_29_code 38 = .ok (.iconst 2, 1) := by decide +kernel
theorem d_M_stands_39 : decode prog_13_method_29_code 39 = .ok (.isub, 1) := by decide +kernel
theorem d_M_stands_40 : decode prog_13_method_29_code 40 = .ok (.iaload, 1) := by decide +kernel
theorem d_M_stands_41 : decode prog_13_method_29_code 41 = .ok (.aload_n 0, 1) := by decide +kernel
theorem d_M_stands_42 : decode prog_13_method_29_code 42 = .ok (.getfield 95, 3) := by decide +kernel
theorem d_M_stands_45 : decode prog_13_method_29_code 45 = .ok (.iload 5, 2) := by decide +kernel
theorem d_M_stands_47 : decode prog_13_method_29_code 47 = .ok (.iconst 1, 1) := by decide +kernel
theorem d_M_stands_48 : decode prog_13_method_29_code 48 = .ok (.isub, 1) := by decide +kernel
theorem d_M_stands_49 : decode prog_13_method_29_code 49 = .ok (.iaload, 1) := by decide +kernel
theorem d_M_stands_50 : decode prog_13_method_29_code 50 = .ok (.invokevirtual 250, 3) := by decide +kernel
theorem d_M_stands_53 : decode prog_13_method_29_code 53 = .ok (.aload_n 0, 1) := by decide +kernel
theorem d_M_stands_54 : decode prog_13_method_29_code 54 = .ok (.getfield 50, 3) := by decide +kernel
theorem d_M_stands_57 : decode prog_13_method_29_code 57 = .ok (.aload_n 0, 1) := by decide +kernel
theorem d_M_stands_58 : decode prog_13_method_29_code 58 = .ok (.getfield 241, 3) := by decide +kernel
theorem d_M_stands_61 : decode prog_13_method_29_code 61 = .ok (.iaload, 1) := by decide +kernel
theorem d_M_stands_62 : decode prog_13_method_29_code 62 = .ok (.iconst (-1), 1) := by decide +kernel
theorem d_M_stands_63 : decode prog_13_method_29_code 63 = .ok (.if_icmp .ne 27, 3) := by decide +kernel
theorem d_M_stands_66 : decode prog_13_method_29_code 66 = .ok (.bipush 8, 2) := by decide +kernel
theorem d_M_stands_68 : decode prog_13_method_29_code 68 = .ok (.aload_n 0, 1) := by decide +kernel
theorem d_M_stands_69 : decode prog_13_method_29_code 69 = .ok (.getfield 244, 3) := by decide +kernel
theorem d_M_stands_72 : decode prog_13_method_29_code 72 = .ok (.imul, 1) := by decide +kernel
theorem d_M_stands_73 : decode prog_13_method_29_code 73 = .ok (.aload_n 0, 1) := by decide +kernel
theorem d_M_stands_74 : decode prog_13_method_29_code 74 = .ok (.getfield 47, 3) := by decide +kernel
theorem d_M_stands_77 : decode prog_13_method_29_code 77 = .ok (.aload_n 0, 1) := by decide +kernel
theorem d_M_stands_78 : decode prog_13_method_29_code 78 = .ok (.getfield 241, 3) := by decide +kernel
theorem d_M_stands_81 : decode prog_13_method_29_code 81 = .ok (.laload, 1) := by decide +kernel
theorem d_M_stands_82 : decode prog_13_method_29_code 82 = .ok (.l2i, 1) := by decide +kernel
theorem d_M_stands_83 : decode prog_13_method_29_code 83 = .ok (.iadd, 1) := by decide +kernel
theorem d_M_stands_84 : decode prog_13_method_29_code 84 = .ok (.iload_n 1, 1) := by decide +kernel
theorem d_M_stands_85 : decode prog_13_method_29_code 85 = .ok (.if_icmp .ne 5, 3) := by decide +kernel
theorem d_M_stands_88 : decode prog_13_method_29_code 88 = .ok (.iconst 1, 1) := by decide +kernel
theorem d_M_stands_89 : decode prog_13_method_29_code 89 = .ok (.ireturn, 1) := by decide +kernel
theorem d_M_stands_90 : decode prog_13_method_29_code 90 = .ok (.aload_n 0, 1) := by decide +kernel
theorem d_M_stands_91 : decode prog_13_method_29_code 91 = .ok (.aload_n 0, 1) := by decide +kernel
theorem d_M_stands_92 : decode prog_13_method_29_code 92 = .ok (.getfield 241, 3) := by decide +kernel
theorem d_M_stands_95 : decode prog_13_method_29_code 95 = .ok (.aload_n 0, 1) := by decide +kernel
theorem d_M_stands_96 : decode prog_13_method_29_code 96 = .ok (.getfield 244, 3) := by decide +kernel
theorem d_M_stands_99 : decode prog_13_method_29_code 99 = .ok (.iload 5, 2) := by decide +kernel
theorem d_M_stands_101 : decode prog_13_method_29_code 101 = .ok (.iconst 2, 1) := by decide +kernel
theorem d_M_stands_102 : decode prog_13_method_29_code 102 = .ok (.isub, 1) := by decide +kernel
theorem d_M_stands_103 : decode prog_13_method_29_code 103 = .ok (.invokevirtual 254, 3) := by decide +kernel
theorem d_M_stands_106 : decode prog_13_method_29_code 106 = .ok (.istore 5, 2) := by decide +kernel
theorem d_M_stands_108 : decode prog_13_method_29_code 108 = .ok (.goto (-84), 3) := by decide +kernel
theorem d_M_stands_111 : decode prog_13_method_29_code 111 = .ok (.iconst 0, 1) := by decide +kernel
theorem d_M_stands_112 : decode prog_13_method_29_code 112 = .ok (.ireturn, 1) := by decide +kernel
theorem d_M_bind_0 : decode prog_13_method_30_code 0 = .ok (.aload_n 0, 1) := by decide +kernel
theorem d_M_bind_1 : decode prog_13_method_30_code 1 = .ok (.iload_n 1, 1) := by decide +kernel
theorem d_M_bind_2 : decode prog_13_method_30_code 2 = .ok (.iload_n 2, 1) := by decide +kernel
theorem d_M_bind_3 : decode prog_13_method_30_code 3 = .ok (.iload_n 3, 1) := by decide +kernel
theorem d_M_bind_4 : decode prog_13_method_30_code 4 = .ok (.iload 4, 2) := by decide +kernel
theorem d_M_bind_6 : decode prog_13_method_30_code 6 = .ok (.invokevirtual 258, 3) := by decide +kernel
theorem d_M_bind_9 : decode prog_13_method_30_code 9 = .ok (.ifCond .eq 5, 3) := by decide +kernel
theorem d_M_bind_12 : decode prog_13_method_30_code 12 = .ok (.iconst 0, 1) := by decide +kernel
theorem d_M_bind_13 : decode prog_13_method_30_code 13 = .ok (.ireturn, 1) := by decide +kernel
theorem d_M_bind_14 : decode prog_13_method_30_code 14 = .ok (.aload_n 0, 1) := by decide +kernel
theorem d_M_bind_15 : decode prog_13_method_30_code 15 = .ok (.getfield 89, 3) := by decide +kernel
theorem d_M_bind_18 : decode prog_13_method_30_code 18 = .ok (.iload_n 1, 1) := by decide +kernel
theorem d_M_bind_19 : decode prog_13_method_30_code 19 = .ok (.iload_n 2, 1) := by decide +kernel
theorem d_M_bind_20 : decode prog_13_method_30_code 20 = .ok (.iastore, 1) := by decide +kernel
theorem d_M_bind_21 : decode prog_13_method_30_code 21 = .ok (.aload_n 0, 1) := by decide +kernel
theorem d_M_bind_22 : decode prog_13_method_30_code 22 = .ok (.getfield 92, 3) := by decide +kernel
theorem d_M_bind_25 : decode prog_13_method_30_code 25 = .ok (.iload_n 1, 1) := by decide +kernel
theorem d_M_bind_26 : decode prog_13_method_30_code 26 = .ok (.iload_n 3, 1) := by decide +kernel
theorem d_M_bind_27 : decode prog_13_method_30_code 27 = .ok (.iastore, 1) := by decide +kernel
theorem d_M_bind_28 : decode prog_13_method_30_code 28 = .ok (.iconst 1, 1) := by decide +kernel
theorem d_M_bind_29 : decode prog_13_method_30_code 29 = .ok (.ireturn, 1) := by decide +kernel
theorem d_M_equalize_0 : decode prog_13_method_31_code 0 = .ok (.aload_n 0, 1) := by decide +kernel
theorem d_M_equalize_1 : decode prog_13_method_31_code 1 = .ok (.getfield 95, 3) := by decide +kernel
theorem d_M_equalize_4 : decode prog_13_method_31_code 4 = .ok (.iconst 0, 1) := by decide +kernel
theorem d_M_equalize_5 : decode prog_13_method_31_code 5 = .ok (.iload_n 1, 1) := by decide +kernel
theorem d_M_equalize_6 : decode prog_13_method_31_code 6 = .ok (.iastore, 1) := by decide +kernel
theorem d_M_equalize_7 : decode prog_13_method_31_code 7 = .ok (.aload_n 0, 1) := by decide +kernel
theorem d_M_equalize_8 : decode prog_13_method_31_code 8 = .ok (.getfield 95, 3) := by decide +kernel
theorem d_M_equalize_11 : decode prog_13_method_31_code 11 = .ok (.iconst 1, 1) := by decide +kernel
theorem d_M_equalize_12 : decode prog_13_method_31_code 12 = .ok (.iload_n 2, 1) := by decide +kernel
theorem d_M_equalize_13 : decode prog_13_method_31_code 13 = .ok (.iastore, 1) := by decide +kernel
theorem d_M_equalize_14 : decode prog_13_method_31_code 14 = .ok (.aload_n 0, 1) := by decide +kernel
theorem d_M_equalize_15 : decode prog_13_method_31_code 15 = .ok (.getfield 95, 3) := by decide +kernel
theorem d_M_equalize_18 : decode prog_13_method_31_code 18 = .ok (.iconst 2, 1) := by decide +kernel
theorem d_M_equalize_19 : decode prog_13_method_31_code 19 = .ok (.iload_n 3, 1) := by decide +kernel
theorem d_M_equalize_20 : decode prog_13_method_31_code 20 = .ok (.iastore, 1) := by decide +kernel
theorem d_M_equalize_21 : decode prog_13_method_31_code 21 = .ok (.aload_n 0, 1) := by decide +kernel
theorem d_M_equalize_22 : decode prog_13_method_31_code 22 = .ok (.getfield 95, 3) := by decide +kernel
theorem d_M_equalize_25 : decode prog_13_method_31_code 25 = .ok (.iconst 3, 1) := by decide +kernel
theorem d_M_equalize_26 : decode prog_13_method_31_code 26 = .ok (.iload 4, 2) := by decide +kernel
theorem d_M_equalize_28 : decode prog_13_method_31_code 28 = .ok (.iastore, 1) := by decide +kernel
theorem d_M_equalize_29 : decode prog_13_method_31_code 29 = .ok (.iconst 4, 1) := by decide +kernel
theorem d_M_equalize_30 : decode prog_13_method_31_code 30 = .ok (.istore 5, 2) := by decide +kernel
theorem d_M_equalize_32 : decode prog_13_method_31_code 32 = .ok (.iload 5, 2) := by decide +kernel
theorem d_M_equalize_34 : decode prog_13_method_31_code 34 = .ok (.ifCond .le 399, 3) := by decide +kernel
theorem d_M_equalize_37 : decode prog_13_method_31_code 37 = .ok (.iload 5, 2) := by decide +kernel
theorem d_M_equalize_39 : decode prog_13_method_31_code 39 = .ok (.iconst 4, 1) := by decide +kernel
theorem d_M_equalize_40 : decode prog_13_method_31_code 40 = .ok (.isub, 1) := by decide +kernel
theorem d_M_equalize_41 : decode prog_13_method_31_code 41 = .ok (.istore 5, 2) := by decide +kernel
theorem d_M_equalize_43 : decode prog_13_method_31_code 43 = .ok (.aload_n 0, 1) := by decide +kernel
theorem d_M_equalize_44 : decode prog_13_method_31_code 44 = .ok (.aload_n 0, 1) := by decide +kernel
theorem d_M_equalize_45 : decode prog_13_method_31_code 45 = .ok (.getfield 95, 3) := by decide +kernel
theorem d_M_equalize_48 : decode prog_13_method_31_code 48 = .ok (.iload 5, 2) := by decide +kernel
theorem d_M_equalize_50 : decode prog_13_method_31_code 50 = .ok (.iaload, 1) := by decide +kernel
theorem d_M_equalize_51 : decode prog_13_method_31_code 51 = .ok (.aload_n 0, 1) := by decide +kernel
theorem d_M_equalize_52 : decode prog_13_method_31_code 52 = .ok (.getfield 95, 3) := by decide +kernel
theorem d_M_equalize_55 : decode prog_13_method_31_code 55 = .ok (.iload 5, 2) := by decide +kernel
theorem d_M_equalize_57 : decode prog_13_method_31_code 57 = .ok (.iconst 1, 1) := by decide +kernel
theorem d_M_equalize_58 : decode prog_13_method_31_code 58 = .ok (.iadd, 1) := by decide +kernel
theorem d_M_equalize_59 : decode prog_13_method_31_code 59 = .ok (.iaload, 1) := by decide +kernel
theorem d_M_equalize_60 : decode prog_13_method_31_code 60 = .ok (.invokevirtual 250, 3) := by decide +kernel
theorem d_M_equalize_63 : decode prog_13_method_31_code 63 = .ok (.aload_n 0, 1) := by decide +kernel
theorem d_M_equalize_64 : decode prog_13_method_31_code 64 = .ok (.getfield 241, 3) := by decide +kernel
theorem d_M_equalize_67 : decode prog_13_method_31_code 67 = .ok (.istore 6, 2) := by decide +kernel
theorem d_M_equalize_69 : decode prog_13_method_31_code 69 = .ok (.aload_n 0, 1) := by decide +kernel
theorem d_M_equalize_70 : decode prog_13_method_31_code 70 = .ok (.getfield 244, 3) := by decide +kernel
theorem d_M_equalize_73 : decode prog_13_method_31_code 73 = .ok (.istore 7, 2) := by decide +kernel
theorem d_M_equalize_75 : decode prog_13_method_31_code 75 = .ok (.aload_n 0, 1) := by decide +kernel
theorem d_M_equalize_76 : decode prog_13_method_31_code 76 = .ok (.aload_n 0, 1) := by decide +kernel
theorem d_M_equalize_77 : decode prog_13_method_31_code 77 = .ok (.getfield 95, 3) := by decide +kernel
theorem d_M_equalize_80 : decode prog_13_method_31_code 80 = .ok (.iload 5, 2) := by decide +kernel
theorem d_M_equalize_82 : decode prog_13_method_31_code 82 = .ok (.iconst 2, 1) := by decide +kernel
theorem d_M_equalize_83 : decode prog_13_method_31_code 83 = .ok (.iadd, 1) := by decide +kernel
theorem d_M_equalize_84 : decode prog_13_method_31_code 84 = .ok (.iaload, 1) := by decide +kernel
theorem d_M_equalize_85 : decode prog_13_method_31_code 85 = .ok (.aload_n 0, 1) := by decide +kernel
theorem d_M_equalize_86 : decode prog_13_method_31_code 86 = .ok (.getfield 95, 3) := by decide +kernel
theorem d_M_equalize_89 : decode prog_13_method_31_code 89 = .ok (.iload 5, 2) := by decide +kernel
theorem d_M_equalize_91 : decode prog_13_method_31_code 91 = .ok (.iconst 3, 1) := by decide +kernel
theorem d_M_equalize_92 : decode prog_13_method_31_code 92 = .ok (.iadd, 1) := by decide +kernel
theorem d_M_equalize_93 : decode prog_13_method_31_code 93 = .ok (.iaload, 1) := by decide +kernel
theorem d_M_equalize_94 : decode prog_13_method_31_code 94 = .ok (.invokevirtual 250, 3) := by decide +kernel
theorem d_M_equalize_97 : decode prog_13_method_31_code 97 = .ok (.aload_n 0, 1) := by decide +kernel
theorem d_M_equalize_98 : decode prog_13_method_31_code 98 = .ok (.getfield 241, 3) := by decide +kernel
theorem d_M_equalize_101 : decode prog_13_method_31_code 101 = .ok (.istore 8, 2) := by decide +kernel
theorem d_M_equalize_103 : decode prog_13_method_31_code 103 = .ok (.aload_n 0, 1) := by decide +kernel
theorem d_M_equalize_104 : decode prog_13_method_31_code 104 = .ok (.getfield 244, 3) := by decide +kernel
theorem d_M_equalize_107 : decode prog_13_method_31_code 107 = .ok (.istore 9, 2) := by decide +kernel
theorem d_M_equalize_109 : decode prog_13_method_31_code 109 = .ok (.aload_n 0, 1) := by decide +kernel
theorem d_M_equalize_110 : decode prog_13_method_31_code 110 = .ok (.getfield 50, 3) := by decide +kernel
theorem d_M_equalize_113 : decode prog_13_method_31_code 113 = .ok (.iload 6, 2) := by decide +kernel
theorem d_M_equalize_115 : decode prog_13_method_31_code 115 = .ok (.iaload, 1) := by decide +kernel
theorem d_M_equalize_116 : decode prog_13_method_31_code 116 = .ok (.iconst (-1), 1) := by decide +kernel
theorem d_M_equalize_117 : decode prog_13_method_31_code 117 = .ok (.if_icmp .ne 7, 3) := by decide +kernel
theorem d_M_equalize_120 : decode prog_13_method_31_code 120 = .ok (.iconst 1, 1) := by decide +kernel
theorem d_M_equalize_121 : decode prog_13_method_31_code 121 = .ok (.goto 4, 3) := by decide +kernel
theorem d_M_equalize_124 : decode prog_13_method_31_code 124 = .ok (.iconst 0, 1) := by decide +kernel
theorem d_M_equalize_125 : decode prog_13_method_31_code 125 = .ok (.istore 10, 2) := by decide +kernel
theorem d_M_equalize_127 : decode prog_13_method_31_code 127 = .ok (.aload_n 0, 1) := by decide +kernel
theorem d_M_equalize_128 : decode prog_13_method_31_code 128 = .ok (.getfield 50, 3) := by decide +kernel
theorem d_M_equalize_131 : decode prog_13_method_31_code 131 = .ok (.iload 8, 2) := by decide +kernel
theorem d_M_equalize_133 : decode prog_13_method_31_code 133 = .ok (.iaload, 1) := by decide +kernel
theorem d_M_equalize_134 : decode prog_13_method_31_code 134 = .ok (.iconst (-1), 1) := by decide +kernel
theorem d_M_equalize_135 : decode prog_13_method_31_code 135 = .ok (.if_icmp .ne 7, 3) := by decide +kernel
theorem d_M_equalize_138 : decode prog_13_method_31_code 138 = .ok (.iconst 1, 1) := by decide +kernel
theorem d_M_equalize_139 : decode prog_13_method_31_code 139 = .ok (.goto 4, 3) := by decide +kernel
theorem d_M_equalize_142 : decode prog_13_method_31_code 142 = .ok (.iconst 0, 1) := by decide +kernel
theorem d_M_equalize_143 : decode prog_13_method_31_code 143 = .ok (.istore 11, 2) := by decide +kernel
theorem d_M_equalize_145 : decode prog_13_method_31_code 145 = .ok (.iload 10, 2) := by decide +kernel
theorem d_M_equalize_147 : decode prog_13_method_31_code 147 = .ok (.ifCond .eq 20, 3) := by decide +kernel
theorem d_M_equalize_150 : decode prog_13_method_31_code 150 = .ok (.bipush 8, 2) := by decide +kernel
theorem d_M_equalize_152 : decode prog_13_method_31_code 152 = .ok (.iload 7, 2) := by decide +kernel
theorem d_M_equalize_154 : decode prog_13_method_31_code 154 = .ok (.imul, 1) := by decide +kernel
theorem d_M_equalize_155 : decode prog_13_method_31_code 155 = .ok (.aload_n 0, 1) := by decide +kernel
theorem d_M_equalize_156 : decode prog_13_method_31_code 156 = .ok (.getfield 47, 3) := by decide +kernel
theorem d_M_equalize_159 : decode prog_13_method_31_code 159 = .ok (.iload 6, 2) := by decide +kernel
theorem d_M_equalize_161 : decode prog_13_method_31_code 161 = .ok (.laload, 1) := by decide +kernel
theorem d_M_equalize_162 : decode prog_13_method_31_code 162 = .ok (.l2i, 1) := by decide +kernel
theorem d_M_equalize_163 : decode prog_13_method_31_code 163 = .ok (.iadd, 1) := by decide +kernel
theorem d_M_equalize_164 : decode prog_13_method_31_code 164 = .ok (.goto 4, 3) := by decide +kernel
theorem d_M_equalize_167 : decode prog_13_method_31_code 167 = .ok (.iconst (-1), 1) := by decide +kernel
theorem d_M_equalize_168 : decode prog_13_method_31_code 168 = .ok (.istore 12, 2) := by decide +kernel
theorem d_M_equalize_170 : decode prog_13_method_31_code 170 = .ok (.iload 11, 2) := by decide +kernel
theorem d_M_equalize_172 : decode prog_13_method_31_code 172 = .ok (.ifCond .eq 20, 3) := by decide +kernel
theorem d_M_equalize_175 : decode prog_13_method_31_code 175 = .ok (.bipush 8, 2) := by decide +kernel
theorem d_M_equalize_177 : decode prog_13_method_31_code 177 = .ok (.iload 9, 2) := by decide +kernel
theorem d_M_equalize_179 : decode prog_13_method_31_code 179 = .ok (.imul, 1) := by decide +kernel
theorem d_M_equalize_180 : decode prog_13_method_31_code 180 = .ok (.aload_n 0, 1) := by decide +kernel
theorem d_M_equalize_181 : decode prog_13_method_31_code 181 = .ok (.getfield 47, 3) := by decide +kernel
theorem d_M_equalize_184 : decode prog_13_method_31_code 184 = .ok (.iload 8, 2) := by decide +kernel
theorem d_M_equalize_186 : decode prog_13_method_31_code 186 = .ok (.laload, 1) := by decide +kernel
theorem d_M_equalize_187 : decode prog_13_method_31_code 187 = .ok (.l2i, 1) := by decide +kernel
theorem d_M_equalize_188 : decode prog_13_method_31_code 188 = .ok (.iadd, 1) := by decide +kernel
theorem d_M_equalize_189 : decode prog_13_method_31_code 189 = .ok (.goto 4, 3) := by decide +kernel
theorem d_M_equalize_192 : decode prog_13_method_31_code 192 = .ok (.iconst (-1), 1) := by decide +kernel
theorem d_M_equalize_193 : decode prog_13_method_31_code 193 = .ok (.istore 13, 2) := by decide +kernel
theorem d_M_equalize_195 : decode prog_13_method_31_code 195 = .ok (.iload 10, 2) := by decide +kernel
theorem d_M_equalize_197 : decode prog_13_method_31_code 197 = .ok (.ifCond .eq 19, 3) := by decide +kernel
theorem d_M_equalize_200 : decode prog_13_method_31_code 200 = .ok (.iload 11, 2) := by decide +kernel
theorem d_M_equalize_202 : decode prog_13_method_31_code 202 = .ok (.ifCond .eq 14, 3) := by decide +kernel
theorem d_M_equalize_205 : decode prog_13_method_31_code 205 = .ok (.iload 12, 2) := by decide +kernel
theorem d_M_equalize_207 : decode prog_13_method_31_code 207 = .ok (.iload 13, 2) := by decide +kernel
theorem d_M_equalize_209 : decode prog_13_method_31_code 209 = .ok (.if_icmp .ne 7, 3) := by decide +kernel
theorem d_M_equalize_212 : decode prog_13_method_31_code 212 = .ok (.iconst 1, 1) := by decide +kernel
theorem d_M_equalize_213 : decode prog_13_method_31_code 213 = .ok (.goto 4, 3) := by decide +kernel
theorem d_M_equalize_216 : decode prog_13_method_31_code 216 = .ok (.iconst 0, 1) := by decide +kernel
theorem d_M_equalize_217 : decode prog_13_method_31_code 217 = .ok (.istore 14, 2) := by decide +kernel
theorem d_M_equalize_219 : decode prog_13_method_31_code 219 = .ok (.iload 10, 2) := by decide +kernel
theorem d_M_equalize_221 : decode prog_13_method_31_code 221 = .ok (.ifCond .ne 8, 3) := by decide +kernel
theorem d_M_equalize_224 : decode prog_13_method_31_code 224 = .ok (.iload 11, 2) := by decide +kernel
theorem d_M_equalize_226 : decode prog_13_method_31_code 226 = .ok (.ifCond .eq 7, 3) := by decide +kernel
theorem d_M_equalize_229 : decode prog_13_method_31_code 229 = .ok (.iconst 1, 1) := by decide +kernel
theorem d_M_equalize_230 : decode prog_13_method_31_code 230 = .ok (.goto 4, 3) := by decide +kernel
theorem d_M_equalize_233 : decode prog_13_method_31_code 233 = .ok (.iconst 0, 1) := by decide +kernel
theorem d_M_equalize_234 : decode prog_13_method_31_code 234 = .ok (.istore 15, 2) := by decide +kernel
theorem d_M_equalize_236 : decode prog_13_method_31_code 236 = .ok (.iload 15, 2) := by decide +kernel
theorem d_M_equalize_238 : decode prog_13_method_31_code 238 = .ok (.ifCond .eq 48, 3) := by decide +kernel
theorem d_M_equalize_241 : decode prog_13_method_31_code 241 = .ok (.iload 14, 2) := by decide +kernel
theorem d_M_equalize_243 : decode prog_13_method_31_code 243 = .ok (.ifCond .ne 43, 3) := by decide +kernel
theorem d_M_equalize_246 : decode prog_13_method_31_code 246 = .ok (.iload 10, 2) := by decide +kernel
theorem d_M_equalize_248 : decode prog_13_method_31_code 248 = .ok (.ifCond .eq 21, 3) := by decide +kernel
theorem d_M_equalize_251 : decode prog_13_method_31_code 251 = .ok (.aload_n 0, 1) := by decide +kernel
theorem d_M_equalize_252 : decode prog_13_method_31_code 252 = .ok (.iload 12, 2) := by decide +kernel
theorem d_M_equalize_254 : decode prog_13_method_31_code 254 = .ok (.iload 8, 2) := by decide +kernel
theorem d_M_equalize_256 : decode prog_13_method_31_code 256 = .ok (.iload 9, 2) := by decide +kernel
theorem d_M_equalize_258 : decode prog_13_method_31_code 258 = .ok (.iload 5, 2) := by decide +kernel
theorem d_M_equalize_260 : decode prog_13_method_31_code 260 = .ok (.invokevirtual 262, 3) := by decide +kernel
theorem d_M_equalize_263 : decode prog_13_method_31_code 263 = .ok (.ifCond .eq 21, 3) := by decide +kernel
theorem d_M_equalize_266 : decode prog_13_method_31_code 266 = .ok (.goto 20, 3) := by decide +kernel
theorem d_M_equalize_269 : decode prog_13_method_31_code 269 = .ok (.aload_n 0, 1) := by decide +kernel
theorem d_M_equalize_270 : decode prog_13_method_31_code 270 = .ok (.iload 13, 2) := by decide +kernel
theorem d_M_equalize_272 : decode prog_13_method_31_code 272 = .ok (.iload 6, 2) := by decide +kernel
theorem d_M_equalize_274 : decode prog_13_method_31_code 274 = .ok (.iload 7, 2) := by decide +kernel
theorem d_M_equalize_276 : decode prog_13_method_31_code 276 = .ok (.iload 5, 2) := by decide +kernel
theorem d_M_equalize_278 : decode prog_13_method_31_code 278 = .ok (.invokevirtual 262, 3) := by decide +kernel
theorem d_M_equalize_281 : decode prog_13_method_31_code 281 = .ok (.ifCond .ne 5, 3) := by decide +kernel
theorem d_M_equalize_284 : decode prog_13_method_31_code 284 = .ok (.iconst 0, 1) := by decide +kernel
theorem d_M_equalize_285 : decode prog_13_method_31_code 285 = .ok (.ireturn, 1) := by decide +kernel
theorem d_M_equalize_286 : decode prog_13_method_31_code 286 = .ok (.iload 15, 2) := by decide +kernel
theorem d_M_equalize_288 : decode prog_13_method_31_code 288 = .ok (.ifCond .ne 40, 3) := by decide +kernel
theorem d_M_equalize_291 : decode prog_13_method_31_code 291 = .ok (.aload_n 0, 1) := by decide +kernel
theorem d_M_equalize_292 : decode prog_13_method_31_code 292 = .ok (.getfield 47, 3) := by decide +kernel
theorem d_M_equalize_295 : decode prog_13_method_31_code 295 = .ok (.iload 6, 2) := by decide +kernel
theorem d_M_equalize_297 : decode prog_13_method_31_code 297 = .ok (.laload, 1) := by decide +kernel
theorem d_M_equalize_298 : decode prog_13_method_31_code 298 = .ok (.aload_n 0, 1) := by decide +kernel
theorem d_M_equalize_299 : decode prog_13_method_31_code 299 = .ok (.getfield 47, 3) := by decide +kernel
theorem d_M_equalize_302 : decode prog_13_method_31_code 302 = .ok (.iload 8, 2) := by decide +kernel
theorem d_M_equalize_304 : decode prog_13_method_31_code 304 = .ok (.laload, 1) := by decide +kernel
theorem d_M_equalize_305 : decode prog_13_method_31_code 305 = .ok (.lcmp, 1) := by decide +kernel
theorem d_M_equalize_306 : decode prog_13_method_31_code 306 = .ok (.ifCond .ne 20, 3) := by decide +kernel
theorem d_M_equalize_309 : decode prog_13_method_31_code 309 = .ok (.aload_n 0, 1) := by decide +kernel
theorem d_M_equalize_310 : decode prog_13_method_31_code 310 = .ok (.getfield 50, 3) := by decide +kernel
theorem d_M_equalize_313 : decode prog_13_method_31_code 313 = .ok (.iload 6, 2) := by decide +kernel
theorem d_M_equalize_315 : decode prog_13_method_31_code 315 = .ok (.iaload, 1) := by decide +kernel
theorem d_M_equalize_316 : decode prog_13_method_31_code 316 = .ok (.aload_n 0, 1) := by decide +kernel
theorem d_M_equalize_317 : decode prog_13_method_31_code 317 = .ok (.getfield 50, 3) := by decide +kernel
theorem d_M_equalize_320 : decode prog_13_method_31_code 320 = .ok (.iload 8, 2) := by decide +kernel
theorem d_M_equalize_322 : decode prog_13_method_31_code 322 = .ok (.iaload, 1) := by decide +kernel
theorem d_M_equalize_323 : decode prog_13_method_31_code 323 = .ok (.if_icmp .eq 5, 3) := by decide +kernel
theorem d_M_equalize_326 : decode prog_13_method_31_code 326 = .ok (.iconst 0, 1) := by decide +kernel
theorem d_M_equalize_327 : decode prog_13_method_31_code 327 = .ok (.ireturn, 1) := by decide +kernel
theorem d_M_equalize_328 : decode prog_13_method_31_code 328 = .ok (.iload 6, 2) := by decide +kernel
theorem d_M_equalize_330 : decode prog_13_method_31_code 330 = .ok (.iconst 1, 1) := by decide +kernel
theorem d_M_equalize_331 : decode prog_13_method_31_code 331 = .ok (.iadd, 1) := by decide +kernel
theorem d_M_equalize_332 : decode prog_13_method_31_code 332 = .ok (.istore 16, 2) := by decide +kernel
theorem d_M_equalize_334 : decode prog_13_method_31_code 334 = .ok (.iload 8, 2) := by decide +kernel
theorem d_M_equalize_336 : decode prog_13_method_31_code 336 = .ok (.iconst 1, 1) := by decide +kernel
theorem d_M_equalize_337 : decode prog_13_method_31_code 337 = .ok (.iadd, 1) := by decide +kernel
theorem d_M_equalize_338 : decode prog_13_method_31_code 338 = .ok (.istore 17, 2) := by decide +kernel
theorem d_M_equalize_340 : decode prog_13_method_31_code 340 = .ok (.iconst 0, 1) := by decide +kernel
theorem d_M_equalize_341 : decode prog_13_method_31_code 341 = .ok (.istore 18, 2) := by decide +kernel
theorem d_M_equalize_343 : decode prog_13_method_31_code 343 = .ok (.iload 18, 2) := by decide +kernel
theorem d_M_equalize_345 : decode prog_13_method_31_code 345 = .ok (.aload_n 0, 1) := by decide +kernel
theorem d_M_equalize_346 : decode prog_13_method_31_code 346 = .ok (.getfield 50, 3) := by decide +kernel
theorem d_M_equalize_349 : decode prog_13_method_31_code 349 = .ok (.iload 6, 2) := by decide +kernel
theorem d_M_equalize_351 : decode prog_13_method_31_code 351 = .ok (.iaload, 1) := by decide +kernel
theorem d_M_equalize_352 : decode prog_13_method_31_code 352 = .ok (.if_icmp .ge 78, 3) := by decide +kernel
theorem d_M_equalize_355 : decode prog_13_method_31_code 355 = .ok (.iload 15, 2) := by decide +kernel
theorem d_M_equalize_357 : decode prog_13_method_31_code 357 = .ok (.ifCond .ne 73, 3) := by decide +kernel
theorem d_M_equalize_360 : decode prog_13_method_31_code 360 = .ok (.aload_n 0, 1) := by decide +kernel
theorem d_M_equalize_361 : decode prog_13_method_31_code 361 = .ok (.getfield 95, 3) := by decide +kernel
theorem d_M_equalize_364 : decode prog_13_method_31_code 364 = .ok (.iload 5, 2) := by decide +kernel
theorem d_M_equalize_366 : decode prog_13_method_31_code 366 = .ok (.iload 16, 2) := by decide +kernel
theorem d_M_equalize_368 : decode prog_13_method_31_code 368 = .ok (.iastore, 1) := by decide +kernel
theorem d_M_equalize_369 : decode prog_13_method_31_code 369 = .ok (.aload_n 0, 1) := by decide +kernel
theorem d_M_equalize_370 : decode prog_13_method_31_code 370 = .ok (.getfield 95, 3) := by decide +kernel
theorem d_M_equalize_373 : decode prog_13_method_31_code 373 = .ok (.iload 5, 2) := by decide +kernel
theorem d_M_equalize_375 : decode prog_13_method_31_code 375 = .ok (.iconst 1, 1) := by decide +kernel
theorem d_M_equalize_376 : decode prog_13_method_31_code 376 = .ok (.iadd, 1) := by decide +kernel
theorem d_M_equalize_377 : decode prog_13_method_31_code 377 = .ok (.iload 7, 2) := by decide +kernel
theorem d_M_equalize_379 : decode prog_13_method_31_code 379 = .ok (.iastore, 1) := by decide +kernel
theorem d_M_equalize_380 : decode prog_13_method_31_code 380 = .ok (.aload_n 0, 1) := by decide +kernel
theorem d_M_equalize_381 : decode prog_13_method_31_code 381 = .ok (.getfield 95, 3) := by decide +kernel
theorem d_M_equalize_384 : decode prog_13_method_31_code 384 = .ok (.iload 5, 2) := by decide +kernel
theorem d_M_equalize_386 : decode prog_13_method_31_code 386 = .ok (.iconst 2, 1) := by decide +kernel
theorem d_M_equalize_387 : decode prog_13_method_31_code 387 = .ok (.iadd, 1) := by decide +kernel
theorem d_M_equalize_388 : decode prog_13_method_31_code 388 = .ok (.iload 17, 2) := by decide +kernel
theorem d_M_equalize_390 : decode prog_13_method_31_code 390 = .ok (.iastore, 1) := by decide +kernel
theorem d_M_equalize_391 : decode prog_13_method_31_code 391 = .ok (.aload_n 0, 1) := by decide +kernel
theorem d_M_equalize_392 : decode prog_13_method_31_code 392 = .ok (.getfield 95, 3) := by decide +kernel
theorem d_M_equalize_395 : decode prog_13_method_31_code 395 = .ok (.iload 5, 2) := by decide +kernel
theorem d_M_equalize_397 : decode prog_13_method_31_code 397 = .ok (.iconst 3, 1) := by decide +kernel
theorem d_M_equalize_398 : decode prog_13_method_31_code 398 = .ok (.iadd, 1) := by decide +kernel
theorem d_M_equalize_399 : decode prog_13_method_31_code 399 = .ok (.iload 9, 2) := by decide +kernel
theorem d_M_equalize_401 : decode prog_13_method_31_code 401 = .ok (.iastore, 1) := by decide +kernel
theorem d_M_equalize_402 : decode prog_13_method_31_code 402 = .ok (.iload 5, 2) := by decide +kernel
theorem d_M_equalize_404 : decode prog_13_method_31_code 404 = .ok (.iconst 4, 1) := by decide +kernel
theorem d_M_equalize_405 : decode prog_13_method_31_code 405 = .ok (.iadd, 1) := by decide +kernel
theorem d_M_equalize_406 : decode prog_13_method_31_code 406 = .ok (.istore 5, 2) := by decide +kernel
theorem d_M_equalize_408 : decode prog_13_method_31_code 408 = .ok (.aload_n 0, 1) := by decide +kernel
theorem d_M_equalize_409 : decode prog_13_method_31_code 409 = .ok (.iload 16, 2) := by decide +kernel
theorem d_M_equalize_411 : decode prog_13_method_31_code 411 = .ok (.invokevirtual 247, 3) := by decide +kernel
theorem d_M_equalize_414 : decode prog_13_method_31_code 414 = .ok (.istore 16, 2) := by decide +kernel
theorem d_M_equalize_416 : decode prog_13_method_31_code 416 = .ok (.aload_n 0, 1) := by decide +kernel
theorem d_M_equalize_417 : decode prog_13_method_31_code 417 = .ok (.iload 17, 2) := by decide +kernel
theorem d_M_equalize_419 : decode prog_13_method_31_code 419 = .ok (.invokevirtual 247, 3) := by decide +kernel
theorem d_M_equalize_422 : decode prog_13_method_31_code 422 = .ok (.istore 17, 2) := by decide +kernel
theorem d_M_equalize_424 : decode prog_13_method_31_code 424 = .ok (.iinc 18 1, 3) := by decide +kernel
theorem d_M_equalize_427 : decode prog_13_method_31_code 427 = .ok (.goto (-84), 3) := by decide +kernel
theorem d_M_equalize_430 : decode prog_13_method_31_code 430 = .ok (.goto (-398), 3) := by decide +kernel
theorem d_M_equalize_433 : decode prog_13_method_31_code 433 = .ok (.iconst 1, 1) := by decide +kernel
theorem d_M_equalize_434 : decode prog_13_method_31_code 434 = .ok (.ireturn, 1) := by decide +kernel
theorem d_M_symbolsOf_0 : decode prog_13_method_28_code 0 = .ok (.iconst 0, 1) := by decide +kernel
theorem d_M_symbolsOf_1 : decode prog_13_method_28_code 1 = .ok (.istore_n 3, 1) := by decide +kernel
theorem d_M_symbolsOf_2 : decode prog_13_method_28_code 2 = .ok (.aload_n 0, 1) := by decide +kernel
theorem d_M_symbolsOf_3 : decode prog_13_method_28_code 3 = .ok (.getfield 95, 3) := by decide +kernel
theorem d_M_symbolsOf_6 : decode prog_13_method_28_code 6 = .ok (.iconst 0, 1) := by decide +kernel
theorem d_M_symbolsOf_7 : decode prog_13_method_28_code 7 = .ok (.iload_n 1, 1) := by decide +kernel
theorem d_M_symbolsOf_8 : decode prog_13_method_28_code 8 = .ok (.iastore, 1) := by decide +kernel
theorem d_M_symbolsOf_9 : decode prog_13_method_28_code 9 = .ok (.aload_n 0, 1) := by decide +kernel
theorem d_M_symbolsOf_10 : decode prog_13_method_28_code 10 = .ok (.getfield 95, 3) := by decide +kernel
theorem d_M_symbolsOf_13 : decode prog_13_method_28_code 13 = .ok (.iconst 1, 1) := by decide +kernel
theorem d_M_symbolsOf_14 : decode prog_13_method_28_code 14 = .ok (.iload_n 2, 1) := by decide +kernel
theorem d_M_symbolsOf_15 : decode prog_13_method_28_code 15 = .ok (.iastore, 1) := by decide +kernel
theorem d_M_symbolsOf_16 : decode prog_13_method_28_code 16 = .ok (.iconst 2, 1) := by decide +kernel
theorem d_M_symbolsOf_17 : decode prog_13_method_28_code 17 = .ok (.istore 4, 2) := by decide +kernel
theorem d_M_symbolsOf_19 : decode prog_13_method_28_code 19 = .ok (.iload 4, 2) := by decide +kernel
theorem d_M_symbolsOf_21 : decode prog_13_method_28_code 21 = .ok (.ifCond .le 56, 3) := by decide +kernel
theorem d_M_symbolsOf_24 : decode prog_13_method_28_code 24 = .ok (.iload_n 3, 1) := by decide +kernel
theorem d_M_symbolsOf_25 : decode prog_13_method_28_code 25 = .ok (.bipush 121, 2) := by decide +kernel
theorem d_M_symbolsOf_27 : decode prog_13_method_28_code 27 = .ok (.if_icmp .ge 50, 3) := by decide +kernel
theorem d_M_symbolsOf_30 : decode prog_13_method_28_code 30 = .ok (.aload_n 0, 1) := by decide +kernel
theorem d_M_symbolsOf_31 : decode prog_13_method_28_code 31 = .ok (.aload_n 0, 1) := by decide +kernel
theorem d_M_symbolsOf_32 : decode prog_13_method_28_code 32 = .ok (.getfield 95, 3) := by decide +kernel
theorem d_M_symbolsOf_35 : decode prog_13_method_28_code 35 = .ok (.iload 4, 2) := by decide +kernel
theorem d_M_symbolsOf_37 : decode prog_13_method_28_code 37 = .ok (.iconst 2, 1) := by decide +kernel
theorem d_M_symbolsOf_38 : decode prog_13_method_28_code 38 = .ok (.isub, 1) := by decide +kernel
theorem d_M_symbolsOf_39 : decode prog_13_method_28_code 39 = .ok (.iaload, 1) := by decide +kernel
theorem d_M_symbolsOf_40 : decode prog_13_method_28_code 40 = .ok (.aload_n 0, 1) := by decide +kernel
theorem d_M_symbolsOf_41 : decode prog_13_method_28_code 41 = .ok (.getfield 95, 3) := by decide +kernel
theorem d_M_symbolsOf_44 : decode prog_13_method_28_code 44 = .ok (.iload 4, 2) := by decide +kernel
theorem d_M_symbolsOf_46 : decode prog_13_method_28_code 46 = .ok (.iconst 1, 1) := by decide +kernel
theorem d_M_symbolsOf_47 : decode prog_13_method_28_code 47 = .ok (.isub, 1) := by decide +kernel
theorem d_M_symbolsOf_48 : decode prog_13_method_28_code 48 = .ok (.iaload, 1) := by decide +kernel
theorem d_M_symbolsOf_49 : decode prog_13_method_28_code 49 = .ok (.invokevirtual 250, 3) := by decide +kernel
theorem d_M_symbolsOf_52 : decode prog_13_method_28_code 52 = .ok (.iload_n 3, 1) := by decide +kernel
theorem d_M_symbolsOf_53 : decode prog_13_method_28_code 53 = .ok (.iconst 1, 1) := by decide +kernel
theorem d_M_symbolsOf_54 : decode prog_13_method_28_code 54 = .ok (.iadd, 1) := by decide +kernel
theorem d_M_symbolsOf_55 : decode prog_13_method_28_code 55 = .ok (.istore_n 3, 1) := by decide +kernel
theorem d_M_symbolsOf_56 : decode prog_13_method_28_code 56 = .ok (.aload_n 0, 1) := by decide +kernel
theorem d_M_symbolsOf_57 : decode prog_13_method_28_code 57 = .ok (.aload_n 0, 1) := by decide +kernel
theorem d_M_symbolsOf_58 : decode prog_13_method_28_code 58 = .ok (.getfield 241, 3) := by decide +kernel
theorem d_M_symbolsOf_61 : decode prog_13_method_28_code 61 = .ok (.aload_n 0, 1) := by decide +kernel
theorem d_M_symbolsOf_62 : decode prog_13_method_28_code 62 = .ok (.getfield 244, 3) := by decide +kernel
theorem d_M_symbolsOf_65 : decode prog_13_method_28_code 65 = .ok (.iload 4, 2) := by decide +kernel
theorem d_M_symbolsOf_67 : decode prog_13_method_28_code 67 = .ok (.iconst 2, 1) := by decide +kernel
theorem d_M_symbolsOf_68 : decode prog_13_method_28_code 68 = .ok (.isub, 1) := by decide +kernel
theorem d_M_symbolsOf_69 : decode prog_13_method_28_code 69 = .ok (.invokevirtual 254, 3) := by decide +kernel
theorem d_M_symbolsOf_72 : decode prog_13_method_28_code 72 = .ok (.istore 4, 2) := by decide +kernel
theorem d_M_symbolsOf_74 : decode prog_13_method_28_code 74 = .ok (.goto (-55), 3) := by decide +kernel
theorem d_M_symbolsOf_77 : decode prog_13_method_28_code 77 = .ok (.iload_n 3, 1) := by decide +kernel
theorem d_M_symbolsOf_78 : decode prog_13_method_28_code 78 = .ok (.ireturn, 1) := by decide +kernel
theorem d_M_large_0 : decode prog_13_method_39_code 0 = .ok (.iconst 0, 1) := by decide +kernel
theorem d_M_large_1 : decode prog_13_method_39_code 1 = .ok (.istore_n 1, 1) := by decide +kernel
theorem d_M_large_2 : decode prog_13_method_39_code 2 = .ok (.iconst 0, 1) := by decide +kernel
theorem d_M_large_3 : decode prog_13_method_39_code 3 = .ok (.istore_n 2, 1) := by decide +kernel
theorem d_M_large_4 : decode prog_13_method_39_code 4 = .ok (.iload_n 2, 1) := by decide +kernel
theorem d_M_large_5 : decode prog_13_method_39_code 5 = .ok (.aload_n 0, 1) := by decide +kernel
theorem d_M_large_6 : decode prog_13_method_39_code 6 = .ok (.getfield 211, 3) := by decide +kernel
theorem d_M_large_9 : decode prog_13_method_39_code 9 = .ok (.if_icmp .ge 54, 3) := by decide +kernel
theorem d_M_large_12 : decode prog_13_method_39_code 12 = .ok (.iload_n 1, 1) := by decide +kernel
theorem d_M_large_13 : decode prog_13_method_39_code 13 = .ok (.bipush 121, 2) := by decide +kernel
theorem d_M_large_15 : decode prog_13_method_39_code 15 = .ok (.if_icmp .ge 48, 3) := by decide +kernel
theorem d_M_large_18 : decode prog_13_method_39_code 18 = .ok (.iload_n 1, 1) := by decide +kernel
theorem d_M_large_19 : decode prog_13_method_39_code 19 = .ok (.aload_n 0, 1) := by decide +kernel
theorem d_M_large_20 : decode prog_13_method_39_code 20 = .ok (.getfield 50, 3) := by decide +kernel
theorem d_M_large_23 : decode prog_13_method_39_code 23 = .ok (.aload_n 0, 1) := by decide +kernel
theorem d_M_large_24 : decode prog_13_method_39_code 24 = .ok (.getfield 80, 3) := by decide +kernel
theorem d_M_large_27 : decode prog_13_method_39_code 27 = .ok (.iload_n 2, 1) := by decide +kernel
theorem d_M_large_28 : decode prog_13_method_39_code 28 = .ok (.iaload, 1) := by decide +kernel
theorem d_M_large_29 : decode prog_13_method_39_code 29 = .ok (.iaload, 1) := by decide +kernel
theorem d_M_large_30 : decode prog_13_method_39_code 30 = .ok (.bipush (-2), 2) := by decide +kernel
theorem d_M_large_32 : decode prog_13_method_39_code 32 = .ok (.if_icmp .ne 7, 3) := by decide +kernel
theorem d_M_large_35 : decode prog_13_method_39_code 35 = .ok (.iconst 1, 1) := by decide +kernel
theorem d_M_large_36 : decode prog_13_method_39_code 36 = .ok (.goto 19, 3) := by decide +kernel
theorem d_M_large_39 : decode prog_13_method_39_code 39 = .ok (.aload_n 0, 1) := by decide +kernel
theorem d_M_large_40 : decode prog_13_method_39_code 40 = .ok (.aload_n 0, 1) := by decide +kernel
theorem d_M_large_41 : decode prog_13_method_39_code 41 = .ok (.getfield 80, 3) := by decide +kernel
theorem d_M_large_44 : decode prog_13_method_39_code 44 = .ok (.iload_n 2, 1) := by decide +kernel
theorem d_M_large_45 : decode prog_13_method_39_code 45 = .ok (.iaload, 1) := by decide +kernel
theorem d_M_large_46 : decode prog_13_method_39_code 46 = .ok (.aload_n 0, 1) := by decide +kernel
theorem d_M_large_47 : decode prog_13_method_39_code 47 = .ok (.getfield 83, 3) := by decide +kernel
theorem d_M_large_50 : decode prog_13_method_39_code 50 = .ok (.iload_n 2, 1) := by decide +kernel
theorem d_M_large_51 : decode prog_13_method_39_code 51 = .ok (.iaload, 1) := by decide +kernel
theorem d_M_large_52 : decode prog_13_method_39_code 52 = .ok (.invokevirtual 284, 3) := by decide +kernel
theorem d_M_large_55 : decode prog_13_method_39_code 55 = .ok (.iadd, 1) := by decide +kernel
theorem d_M_large_56 : decode prog_13_method_39_code 56 = .ok (.istore_n 1, 1) := by decide +kernel
theorem d_M_large_57 : decode prog_13_method_39_code 57 = .ok (.iinc 2 1, 3) := by decide +kernel
theorem d_M_large_60 : decode prog_13_method_39_code 60 = .ok (.goto (-56), 3) := by decide +kernel
theorem d_M_large_63 : decode prog_13_method_39_code 63 = .ok (.iconst 0, 1) := by decide +kernel
theorem d_M_large_64 : decode prog_13_method_39_code 64 = .ok (.istore_n 2, 1) := by decide +kernel
theorem d_M_large_65 : decode prog_13_method_39_code 65 = .ok (.iload_n 2, 1) := by decide +kernel
theorem d_M_large_66 : decode prog_13_method_39_code 66 = .ok (.aload_n 0, 1) := by decide +kernel
theorem d_M_large_67 : decode prog_13_method_39_code 67 = .ok (.getfield 235, 3) := by decide +kernel
theorem d_M_large_70 : decode prog_13_method_39_code 70 = .ok (.if_icmp .ge 29, 3) := by decide +kernel
theorem d_M_large_73 : decode prog_13_method_39_code 73 = .ok (.iload_n 1, 1) := by decide +kernel
theorem d_M_large_74 : decode prog_13_method_39_code 74 = .ok (.bipush 121, 2) := by decide +kernel
theorem d_M_large_76 : decode prog_13_method_39_code 76 = .ok (.if_icmp .ge 23, 3) := by decide +kernel
theorem d_M_large_79 : decode prog_13_method_39_code 79 = .ok (.iload_n 1, 1) := by decide +kernel
theorem d_M_large_80 : decode prog_13_method_39_code 80 = .ok (.aload_n 0, 1) := by decide +kernel
theorem d_M_large_81 : decode prog_13_method_39_code 81 = .ok (.aload_n 0, 1) := by decide +kernel
theorem d_M_large_82 : decode prog_13_method_39_code 82 = .ok (.getfield 65, 3) := by decide +kernel
theorem d_M_large_85 : decode prog_13_method_39_code 85 = .ok (.iload_n 2, 1) := by decide +kernel
theorem d_M_large_86 : decode prog_13_method_39_code 86 = .ok (.iaload, 1) := by decide +kernel
theorem d_M_large_87 : decode prog_13_method_39_code 87 = .ok (.iconst 0, 1) := by decide +kernel
theorem d_M_large_88 : decode prog_13_method_39_code 88 = .ok (.invokevirtual 284, 3) := by decide +kernel
theorem d_M_large_91 : decode prog_13_method_39_code 91 = .ok (.iadd, 1) := by decide +kernel
theorem d_M_large_92 : decode prog_13_method_39_code 92 = .ok (.istore_n 1, 1) := by decide +kernel
theorem d_M_large_93 : decode prog_13_method_39_code 93 = .ok (.iinc 2 1, 3) := by decide +kernel
theorem d_M_large_96 : decode prog_13_method_39_code 96 = .ok (.goto (-31), 3) := by decide +kernel
theorem d_M_large_99 : decode prog_13_method_39_code 99 = .ok (.iload_n 1, 1) := by decide +kernel
theorem d_M_large_100 : decode prog_13_method_39_code 100 = .ok (.bipush 120, 2) := by decide +kernel
theorem d_M_large_102 : decode prog_13_method_39_code 102 = .ok (.if_icmp .le 7, 3) := by decide +kernel
theorem d_M_large_105 : decode prog_13_method_39_code 105 = .ok (.iconst 1, 1) := by decide +kernel
theorem d_M_large_106 : decode prog_13_method_39_code 106 = .ok (.goto 4, 3) := by decide +kernel
theorem d_M_large_109 : decode prog_13_method_39_code 109 = .ok (.iconst 0, 1) := by decide +kernel
theorem d_M_large_110 : decode prog_13_method_39_code 110 = .ok (.ireturn, 1) := by decide +kernel
theorem d_M_resolve_0 : decode prog_13_method_41_code 0 = .ok (.aload_n 0, 1) := by decide +kernel
theorem d_M_resolve_1 : decode prog_13_method_41_code 1 = .ok (.getfield 80, 3) := by decide +kernel
theorem d_M_resolve_4 : decode prog_13_method_41_code 4 = .ok (.aload_n 0, 1) := by decide +kernel
theorem d_M_resolve_5 : decode prog_13_method_41_code 5 = .ok (.getfield 211, 3) := by decide +kernel
theorem d_M_resolve_8 : decode prog_13_method_41_code 8 = .ok (.iaload, 1) := by decide +kernel
theorem d_M_resolve_9 : decode prog_13_method_41_code 9 = .ok (.istore_n 3, 1) := by decide +kernel
theorem d_M_resolve_10 : decode prog_13_method_41_code 10 = .ok (.aload_n 0, 1) := by decide +kernel
theorem d_M_resolve_11 : decode prog_13_method_41_code 11 = .ok (.getfield 83, 3) := by decide +kernel
theorem d_M_resolve_14 : decode prog_13_method_41_code 14 = .ok (.aload_n 0, 1) := by decide +kernel
theorem d_M_resolve_15 : decode prog_13_method_41_code 15 = .ok (.getfield 211, 3) := by decide +kernel
theorem d_M_resolve_18 : decode prog_13_method_41_code 18 = .ok (.iaload, 1) := by decide +kernel
theorem d_M_resolve_19 : decode prog_13_method_41_code 19 = .ok (.istore 4, 2) := by decide +kernel
theorem d_M_resolve_21 : decode prog_13_method_41_code 21 = .ok (.aload_n 0, 1) := by decide +kernel
theorem d_M_resolve_22 : decode prog_13_method_41_code 22 = .ok (.getfield 68, 3) := by decide +kernel
theorem d_M_resolve_25 : decode prog_13_method_41_code 25 = .ok (.aload_n 0, 1) := by decide +kernel
theorem d_M_resolve_26 : decode prog_13_method_41_code 26 = .ok (.getfield 205, 3) := by decide +kernel
theorem d_M_resolve_29 : decode prog_13_method_41_code 29 = .ok (.iload_n 1, 1) := by decide +kernel
theorem d_M_resolve_30 : decode prog_13_method_41_code 30 = .ok (.iastore, 1) := by decide +kernel
theorem d_M_resolve_31 : decode prog_13_method_41_code 31 = .ok (.aload_n 0, 1) := by decide +kernel
theorem d_M_resolve_32 : decode prog_13_method_41_code 32 = .ok (.getfield 71, 3) := by decide +kernel
theorem d_M_resolve_35 : decode prog_13_method_41_code 35 = .ok (.aload_n 0, 1) := by decide +kernel
theorem d_M_resolve_36 : decode prog_13_method_41_code 36 = .ok (.getfield 205, 3) := by decide +kernel
theorem d_M_resolve_39 : decode prog_13_method_41_code 39 = .ok (.iload_n 2, 1) := by decide +kernel
theorem d_M_resolve_40 : decode prog_13_method_41_code 40 = .ok (.iastore, 1) := by decide +kernel
theorem d_M_resolve_41 : decode prog_13_method_41_code 41 = .ok (.aload_n 0, 1) := by decide +kernel
theorem d_M_resolve_42 : decode prog_13_method_41_code 42 = .ok (.aload_n 0, 1) := by decide +kernel
theorem d_M_resolve_43 : decode prog_13_method_41_code 43 = .ok (.getfield 205, 3) := by decide +kernel
theorem d_M_resolve_46 : decode prog_13_method_41_code 46 = .ok (.iconst 1, 1) := by decide +kernel
theorem d_M_resolve_47 : decode prog_13_method_41_code 47 = .ok (.iadd, 1) := by decide +kernel
theorem d_M_resolve_48 : decode prog_13_method_41_code 48 = .ok (.putfield 205, 3) := by decide +kernel
theorem d_M_resolve_51 : decode prog_13_method_41_code 51 = .ok (.aload_n 0, 1) := by decide +kernel
theorem d_M_resolve_52 : decode prog_13_method_41_code 52 = .ok (.aload_n 0, 1) := by decide +kernel
theorem d_M_resolve_53 : decode prog_13_method_41_code 53 = .ok (.getfield 202, 3) := by decide +kernel
theorem d_M_resolve_56 : decode prog_13_method_41_code 56 = .ok (.iconst 1, 1) := by decide +kernel
theorem d_M_resolve_57 : decode prog_13_method_41_code 57 = .ok (.iadd, 1) := by decide +kernel
theorem d_M_resolve_58 : decode prog_13_method_41_code 58 = .ok (.putfield 202, 3) := by decide +kernel
theorem d_M_resolve_61 : decode prog_13_method_41_code 61 = .ok (.aload_n 0, 1) := by decide +kernel
theorem d_M_resolve_62 : decode prog_13_method_41_code 62 = .ok (.aload_n 0, 1) := by decide +kernel
theorem d_M_resolve_63 : decode prog_13_method_41_code 63 = .ok (.getfield 205, 3) := by decide +kernel
theorem d_M_resolve_66 : decode prog_13_method_41_code 66 = .ok (.invokevirtual 265, 3) := by decide +kernel
theorem d_M_resolve_69 : decode prog_13_method_41_code 69 = .ok (.aload_n 0, 1) := by decide +kernel
theorem d_M_resolve_70 : decode prog_13_method_41_code 70 = .ok (.bipush 40, 2) := by decide +kernel
theorem d_M_resolve_72 : decode prog_13_method_41_code 72 = .ok (.iload_n 1, 1) := by decide +kernel
theorem d_M_resolve_73 : decode prog_13_method_41_code 73 = .ok (.imul, 1) := by decide +kernel
theorem d_M_resolve_74 : decode prog_13_method_41_code 74 = .ok (.aload_n 0, 1) := by decide +kernel
theorem d_M_resolve_75 : decode prog_13_method_41_code 75 = .ok (.getfield 205, 3) := by decide +kernel
theorem d_M_resolve_78 : decode prog_13_method_41_code 78 = .ok (.iload_n 3, 1) := by decide +kernel
theorem d_M_resolve_79 : decode prog_13_method_41_code 79 = .ok (.iload 4, 2) := by decide +kernel
theorem d_M_resolve_81 : decode prog_13_method_41_code 81 = .ok (.invokevirtual 281, 3) := by decide +kernel
theorem d_M_resolve_84 : decode prog_13_method_41_code 84 = .ok (.ifCond .ne 9, 3) := by decide +kernel
theorem d_M_resolve_87 : decode prog_13_method_41_code 87 = .ok (.aload_n 0, 1) := by decide +kernel
theorem d_M_resolve_88 : decode prog_13_method_41_code 88 = .ok (.iconst 3, 1) := by decide +kernel
theorem d_M_resolve_89 : decode prog_13_method_41_code 89 = .ok (.putfield 199, 3) := by decide +kernel
theorem d_M_resolve_92 : decode prog_13_method_41_code 92 = .ok (.return_, 1) := by decide +kernel
theorem d_M_resolve_93 : decode prog_13_method_41_code 93 = .ok (.aload_n 0, 1) := by decide +kernel
theorem d_M_resolve_94 : decode prog_13_method_41_code 94 = .ok (.iconst 1, 1) := by decide +kernel
theorem d_M_resolve_95 : decode prog_13_method_41_code 95 = .ok (.putfield 199, 3) := by decide +kernel
theorem d_M_resolve_98 : decode prog_13_method_41_code 98 = .ok (.aload_n 0, 1) := by decide +kernel
theorem d_M_resolve_99 : decode prog_13_method_41_code 99 = .ok (.iload_n 1, 1) := by decide +kernel
theorem d_M_resolve_100 : decode prog_13_method_41_code 100 = .ok (.aload_n 0, 1) := by decide +kernel
theorem d_M_resolve_101 : decode prog_13_method_41_code 101 = .ok (.getfield 205, 3) := by decide +kernel
theorem d_M_resolve_104 : decode prog_13_method_41_code 104 = .ok (.iload_n 2, 1) := by decide +kernel
theorem d_M_resolve_105 : decode prog_13_method_41_code 105 = .ok (.invokevirtual 269, 3) := by decide +kernel
theorem d_M_resolve_108 : decode prog_13_method_41_code 108 = .ok (.aload_n 0, 1) := by decide +kernel
theorem d_M_resolve_109 : decode prog_13_method_41_code 109 = .ok (.invokevirtual 291, 3) := by decide +kernel
theorem d_M_resolve_112 : decode prog_13_method_41_code 112 = .ok (.ifCond .eq 8, 3) := by decide +kernel
theorem d_M_resolve_115 : decode prog_13_method_41_code 115 = .ok (.aload_n 0, 1) := by decide +kernel
theorem d_M_resolve_116 : decode prog_13_method_41_code 116 = .ok (.iconst 4, 1) := by decide +kernel
theorem d_M_resolve_117 : decode prog_13_method_41_code 117 = .ok (.invokevirtual 294, 3) := by decide +kernel
theorem d_M_resolve_120 : decode prog_13_method_41_code 120 = .ok (.return_, 1) := by decide +kernel
theorem d_M_forward_0 : decode prog_13_method_42_code 0 = .ok (.aload_n 0, 1) := by decide +kernel
theorem d_M_forward_1 : decode prog_13_method_42_code 1 = .ok (.aload_n 0, 1) := by decide +kernel
theorem d_M_forward_2 : decode prog_13_method_42_code 2 = .ok (.getfield 211, 3) := by decide +kernel
theorem d_M_forward_5 : decode prog_13_method_42_code 5 = .ok (.iconst 1, 1) := by decide +kernel
theorem d_M_forward_6 : decode prog_13_method_42_code 6 = .ok (.isub, 1) := by decide +kernel
theorem d_M_forward_7 : decode prog_13_method_42_code 7 = .ok (.putfield 211, 3) := by decide +kernel
theorem d_M_forward_10 : decode prog_13_method_42_code 10 = .ok (.aload_n 0, 1) := by decide +kernel
theorem d_M_forward_11 : decode prog_13_method_42_code 11 = .ok (.getfield 80, 3) := by decide +kernel
theorem d_M_forward_14 : decode prog_13_method_42_code 14 = .ok (.aload_n 0, 1) := by decide +kernel
theorem d_M_forward_15 : decode prog_13_method_42_code 15 = .ok (.getfield 211, 3) := by decide +kernel
theorem d_M_forward_18 : decode prog_13_method_42_code 18 = .ok (.iaload, 1) := by decide +kernel
theorem d_M_forward_19 : decode prog_13_method_42_code 19 = .ok (.istore_n 1, 1) := by decide +kernel
theorem d_M_forward_20 : decode prog_13_method_42_code 20 = .ok (.aload_n 0, 1) := by decide +kernel
theorem d_M_forward_21 : decode prog_13_method_42_code 21 = .ok (.getfield 83, 3) := by decide +kernel
theorem d_M_forward_24 : decode prog_13_method_42_code 24 = .ok (.aload_n 0, 1) := by decide +kernel
theorem d_M_forward_25 : decode prog_13_method_42_code 25 = .ok (.getfield 211, 3) := by decide +kernel
theorem d_M_forward_28 : decode prog_13_method_42_code 28 = .ok (.iaload, 1) := by decide +kernel
theorem d_M_forward_29 : decode prog_13_method_42_code 29 = .ok (.istore_n 2, 1) := by decide +kernel
theorem d_M_forward_30 : decode prog_13_method_42_code 30 = .ok (.aload_n 0, 1) := by decide +kernel
theorem d_M_forward_31 : decode prog_13_method_42_code 31 = .ok (.getfield 50, 3) := by decide +kernel
theorem d_M_forward_34 : decode prog_13_method_42_code 34 = .ok (.iload_n 1, 1) := by decide +kernel
theorem d_M_forward_35 : decode prog_13_method_42_code 35 = .ok (.iaload, 1) := by decide +kernel
theorem d_M_forward_36 : decode prog_13_method_42_code 36 = .ok (.bipush (-2), 2) := by decide +kernel
theorem d_M_forward_38 : decode prog_13_method_42_code 38 = .ok (.if_icmp .ne 40, 3) := by decide +kernel
theorem d_M_forward_41 : decode prog_13_method_42_code 41 = .ok (.aload_n 0, 1) := by decide +kernel
theorem d_M_forward_42 : decode prog_13_method_42_code 42 = .ok (.aload_n 0, 1) := by decide +kernel
theorem d_M_forward_43 : decode prog_13_method_42_code 43 = .ok (.getfield 208, 3) := by decide +kernel
theorem d_M_forward_46 : decode prog_13_method_42_code 46 = .ok (.aload_n 0, 1) := by decide +kernel
theorem d_M_forward_47 : decode prog_13_method_42_code 47 = .ok (.getfield 86, 3) := by decide +kernel
theorem d_M_forward_50 : decode prog_13_method_42_code 50 = .ok (.aload_n 0, 1) := by decide +kernel
theorem d_M_forward_51 : decode prog_13_method_42_code 51 = .ok (.getfield 211, 3) := by decide +kernel
theorem d_M_forward_54 : decode prog_13_method_42_code 54 = .ok (.iaload, 1) := by decide +kernel
theorem d_M_forward_55 : decode prog_13_method_42_code 55 = .ok (.if_icmp .ge 10, 3) := by decide +kernel
theorem d_M_forward_58 : decode prog_13_method_42_code 58 = .ok (.aload_n 0, 1) := by decide +kernel
theorem d_M_forward_59 : decode prog_13_method_42_code 59 = .ok (.getfield 208, 3) := by decide +kernel
theorem d_M_forward_62 : decode prog_13_method_42_code 62 = .ok (.goto 12, 3) := by decide +kernel
theorem d_M_forward_65 : decode prog_13_method_42_code 65 = .ok (.aload_n 0, 1) := by decide +kernel
theorem d_M_forward_66 : decode prog_13_method_42_code 66 = .ok (.getfield 86, 3) := by decide +kernel
theorem d_M_forward_69 : decode prog_13_method_42_code 69 = .ok (.aload_n 0, 1) := by decide +kernel
theorem d_M_forward_70 : decode prog_13_method_42_code 70 = .ok (.getfield 211, 3) := by decide +kernel
theorem d_M_forward_73 : decode prog_13_method_42_code 73 = .ok (.iaload, 1) := by decide +kernel
theorem d_M_forward_74 : decode prog_13_method_42_code 74 = .ok (.putfield 208, 3) := by decide +kernel
theorem d_M_forward_77 : decode prog_13_method_42_code 77 = .ok (.return_, 1) := by decide +kernel
theorem d_M_forward_78 : decode prog_13_method_42_code 78 = .ok (.aload_n 0, 1) := by decide +kernel
theorem d_M_forward_79 : decode prog_13_method_42_code 79 = .ok (.iload_n 1, 1) := by decide +kernel
theorem d_M_forward_80 : decode prog_13_method_42_code 80 = .ok (.ldc2_w 272, 3) := by decide +kernel
theorem d_M_forward_83 : decode prog_13_method_42_code 83 = .ok (.invokevirtual 274, 3) := by decide +kernel
theorem d_M_forward_86 : decode prog_13_method_42_code 86 = .ok (.ifCond .eq 4, 3) := by decide +kernel
theorem d_M_forward_89 : decode prog_13_method_42_code 89 = .ok (.return_, 1) := by decide +kernel
theorem d_M_forward_90 : decode prog_13_method_42_code 90 = .ok (.aload_n 0, 1) := by decide +kernel
theorem d_M_forward_91 : decode prog_13_method_42_code 91 = .ok (.iload_n 1, 1) := by decide +kernel
theorem d_M_forward_92 : decode prog_13_method_42_code 92 = .ok (.ldc2_w 297, 3) := by decide +kernel
theorem d_M_forward_95 : decode prog_13_method_42_code 95 = .ok (.invokevirtual 274, 3) := by decide +kernel
theorem d_M_forward_98 : decode prog_13_method_42_code 98 = .ok (.ifCond .eq 7, 3) := by decide +kernel
theorem d_M_forward_101 : decode prog_13_method_42_code 101 = .ok (.iconst (-1), 1) := by decide +kernel
theorem d_M_forward_102 : decode prog_13_method_42_code 102 = .ok (.goto 10, 3) := by decide +kernel
theorem d_M_forward_105 : decode prog_13_method_42_code 105 = .ok (.aload_n 0, 1) := by decide +kernel
theorem d_M_forward_106 : decode prog_13_method_42_code 106 = .ok (.iload_n 1, 1) := by decide +kernel
theorem d_M_forward_107 : decode prog_13_method_42_code 107 = .ok (.iload_n 2, 1) := by decide +kernel
theorem d_M_forward_108 : decode prog_13_method_42_code 108 = .ok (.iconst (-1), 1) := by decide +kernel
theorem d_M_forward_109 : decode prog_13_method_42_code 109 = .ok (.invokevirtual 299, 3) := by decide +kernel
theorem d_M_forward_112 : decode prog_13_method_42_code 112 = .ok (.istore_n 3, 1) := by decide +kernel
theorem d_M_forward_113 : decode prog_13_method_42_code 113 = .ok (.iload_n 3, 1) := by decide +kernel
theorem d_M_forward_114 : decode prog_13_method_42_code 114 = .ok (.ifCond .ge 9, 3) := by decide +kernel
theorem d_M_forward_117 : decode prog_13_method_42_code 117 = .ok (.aload_n 0, 1) := by decide +kernel
theorem d_M_forward_118 : decode prog_13_method_42_code 118 = .ok (.iconst 3, 1) := by decide +kernel
theorem d_M_forward_119 : decode prog_13_method_42_code 119 = .ok (.putfield 199, 3) := by decide +kernel
theorem d_M_forward_122 : decode prog_13_method_42_code 122 = .ok (.return_, 1) := by decide +kernel
theorem d_M_forward_123 : decode prog_13_method_42_code 123 = .ok (.aload_n 0, 1) := by decide +kernel
theorem d_M_forward_124 : decode prog_13_method_42_code 124 = .ok (.getfield 205, 3) := by decide +kernel
theorem d_M_forward_127 : decode prog_13_method_42_code 127 = .ok (.bipush 60, 2) := by decide +kernel
theorem d_M_forward_129 : decode prog_13_method_42_code 129 = .ok (.if_icmp .ne 9, 3) := by decide +kernel
theorem d_M_forward_132 : decode prog_13_method_42_code 132 = .ok (.aload_n 0, 1) := by decide +kernel
theorem d_M_forward_133 : decode prog_13_method_42_code 133 = .ok (.iconst 3, 1) := by decide +kernel
theorem d_M_forward_134 : decode prog_13_method_42_code 134 = .ok (.invokevirtual 294, 3) := by decide +kernel
theorem d_M_forward_137 : decode prog_13_method_42_code 137 = .ok (.return_, 1) := by decide +kernel
theorem d_M_forward_138 : decode prog_13_method_42_code 138 = .ok (.aload_n 0, 1) := by decide +kernel
theorem d_M_forward_139 : decode prog_13_method_42_code 139 = .ok (.getfield 208, 3) := by decide +kernel
theorem d_M_forward_142 : decode prog_13_method_42_code 142 = .ok (.istore 4, 2) := by decide +kernel
theorem d_M_forward_144 : decode prog_13_method_42_code 144 = .ok (.aload_n 0, 1) := by decide +kernel
theorem d_M_forward_145 : decode prog_13_method_42_code 145 = .ok (.iload_n 1, 1) := by decide +kernel
theorem d_M_forward_146 : decode prog_13_method_42_code 146 = .ok (.iload_n 2, 1) := by decide +kernel
theorem d_M_forward_147 : decode prog_13_method_42_code 147 = .ok (.iload_n 3, 1) := by decide +kernel
theorem d_M_forward_148 : decode prog_13_method_42_code 148 = .ok (.invokevirtual 299, 3) := by decide +kernel
theorem d_M_forward_151 : decode prog_13_method_42_code 151 = .ok (.ifCond .lt 36, 3) := by decide +kernel
theorem d_M_forward_154 : decode prog_13_method_42_code 154 = .ok (.aload_n 0, 1) := by decide +kernel
theorem d_M_forward_155 : decode prog_13_method_42_code 155 = .ok (.getfield 74, 3) := by decide +kernel
theorem d_M_forward_158 : decode prog_13_method_42_code 158 = .ok (.aload_n 0, 1) := by decide +kernel
theorem d_M_forward_159 : decode prog_13_method_42_code 159 = .ok (.getfield 208, 3) := by decide +kernel
theorem d_M_forward_162 : decode prog_13_method_42_code 162 = .ok (.aload_n 0, 1) := by decide +kernel
theorem d_M_forward_163 : decode prog_13_method_42_code 163 = .ok (.getfield 205, 3) := by decide +kernel
theorem d_M_forward_166 : decode prog_13_method_42_code 166 = .ok (.iastore, 1) := by decide +kernel
theorem d_M_forward_167 : decode prog_13_method_42_code 167 = .ok (.aload_n 0, 1) := by decide +kernel
theorem d_M_forward_168 : decode prog_13_method_42_code 168 = .ok (.getfield 77, 3) := by decide +kernel
theorem d_M_forward_171 : decode prog_13_method_42_code 171 = .ok (.aload_n 0, 1) := by decide +kernel
theorem d_M_forward_172 : decode prog_13_method_42_code 172 = .ok (.getfield 208, 3) := by decide +kernel
theorem d_M_forward_175 : decode prog_13_method_42_code 175 = .ok (.iload_n 3, 1) := by decide +kernel
theorem d_M_forward_176 : decode prog_13_method_42_code 176 = .ok (.iastore, 1) := by decide +kernel
theorem d_M_forward_177 : decode prog_13_method_42_code 177 = .ok (.aload_n 0, 1) := by decide +kernel
theorem d_M_forward_178 : decode prog_13_method_42_code 178 = .ok (.aload_n 0, 1) := by decide +kernel
theorem d_M_forward_179 : decode prog_13_method_42_code 179 = .ok (.getfield 208, 3) := by decide +kernel
theorem d_M_forward_182 : decode prog_13_method_42_code 182 = .ok (.iconst 1, 1) := by decide +kernel
theorem d_M_forward_183 : decode prog_13_method_42_code 183 = .ok (.iadd, 1) := by decide +kernel
theorem d_M_forward_184 : decode prog_13_method_42_code 184 = .ok (.putfield 208, 3) := by decide +kernel
theorem d_M_forward_187 : decode prog_13_method_42_code 187 = .ok (.aload_n 0, 1) := by decide +kernel
theorem d_M_forward_188 : decode prog_13_method_42_code 188 = .ok (.iload_n 3, 1) := by decide +kernel
theorem d_M_forward_189 : decode prog_13_method_42_code 189 = .ok (.iload 4, 2) := by decide +kernel
theorem d_M_forward_191 : decode prog_13_method_42_code 191 = .ok (.invokevirtual 302, 3) := by decide +kernel
theorem d_M_forward_194 : decode prog_13_method_42_code 194 = .ok (.return_, 1) := by decide +kernel
theorem d_M_strip_0 : decode prog_13_method_36_code 0 = .ok (.aload_n 0, 1) := by decide +kernel
theorem d_M_strip_1 : decode prog_13_method_36_code 1 = .ok (.getfield 211, 3) := by decide +kernel
theorem d_M_strip_4 : decode prog_13_method_36_code 4 = .ok (.ifCond .le 58, 3) := by decide +kernel
theorem d_M_strip_7 : decode prog_13_method_36_code 7 = .ok (.aload_n 0, 1) := by decide +kernel
theorem d_M_strip_8 : decode prog_13_method_36_code 8 = .ok (.getfield 50, 3) := by decide +kernel
theorem d_M_strip_11 : decode prog_13_method_36_code 11 = .ok (.aload_n 0, 1) := by decide +kernel
theorem d_M_strip_12 : decode prog_13_method_36_code 12 = .ok (.getfield 80, 3) := by decide +kernel
theorem d_M_strip_15 : decode prog_13_method_36_code 15 = .ok (.aload_n 0, 1) := by decide +kernel
theorem d_M_strip_16 : decode prog_13_method_36_code 16 = .ok (.getfield 211, 3) := by decide +kernel
theorem d_M_strip_19 : decode prog_13_method_36_code 19 = .ok (.iconst 1, 1) := by decide +kernel
theorem d_M_strip_20 : decode prog_13_method_36_code 20 = .ok (.isub, 1) := by decide +kernel
theorem d_M_strip_21 : decode prog_13_method_36_code 21 = .ok (.iaload, 1) := by decide +kernel
theorem d_M_strip_22 : decode prog_13_method_36_code 22 = .ok (.iaload, 1) := by decide +kernel
theorem d_M_strip_23 : decode prog_13_method_36_code 23 = .ok (.bipush (-2), 2) := by decide +kernel
theorem d_M_strip_25 : decode prog_13_method_36_code 25 = .ok (.if_icmp .eq 24, 3) := by decide +kernel
theorem d_M_strip_28 : decode prog_13_method_36_code 28 = .ok (.aload_n 0, 1) := by decide +kernel
theorem d_M_strip_29 : decode prog_13_method_36_code 29 = .ok (.aload_n 0, 1) := by decide +kernel
theorem d_M_strip_30 : decode prog_13_method_36_code 30 = .ok (.getfield 80, 3) := by decide +kernel
theorem d_M_strip_33 : decode prog_13_method_36_code 33 = .ok (.aload_n 0, 1) := by decide +kernel
theorem d_M_strip_34 : decode prog_13_method_36_code 34 = .ok (.getfield 211, 3) := by decide +kernel
theorem d_M_strip_37 : decode prog_13_method_36_code 37 = .ok (.iconst 1, 1) := by decide +kernel
theorem d_M_strip_38 : decode prog_13_method_36_code 38 = .ok (.isub, 1) := by decide +kernel
theorem d_M_strip_39 : decode prog_13_method_36_code 39 = .ok (.iaload, 1) := by decide +kernel
theorem d_M_strip_40 : decode prog_13_method_36_code 40 = .ok (.ldc2_w 272, 3) := by decide +kernel
theorem d_M_strip_43 : decode prog_13_method_36_code 43 = .ok (.invokevirtual 274, 3) := by decide +kernel
theorem d_M_strip_46 : decode prog_13_method_36_code 46 = .ok (.ifCond .eq 16, 3) := by decide +kernel
theorem d_M_strip_49 : decode prog_13_method_36_code 49 = .ok (.aload_n 0, 1) := by decide +kernel
theorem d_M_strip_50 : decode prog_13_method_36_code 50 = .ok (.aload_n 0, 1) := by decide +kernel
theorem d_M_strip_51 : decode prog_13_method_36_code 51 = .ok (.getfield 211, 3) := by decide +kernel
theorem d_M_strip_54 : decode prog_13_method_36_code 54 = .ok (.iconst 1, 1) := by decide +kernel
theorem d_M_strip_55 : decode prog_13_method_36_code 55 = .ok (.isub, 1) := by decide +kernel
theorem d_M_strip_56 : decode prog_13_method_36_code 56 = .ok (.putfield 211, 3) := by decide +kernel
theorem d_M_strip_59 : decode prog_13_method_36_code 59 = .ok (.goto (-59), 3) := by decide +kernel
theorem d_M_strip_62 : decode prog_13_method_36_code 62 = .ok (.return_, 1) := by decide +kernel
theorem d_M_again_0 : decode prog_13_method_37_code 0 = .ok (.aload_n 0, 1) := by decide +kernel
theorem d_M_again_1 : decode prog_13_method_37_code 1 = .ok (.invokevirtual 238, 3) := by decide +kernel
theorem d_M_again_4 : decode prog_13_method_37_code 4 = .ok (.iconst 0, 1) := by decide +kernel
theorem d_M_again_5 : decode prog_13_method_37_code 5 = .ok (.istore_n 2, 1) := by decide +kernel
theorem d_M_again_6 : decode prog_13_method_37_code 6 = .ok (.iload_n 2, 1) := by decide +kernel
theorem d_M_again_7 : decode prog_13_method_37_code 7 = .ok (.iload_n 1, 1) := by decide +kernel
theorem d_M_again_8 : decode prog_13_method_37_code 8 = .ok (.if_icmp .ge 84, 3) := by decide +kernel
theorem d_M_again_11 : decode prog_13_method_37_code 11 = .ok (.aload_n 0, 1) := by decide +kernel
theorem d_M_again_12 : decode prog_13_method_37_code 12 = .ok (.invokevirtual 278, 3) := by decide +kernel
theorem d_M_again_15 : decode prog_13_method_37_code 15 = .ok (.aload_n 0, 1) := by decide +kernel
theorem d_M_again_16 : decode prog_13_method_37_code 16 = .ok (.aload_n 0, 1) := by decide +kernel
theorem d_M_again_17 : decode prog_13_method_37_code 17 = .ok (.getfield 211, 3) := by decide +kernel
theorem d_M_again_20 : decode prog_13_method_37_code 20 = .ok (.iconst 1, 1) := by decide +kernel
theorem d_M_again_21 : decode prog_13_method_37_code 21 = .ok (.isub, 1) := by decide +kernel
theorem d_M_again_22 : decode prog_13_method_37_code 22 = .ok (.putfield 211, 3) := by decide +kernel
theorem d_M_again_25 : decode prog_13_method_37_code 25 = .ok (.aload_n 0, 1) := by decide +kernel
theorem d_M_again_26 : decode prog_13_method_37_code 26 = .ok (.iload_n 2, 1) := by decide +kernel
theorem d_M_again_27 : decode prog_13_method_37_code 27 = .ok (.iconst 1, 1) := by decide +kernel
theorem d_M_again_28 : decode prog_13_method_37_code 28 = .ok (.iadd, 1) := by decide +kernel
theorem d_M_again_29 : decode prog_13_method_37_code 29 = .ok (.invokevirtual 265, 3) := by decide +kernel
theorem d_M_again_32 : decode prog_13_method_37_code 32 = .ok (.aload_n 0, 1) := by decide +kernel
theorem d_M_again_33 : decode prog_13_method_37_code 33 = .ok (.bipush 40, 2) := by decide +kernel
theorem d_M_again_35 : decode prog_13_method_37_code 35 = .ok (.aload_n 0, 1) := by decide +kernel
theorem d_M_again_36 : decode prog_13_method_37_code 36 = .ok (.getfield 68, 3) := by decide +kernel
theorem d_M_again_39 : decode prog_13_method_37_code 39 = .ok (.iload_n 2, 1) := by decide +kernel
theorem d_M_again_40 : decode prog_13_method_37_code 40 = .ok (.iaload, 1) := by decide +kernel
theorem d_M_again_41 : decode prog_13_method_37_code 41 = .ok (.imul, 1) := by decide +kernel
theorem d_M_again_42 : decode prog_13_method_37_code 42 = .ok (.iload_n 2, 1) := by decide +kernel
theorem d_M_again_43 : decode prog_13_method_37_code 43 = .ok (.iconst 1, 1) := by decide +kernel
theorem d_M_again_44 : decode prog_13_method_37_code 44 = .ok (.iadd, 1) := by decide +kernel
theorem d_M_again_45 : decode prog_13_method_37_code 45 = .ok (.aload_n 0, 1) := by decide +kernel
theorem d_M_again_46 : decode prog_13_method_37_code 46 = .ok (.getfield 80, 3) := by decide +kernel
theorem d_M_again_49 : decode prog_13_method_37_code 49 = .ok (.aload_n 0, 1) := by decide +kernel
theorem d_M_again_50 : decode prog_13_method_37_code 50 = .ok (.getfield 211, 3) := by decide +kernel
theorem d_M_again_53 : decode prog_13_method_37_code 53 = .ok (.iaload, 1) := by decide +kernel
theorem d_M_again_54 : decode prog_13_method_37_code 54 = .ok (.aload_n 0, 1) := by decide +kernel
theorem d_M_again_55 : decode prog_13_method_37_code 55 = .ok (.getfield 83, 3) := by decide +kernel
theorem d_M_again_58 : decode prog_13_method_37_code 58 = .ok (.aload_n 0, 1) := by decide +kernel
theorem d_M_again_59 : decode prog_13_method_37_code 59 = .ok (.getfield 211, 3) := by decide +kernel
theorem d_M_again_62 : decode prog_13_method_37_code 62 = .ok (.iaload, 1) := by decide +kernel
theorem d_M_again_63 : decode prog_13_method_37_code 63 = .ok (.invokevirtual 281, 3) := by decide +kernel
theorem d_M_again_66 : decode prog_13_method_37_code 66 = .ok (.istore_n 3, 1) := by decide +kernel
theorem d_M_again_67 : decode prog_13_method_37_code 67 = .ok (.aload_n 0, 1) := by decide +kernel
theorem d_M_again_68 : decode prog_13_method_37_code 68 = .ok (.aload_n 0, 1) := by decide +kernel
theorem d_M_again_69 : decode prog_13_method_37_code 69 = .ok (.getfield 68, 3) := by decide +kernel
theorem d_M_again_72 : decode prog_13_method_37_code 72 = .ok (.iload_n 2, 1) := by decide +kernel
theorem d_M_again_73 : decode prog_13_method_37_code 73 = .ok (.iaload, 1) := by decide +kernel
theorem d_M_again_74 : decode prog_13_method_37_code 74 = .ok (.iload_n 2, 1) := by decide +kernel
theorem d_M_again_75 : decode prog_13_method_37_code 75 = .ok (.iconst 1, 1) := by decide +kernel
theorem d_M_again_76 : decode prog_13_method_37_code 76 = .ok (.iadd, 1) := by decide +kernel
theorem d_M_again_77 : decode prog_13_method_37_code 77 = .ok (.aload_n 0, 1) := by decide +kernel
theorem d_M_again_78 : decode prog_13_method_37_code 78 = .ok (.getfield 71, 3) := by decide +kernel
theorem d_M_again_81 : decode prog_13_method_37_code 81 = .ok (.iload_n 2, 1) := by decide +kernel
theorem d_M_again_82 : decode prog_13_method_37_code 82 = .ok (.iaload, 1) := by decide +kernel
theorem d_M_again_83 : decode prog_13_method_37_code 83 = .ok (.invokevirtual 269, 3) := by decide +kernel
theorem d_M_again_86 : decode prog_13_method_37_code 86 = .ok (.iinc 2 1, 3) := by decide +kernel
theorem d_M_again_89 : decode prog_13_method_37_code 89 = .ok (.goto (-83), 3) := by decide +kernel
theorem d_M_again_92 : decode prog_13_method_37_code 92 = .ok (.aload_n 0, 1) := by decide +kernel
theorem d_M_again_93 : decode prog_13_method_37_code 93 = .ok (.iload_n 1, 1) := by decide +kernel
theorem d_M_again_94 : decode prog_13_method_37_code 94 = .ok (.putfield 205, 3) := by decide +kernel
theorem d_M_again_97 : decode prog_13_method_37_code 97 = .ok (.aload_n 0, 1) := by decide +kernel
theorem d_M_again_98 : decode prog_13_method_37_code 98 = .ok (.invokevirtual 278, 3) := by decide +kernel
theorem d_M_again_101 : decode prog_13_method_37_code 101 = .ok (.return_, 1) := by decide +kernel
theorem d_M_back_0 : decode prog_13_method_43_code 0 = .ok (.aload_n 0, 1) := by decide +kernel
theorem d_M_back_1 : decode prog_13_method_43_code 1 = .ok (.getfield 208, 3) := by decide +kernel
theorem d_M_back_4 : decode prog_13_method_43_code 4 = .ok (.iconst 1, 1) := by decide +kernel
theorem d_M_back_5 : decode prog_13_method_43_code 5 = .ok (.isub, 1) := by decide +kernel
theorem d_M_back_6 : decode prog_13_method_43_code 6 = .ok (.istore_n 1, 1) := by decide +kernel
theorem d_M_back_7 : decode prog_13_method_43_code 7 = .ok (.aload_n 0, 1) := by decide +kernel
theorem d_M_back_8 : decode prog_13_method_43_code 8 = .ok (.aload_n 0, 1) := by decide +kernel
theorem d_M_back_9 : decode prog_13_method_43_code 9 = .ok (.getfield 74, 3) := by decide +kernel
theorem d_M_back_12 : decode prog_13_method_43_code 12 = .ok (.iload_n 1, 1) := by decide +kernel
theorem d_M_back_13 : decode prog_13_method_43_code 13 = .ok (.iaload, 1) := by decide +kernel
theorem d_M_back_14 : decode prog_13_method_43_code 14 = .ok (.invokevirtual 305, 3) := by decide +kernel
theorem d_M_back_17 : decode prog_13_method_43_code 17 = .ok (.aload_n 0, 1) := by decide +kernel
theorem d_M_back_18 : decode prog_13_method_43_code 18 = .ok (.aload_n 0, 1) := by decide +kernel
theorem d_M_back_19 : decode prog_13_method_43_code 19 = .ok (.getfield 211, 3) := by decide +kernel
theorem d_M_back_22 : decode prog_13_method_43_code 22 = .ok (.iconst 1, 1) := by decide +kernel
theorem d_M_back_23 : decode prog_13_method_43_code 23 = .ok (.isub, 1) := by decide +kernel
theorem d_M_back_24 : decode prog_13_method_43_code 24 = .ok (.putfield 211, 3) := by decide +kernel
theorem d_M_back_27 : decode prog_13_method_43_code 27 = .ok (.aload_n 0, 1) := by decide +kernel
theorem d_M_back_28 : decode prog_13_method_43_code 28 = .ok (.aload_n 0, 1) := by decide +kernel
theorem d_M_back_29 : decode prog_13_method_43_code 29 = .ok (.getfield 80, 3) := by decide +kernel
theorem d_M_back_32 : decode prog_13_method_43_code 32 = .ok (.aload_n 0, 1) := by decide +kernel
theorem d_M_back_33 : decode prog_13_method_43_code 33 = .ok (.getfield 211, 3) := by decide +kernel
theorem d_M_back_36 : decode prog_13_method_43_code 36 = .ok (.iaload, 1) := by decide +kernel
theorem d_M_back_37 : decode prog_13_method_43_code 37 = .ok (.aload_n 0, 1) := by decide +kernel
theorem d_M_back_38 : decode prog_13_method_43_code 38 = .ok (.getfield 83, 3) := by decide +kernel
theorem d_M_back_41 : decode prog_13_method_43_code 41 = .ok (.aload_n 0, 1) := by decide +kernel
theorem d_M_back_42 : decode prog_13_method_43_code 42 = .ok (.getfield 211, 3) := by decide +kernel
theorem d_M_back_45 : decode prog_13_method_43_code 45 = .ok (.iaload, 1) := by decide +kernel
theorem d_M_back_46 : decode prog_13_method_43_code 46 = .ok (.aload_n 0, 1) := by decide +kernel
theorem d_M_back_47 : decode prog_13_method_43_code 47 = .ok (.getfield 77, 3) := by decide +kernel
theorem d_M_back_50 : decode prog_13_method_43_code 50 = .ok (.iload_n 1, 1) := by decide +kernel
theorem d_M_back_51 : decode prog_13_method_43_code 51 = .ok (.iaload, 1) := by decide +kernel
theorem d_M_back_52 : decode prog_13_method_43_code 52 = .ok (.invokevirtual 299, 3) := by decide +kernel
theorem d_M_back_55 : decode prog_13_method_43_code 55 = .ok (.istore_n 2, 1) := by decide +kernel
theorem d_M_back_56 : decode prog_13_method_43_code 56 = .ok (.aload_n 0, 1) := by decide +kernel
theorem d_M_back_57 : decode prog_13_method_43_code 57 = .ok (.getfield 77, 3) := by decide +kernel
theorem d_M_back_60 : decode prog_13_method_43_code 60 = .ok (.iload_n 1, 1) := by decide +kernel
theorem d_M_back_61 : decode prog_13_method_43_code 61 = .ok (.iload_n 2, 1) := by decide +kernel
theorem d_M_back_62 : decode prog_13_method_43_code 62 = .ok (.iastore, 1) := by decide +kernel
theorem d_M_back_63 : decode prog_13_method_43_code 63 = .ok (.aload_n 0, 1) := by decide +kernel
theorem d_M_back_64 : decode prog_13_method_43_code 64 = .ok (.aload_n 0, 1) := by decide +kernel
theorem d_M_back_65 : decode prog_13_method_43_code 65 = .ok (.aload_n 0, 1) := by decide +kernel
theorem d_M_back_66 : decode prog_13_method_43_code 66 = .ok (.getfield 80, 3) := by decide +kernel
theorem d_M_back_69 : decode prog_13_method_43_code 69 = .ok (.aload_n 0, 1) := by decide +kernel
theorem d_M_back_70 : decode prog_13_method_43_code 70 = .ok (.getfield 211, 3) := by decide +kernel
theorem d_M_back_73 : decode prog_13_method_43_code 73 = .ok (.iaload, 1) := by decide +kernel
theorem d_M_back_74 : decode prog_13_method_43_code 74 = .ok (.aload_n 0, 1) := by decide +kernel
theorem d_M_back_75 : decode prog_13_method_43_code 75 = .ok (.getfield 83, 3) := by decide +kernel
theorem d_M_back_78 : decode prog_13_method_43_code 78 = .ok (.aload_n 0, 1) := by decide +kernel
theorem d_M_back_79 : decode prog_13_method_43_code 79 = .ok (.getfield 211, 3) := by decide +kernel
theorem d_M_back_82 : decode prog_13_method_43_code 82 = .ok (.iaload, 1) := by decide +kernel
theorem d_M_back_83 : decode prog_13_method_43_code 83 = .ok (.iload_n 2, 1) := by decide +kernel
theorem d_M_back_84 : decode prog_13_method_43_code 84 = .ok (.invokevirtual 299, 3) := by decide +kernel
theorem d_M_back_87 : decode prog_13_method_43_code 87 = .ok (.ifCond .ge 7, 3) := by decide +kernel
theorem d_M_back_90 : decode prog_13_method_43_code 90 = .ok (.iload_n 1, 1) := by decide +kernel
theorem d_M_back_91 : decode prog_13_method_43_code 91 = .ok (.goto 6, 3) := by decide +kernel
theorem d_M_back_94 : decode prog_13_method_43_code 94 = .ok (.iload_n 1, 1) := by decide +kernel
theorem d_M_back_95 : decode prog_13_method_43_code 95 = .ok (.iconst 1, 1) := by decide +kernel
theorem d_M_back_96 : decode prog_13_method_43_code 96 = .ok (.iadd, 1) := by decide +kernel
theorem d_M_back_97 : decode prog_13_method_43_code 97 = .ok (.putfield 208, 3) := by decide +kernel
theorem d_M_back_100 : decode prog_13_method_43_code 100 = .ok (.aload_n 0, 1) := by decide +kernel
theorem d_M_back_101 : decode prog_13_method_43_code 101 = .ok (.iload_n 2, 1) := by decide +kernel
theorem d_M_back_102 : decode prog_13_method_43_code 102 = .ok (.iload_n 1, 1) := by decide +kernel
theorem d_M_back_103 : decode prog_13_method_43_code 103 = .ok (.invokevirtual 302, 3) := by decide +kernel
theorem d_M_back_106 : decode prog_13_method_43_code 106 = .ok (.return_, 1) := by decide +kernel
theorem d_M_step_0 : decode prog_13_method_44_code 0 = .ok (.aload_n 0, 1) := by decide +kernel
theorem d_M_step_1 : decode prog_13_method_44_code 1 = .ok (.getfield 199, 3) := by decide +kernel
theorem d_M_step_4 : decode prog_13_method_44_code 4 = .ok (.iconst 1, 1) := by decide +kernel
theorem d_M_step_5 : decode prog_13_method_44_code 5 = .ok (.if_icmp .ne 10, 3) := by decide +kernel
theorem d_M_step_8 : decode prog_13_method_44_code 8 = .ok (.aload_n 0, 1) := by decide +kernel
theorem d_M_step_9 : decode prog_13_method_44_code 9 = .ok (.invokevirtual 308, 3) := by decide +kernel
theorem d_M_step_12 : decode prog_13_method_44_code 12 = .ok (.goto 7, 3) := by decide +kernel
theorem d_M_step_15 : decode prog_13_method_44_code 15 = .ok (.aload_n 0, 1) := by decide +kernel
theorem d_M_step_16 : decode prog_13_method_44_code 16 = .ok (.invokevirtual 311, 3) := by decide +kernel
theorem d_M_step_19 : decode prog_13_method_44_code 19 = .ok (.aload_n 0, 1) := by decide +kernel
theorem d_M_step_20 : decode prog_13_method_44_code 20 = .ok (.getfield 199, 3) := by decide +kernel
theorem d_M_step_23 : decode prog_13_method_44_code 23 = .ok (.iconst 1, 1) := by decide +kernel
theorem d_M_step_24 : decode prog_13_method_44_code 24 = .ok (.if_icmp .ne 18, 3) := by decide +kernel
theorem d_M_step_27 : decode prog_13_method_44_code 27 = .ok (.aload_n 0, 1) := by decide +kernel
theorem d_M_step_28 : decode prog_13_method_44_code 28 = .ok (.getfield 211, 3) := by decide +kernel
theorem d_M_step_31 : decode prog_13_method_44_code 31 = .ok (.ifCond .ne 11, 3) := by decide +kernel
theorem d_M_step_34 : decode prog_13_method_44_code 34 = .ok (.aload_n 0, 1) := by decide +kernel
theorem d_M_step_35 : decode prog_13_method_44_code 35 = .ok (.iconst 2, 1) := by decide +kernel
theorem d_M_step_36 : decode prog_13_method_44_code 36 = .ok (.putfield 199, 3) := by decide +kernel
theorem d_M_step_39 : decode prog_13_method_44_code 39 = .ok (.goto 23, 3) := by decide +kernel
theorem d_M_step_42 : decode prog_13_method_44_code 42 = .ok (.aload_n 0, 1) := by decide +kernel
theorem d_M_step_43 : decode prog_13_method_44_code 43 = .ok (.getfield 199, 3) := by decide +kernel
theorem d_M_step_46 : decode prog_13_method_44_code 46 = .ok (.iconst 3, 1) := by decide +kernel
theorem d_M_step_47 : decode prog_13_method_44_code 47 = .ok (.if_icmp .ne 15, 3) := by decide +kernel
theorem d_M_step_50 : decode prog_13_method_44_code 50 = .ok (.aload_n 0, 1) := by decide +kernel
theorem d_M_step_51 : decode prog_13_method_44_code 51 = .ok (.getfield 208, 3) := by decide +kernel
theorem d_M_step_54 : decode prog_13_method_44_code 54 = .ok (.ifCond .ne 8, 3) := by decide +kernel
theorem d_M_step_57 : decode prog_13_method_44_code 57 = .ok (.aload_n 0, 1) := by decide +kernel
theorem d_M_step_58 : decode prog_13_method_44_code 58 = .ok (.iconst 0, 1) := by decide +kernel
theorem d_M_step_59 : decode prog_13_method_44_code 59 = .ok (.invokevirtual 294, 3) := by decide +kernel
theorem d_M_step_62 : decode prog_13_method_44_code 62 = .ok (.return_, 1) := by decide +kernel
theorem d_M_run_0 : decode prog_13_method_45_code 0 = .ok (.aload_n 0, 1) := by decide +kernel
theorem d_M_run_1 : decode prog_13_method_45_code 1 = .ok (.getfield 199, 3) := by decide +kernel
theorem d_M_run_4 : decode prog_13_method_45_code 4 = .ok (.ifCond .eq 14, 3) := by decide +kernel
theorem d_M_run_7 : decode prog_13_method_45_code 7 = .ok (.iload_n 1, 1) := by decide +kernel
theorem d_M_run_8 : decode prog_13_method_45_code 8 = .ok (.iconst 1, 1) := by decide +kernel
theorem d_M_run_9 : decode prog_13_method_45_code 9 = .ok (.if_icmp .lt 9, 3) := by decide +kernel
theorem d_M_run_12 : decode prog_13_method_45_code 12 = .ok (.iload_n 1, 1) := by decide +kernel
theorem d_M_run_13 : decode prog_13_method_45_code 13 = .ok (.bipush 100, 2) := by decide +kernel
theorem d_M_run_15 : decode prog_13_method_45_code 15 = .ok (.if_icmp .le 5, 3) := by decide +kernel
theorem d_M_run_18 : decode prog_13_method_45_code 18 = .ok (.iconst (-1), 1) := by decide +kernel
theorem d_M_run_19 : decode prog_13_method_45_code 19 = .ok (.ireturn, 1) := by decide +kernel
theorem d_M_run_20 : decode prog_13_method_45_code 20 = .ok (.aload_n 0, 1) := by decide +kernel
theorem d_M_run_21 : decode prog_13_method_45_code 21 = .ok (.getfield 199, 3) := by decide +kernel
theorem d_M_run_24 : decode prog_13_method_45_code 24 = .ok (.iconst 2, 1) := by decide +kernel
theorem d_M_run_25 : decode prog_13_method_45_code 25 = .ok (.if_icmp .ne 15, 3) := by decide +kernel
theorem d_M_run_28 : decode prog_13_method_45_code 28 = .ok (.aload_n 0, 1) := by decide +kernel
theorem d_M_run_29 : decode prog_13_method_45_code 29 = .ok (.getfield 208, 3) := by decide +kernel
theorem d_M_run_32 : decode prog_13_method_45_code 32 = .ok (.ifCond .ne 8, 3) := by decide +kernel
theorem d_M_run_35 : decode prog_13_method_45_code 35 = .ok (.aload_n 0, 1) := by decide +kernel
theorem d_M_run_36 : decode prog_13_method_45_code 36 = .ok (.iconst 0, 1) := by decide +kernel
theorem d_M_run_37 : decode prog_13_method_45_code 37 = .ok (.invokevirtual 294, 3) := by decide +kernel
theorem d_M_run_40 : decode prog_13_method_45_code 40 = .ok (.iconst 0, 1) := by decide +kernel
theorem d_M_run_41 : decode prog_13_method_45_code 41 = .ok (.istore_n 2, 1) := by decide +kernel
theorem d_M_run_42 : decode prog_13_method_45_code 42 = .ok (.iload_n 2, 1) := by decide +kernel
theorem d_M_run_43 : decode prog_13_method_45_code 43 = .ok (.iload_n 1, 1) := by decide +kernel
theorem d_M_run_44 : decode prog_13_method_45_code 44 = .ok (.if_icmp .ge 31, 3) := by decide +kernel
theorem d_M_run_47 : decode prog_13_method_45_code 47 = .ok (.aload_n 0, 1) := by decide +kernel
theorem d_M_run_48 : decode prog_13_method_45_code 48 = .ok (.getfield 199, 3) := by decide +kernel
theorem d_M_run_51 : decode prog_13_method_45_code 51 = .ok (.iconst 4, 1) := by decide +kernel
theorem d_M_run_52 : decode prog_13_method_45_code 52 = .ok (.if_icmp .eq 23, 3) := by decide +kernel
theorem d_M_run_55 : decode prog_13_method_45_code 55 = .ok (.aload_n 0, 1) := by decide +kernel
theorem d_M_run_56 : decode prog_13_method_45_code 56 = .ok (.invokevirtual 314, 3) := by decide +kernel
theorem d_M_run_59 : decode prog_13_method_45_code 59 = .ok (.aload_n 0, 1) := by decide +kernel
theorem d_M_run_60 : decode prog_13_method_45_code 60 = .ok (.getfield 199, 3) := by decide +kernel
theorem d_M_run_63 : decode prog_13_method_45_code 63 = .ok (.iconst 2, 1) := by decide +kernel
theorem d_M_run_64 : decode prog_13_method_45_code 64 = .ok (.if_icmp .ne 5, 3) := by decide +kernel
theorem d_M_run_67 : decode prog_13_method_45_code 67 = .ok (.iconst 1, 1) := by decide +kernel
theorem d_M_run_68 : decode prog_13_method_45_code 68 = .ok (.ireturn, 1) := by decide +kernel
theorem d_M_run_69 : decode prog_13_method_45_code 69 = .ok (.iinc 2 1, 3) := by decide +kernel
theorem d_M_run_72 : decode prog_13_method_45_code 72 = .ok (.goto (-30), 3) := by decide +kernel
theorem d_M_run_75 : decode prog_13_method_45_code 75 = .ok (.aload_n 0, 1) := by decide +kernel
theorem d_M_run_76 : decode prog_13_method_45_code 76 = .ok (.getfield 199, 3) := by decide +kernel
theorem d_M_run_79 : decode prog_13_method_45_code 79 = .ok (.iconst 4, 1) := by decide +kernel
theorem d_M_run_80 : decode prog_13_method_45_code 80 = .ok (.if_icmp .ne 10, 3) := by decide +kernel
theorem d_M_run_83 : decode prog_13_method_45_code 83 = .ok (.aload_n 0, 1) := by decide +kernel
theorem d_M_run_84 : decode prog_13_method_45_code 84 = .ok (.getfield 288, 3) := by decide +kernel
theorem d_M_run_87 : decode prog_13_method_45_code 87 = .ok (.goto 4, 3) := by decide +kernel
theorem d_M_run_90 : decode prog_13_method_45_code 90 = .ok (.iconst 2, 1) := by decide +kernel
theorem d_M_run_91 : decode prog_13_method_45_code 91 = .ok (.ireturn, 1) := by decide +kernel
theorem d_M_later_0 : decode prog_13_method_49_code 0 = .ok (.aload_n 0, 1) := by decide +kernel
theorem d_M_later_1 : decode prog_13_method_49_code 1 = .ok (.getfield 95, 3) := by decide +kernel
theorem d_M_later_4 : decode prog_13_method_49_code 4 = .ok (.iload_n 1, 1) := by decide +kernel
theorem d_M_later_5 : decode prog_13_method_49_code 5 = .ok (.iload_n 2, 1) := by decide +kernel
theorem d_M_later_6 : decode prog_13_method_49_code 6 = .ok (.iastore, 1) := by decide +kernel
theorem d_M_later_7 : decode prog_13_method_49_code 7 = .ok (.aload_n 0, 1) := by decide +kernel
theorem d_M_later_8 : decode prog_13_method_49_code 8 = .ok (.getfield 95, 3) := by decide +kernel
theorem d_M_later_11 : decode prog_13_method_49_code 11 = .ok (.iload_n 1, 1) := by decide +kernel
theorem d_M_later_12 : decode prog_13_method_49_code 12 = .ok (.iconst 1, 1) := by decide +kernel
theorem d_M_later_13 : decode prog_13_method_49_code 13 = .ok (.iadd, 1) := by decide +kernel
theorem d_M_later_14 : decode prog_13_method_49_code 14 = .ok (.iload_n 3, 1) := by decide +kernel
theorem d_M_later_15 : decode prog_13_method_49_code 15 = .ok (.iastore, 1) := by decide +kernel
theorem d_M_later_16 : decode prog_13_method_49_code 16 = .ok (.aload_n 0, 1) := by decide +kernel
theorem d_M_later_17 : decode prog_13_method_49_code 17 = .ok (.getfield 95, 3) := by decide +kernel
theorem d_M_later_20 : decode prog_13_method_49_code 20 = .ok (.iload_n 1, 1) := by decide +kernel
theorem d_M_later_21 : decode prog_13_method_49_code 21 = .ok (.iconst 2, 1) := by decide +kernel
theorem d_M_later_22 : decode prog_13_method_49_code 22 = .ok (.iadd, 1) := by decide +kernel
theorem d_M_later_23 : decode prog_13_method_49_code 23 = .ok (.iload 4, 2) := by decide +kernel
theorem d_M_later_25 : decode prog_13_method_49_code 25 = .ok (.iastore, 1) := by decide +kernel
theorem d_M_later_26 : decode prog_13_method_49_code 26 = .ok (.iload_n 1, 1) := by decide +kernel
theorem d_M_later_27 : decode prog_13_method_49_code 27 = .ok (.iconst 3, 1) := by decide +kernel
theorem d_M_later_28 : decode prog_13_method_49_code 28 = .ok (.iadd, 1) := by decide +kernel
theorem d_M_later_29 : decode prog_13_method_49_code 29 = .ok (.ireturn, 1) := by decide +kernel
theorem d_M_put_0 : decode prog_13_method_46_code 0 = .ok (.aload_n 0, 1) := by decide +kernel
theorem d_M_put_1 : decode prog_13_method_46_code 1 = .ok (.getfield 98, 3) := by decide +kernel
theorem d_M_put_4 : decode prog_13_method_46_code 4 = .ok (.aload_n 0, 1) := by decide +kernel
theorem d_M_put_5 : decode prog_13_method_46_code 5 = .ok (.getfield 317, 3) := by decide +kernel
theorem d_M_put_8 : decode prog_13_method_46_code 8 = .ok (.iload_n 1, 1) := by decide +kernel
theorem d_M_put_9 : decode prog_13_method_46_code 9 = .ok (.iastore, 1) := by decide +kernel
theorem d_M_put_10 : decode prog_13_method_46_code 10 = .ok (.aload_n 0, 1) := by decide +kernel
theorem d_M_put_11 : decode prog_13_method_46_code 11 = .ok (.aload_n 0, 1) := by decide +kernel
theorem d_M_put_12 : decode prog_13_method_46_code 12 = .ok (.getfield 317, 3) := by decide +kernel
theorem d_M_put_15 : decode prog_13_method_46_code 15 = .ok (.iconst 1, 1) := by decide +kernel
theorem d_M_put_16 : decode prog_13_method_46_code 16 = .ok (.iadd, 1) := by decide +kernel
theorem d_M_put_17 : decode prog_13_method_46_code 17 = .ok (.putfield 317, 3) := by decide +kernel
theorem d_M_put_20 : decode prog_13_method_46_code 20 = .ok (.return_, 1) := by decide +kernel
theorem d_M_putVariable_0 : decode prog_13_method_48_code 0 = .ok (.aload_n 0, 1) := by decide +kernel
theorem d_M_putVariable_1 : decode prog_13_method_48_code 1 = .ok (.getfield 101, 3) := by decide +kernel
theorem d_M_putVariable_4 : decode prog_13_method_48_code 4 = .ok (.iload_n 1, 1) := by decide +kernel
theorem d_M_putVariable_5 : decode prog_13_method_48_code 5 = .ok (.iaload, 1) := by decide +kernel
theorem d_M_putVariable_6 : decode prog_13_method_48_code 6 = .ok (.ifCond .ge 23, 3) := by decide +kernel
theorem d_M_putVariable_9 : decode prog_13_method_48_code 9 = .ok (.aload_n 0, 1) := by decide +kernel
theorem d_M_putVariable_10 : decode prog_13_method_48_code 10 = .ok (.getfield 101, 3) := by decide +kernel
theorem d_M_putVariable_13 : decode prog_13_method_48_code 13 = .ok (.iload_n 1, 1) := by decide +kernel
theorem d_M_putVariable_14 : decode prog_13_method_48_code 14 = .ok (.aload_n 0, 1) := by decide +kernel
theorem d_M_putVariable_15 : decode prog_13_method_48_code 15 = .ok (.getfield 323, 3) := by decide +kernel
theorem d_M_putVariable_18 : decode prog_13_method_48_code 18 = .ok (.iastore, 1) := by decide +kernel
theorem d_M_putVariable_19 : decode prog_13_method_48_code 19 = .ok (.aload_n 0, 1) := by decide +kernel
theorem d_M_putVariable_20 : decode prog_13_method_48_code 20 = .ok (.aload_n 0, 1) := by decide +kernel
theorem d_M_putVariable_21 : decode prog_13_method_48_code 21 = .ok (.getfield 323, 3) := by decide +kernel
theorem d_M_putVariable_24 : decode prog_13_method_48_code 24 = .ok (.iconst 1, 1) := by decide +kernel
theorem d_M_putVariable_25 : decode prog_13_method_48_code 25 = .ok (.iadd, 1) := by decide +kernel
theorem d_M_putVariable_26 : decode prog_13_method_48_code 26 = .ok (.putfield 323, 3) := by decide +kernel
theorem d_M_putVariable_29 : decode prog_13_method_48_code 29 = .ok (.aload_n 0, 1) := by decide +kernel
theorem d_M_putVariable_30 : decode prog_13_method_48_code 30 = .ok (.bipush 95, 2) := by decide +kernel
theorem d_M_putVariable_32 : decode prog_13_method_48_code 32 = .ok (.invokevirtual 320, 3) := by decide +kernel
theorem d_M_putVariable_35 : decode prog_13_method_48_code 35 = .ok (.aload_n 0, 1) := by decide +kernel
theorem d_M_putVariable_36 : decode prog_13_method_48_code 36 = .ok (.getfield 101, 3) := by decide +kernel
theorem d_M_putVariable_39 : decode prog_13_method_48_code 39 = .ok (.iload_n 1, 1) := by decide +kernel
theorem d_M_putVariable_40 : decode prog_13_method_48_code 40 = .ok (.iaload, 1) := by decide +kernel
theorem d_M_putVariable_41 : decode prog_13_method_48_code 41 = .ok (.bipush 99, 2) := by decide +kernel
theorem d_M_putVariable_43 : decode prog_13_method_48_code 43 = .ok (.if_icmp .le 19, 3) := by decide +kernel
theorem d_M_putVariable_46 : decode prog_13_method_48_code 46 = .ok (.aload_n 0, 1) := by decide +kernel
theorem d_M_putVariable_47 : decode prog_13_method_48_code 47 = .ok (.bipush 48, 2) := by decide +kernel
theorem d_M_putVariable_49 : decode prog_13_method_48_code 49 = .ok (.aload_n 0, 1) := by decide +kernel
theorem d_M_putVariable_50 : decode prog_13_method_48_code 50 = .ok (.getfield 101, 3) := by decide +kernel
theorem d_M_putVariable_53 : decode prog_13_method_48_code 53 = .ok (.iload_n 1, 1) := by decide +kernel
theorem d_M_putVariable_54 : decode prog_13_method_48_code 54 = .ok (.iaload, 1) := by decide +kernel
theorem d_M_putVariable_55 : decode prog_13_method_48_code 55 = .ok (.bipush 100, 2) := by decide +kernel
theorem d_M_putVariable_57 : decode prog_13_method_48_code 57 = .ok (.idiv, 1) := by decide +kernel
theorem d_M_putVariable_58 : decode prog_13_method_48_code 58 = .ok (.iadd, 1) := by decide +kernel
theorem d_M_putVariable_59 : decode prog_13_method_48_code 59 = .ok (.invokevirtual 320, 3) := by decide +kernel
theorem d_M_putVariable_62 : decode prog_13_method_48_code 62 = .ok (.aload_n 0, 1) := by decide +kernel
theorem d_M_putVariable_63 : decode prog_13_method_48_code 63 = .ok (.getfield 101, 3) := by decide +kernel
theorem d_M_putVariable_66 : decode prog_13_method_48_code 66 = .ok (.iload_n 1, 1) := by decide +kernel
theorem d_M_putVariable_67 : decode prog_13_method_48_code 67 = .ok (.iaload, 1) := by decide +kernel
theorem d_M_putVariable_68 : decode prog_13_method_48_code 68 = .ok (.bipush 9, 2) := by decide +kernel
theorem d_M_putVariable_70 : decode prog_13_method_48_code 70 = .ok (.if_icmp .le 22, 3) := by decide +kernel
theorem d_M_putVariable_73 : decode prog_13_method_48_code 73 = .ok (.aload_n 0, 1) := by decide +kernel
theorem d_M_putVariable_74 : decode prog_13_method_48_code 74 = .ok (.bipush 48, 2) := by decide +kernel
theorem d_M_putVariable_76 : decode prog_13_method_48_code 76 = .ok (.aload_n 0, 1) := by decide +kernel
theorem d_M_putVariable_77 : decode prog_13_method_48_code 77 = .ok (.getfield 101, 3) := by decide +kernel
theorem d_M_putVariable_80 : decode prog_13_method_48_code 80 = .ok (.iload_n 1, 1) := by decide +kernel
theorem d_M_putVariable_81 : decode prog_13_method_48_code 81 = .ok (.iaload, 1) := by decide +kernel
theorem d_M_putVariable_82 : decode prog_13_method_48_code 82 = .ok (.bipush 10, 2) := by decide +kernel
theorem d_M_putVariable_84 : decode prog_13_method_48_code 84 = .ok (.idiv, 1) := by decide +kernel
theorem d_M_putVariable_85 : decode prog_13_method_48_code 85 = .ok (.bipush 10, 2) := by decide +kernel
theorem d_M_putVariable_87 : decode prog_13_method_48_code 87 = .ok (.irem, 1) := by decide +kernel
theorem d_M_putVariable_88 : decode prog_13_method_48_code 88 = .ok (.iadd, 1) := by decide +kernel
theorem d_M_putVariable_89 : decode prog_13_method_48_code 89 = .ok (.invokevirtual 320, 3) := by decide +kernel
theorem d_M_putVariable_92 : decode prog_13_method_48_code 92 = .ok (.aload_n 0, 1) := by decide +kernel
theorem d_M_putVariable_93 : decode prog_13_method_48_code 93 = .ok (.bipush 48, 2) := by decide +kernel
theorem d_M_putVariable_95 : decode prog_13_method_48_code 95 = .ok (.aload_n 0, 1) := by decide +kernel
theorem d_M_putVariable_96 : decode prog_13_method_48_code 96 = .ok (.getfield 101, 3) := by decide +kernel
theorem d_M_putVariable_99 : decode prog_13_method_48_code 99 = .ok (.iload_n 1, 1) := by decide +kernel
theorem d_M_putVariable_100 : decode prog_13_method_48_code 100 = .ok (.iaload, 1) := by decide +kernel
theorem d_M_putVariable_101 : decode prog_13_method_48_code 101 = .ok (.bipush 10, 2) := by decide +kernel
theorem d_M_putVariable_103 : decode prog_13_method_48_code 103 = .ok (.irem, 1) := by decide +kernel
theorem d_M_putVariable_104 : decode prog_13_method_48_code 104 = .ok (.iadd, 1) := by decide +kernel
theorem d_M_putVariable_105 : decode prog_13_method_48_code 105 = .ok (.invokevirtual 320, 3) := by decide +kernel
theorem d_M_putVariable_108 : decode prog_13_method_48_code 108 = .ok (.return_, 1) := by decide +kernel
theorem d_M_putWord_0 : decode prog_13_method_47_code 0 = .ok (.iconst 0, 1) := by decide +kernel
theorem d_M_putWord_1 : decode prog_13_method_47_code 1 = .ok (.istore_n 3, 1) := by decide +kernel
theorem d_M_putWord_2 : decode prog_13_method_47_code 2 = .ok (.iload_n 3, 1) := by decide +kernel
theorem d_M_putWord_3 : decode prog_13_method_47_code 3 = .ok (.bipush 8, 2) := by decide +kernel
theorem d_M_putWord_5 : decode prog_13_method_47_code 5 = .ok (.if_icmp .ge 33, 3) := by decide +kernel
theorem d_M_putWord_8 : decode prog_13_method_47_code 8 = .ok (.lload_n 1, 1) := by decide +kernel
theorem d_M_putWord_9 : decode prog_13_method_47_code 9 = .ok (.bipush 8, 2) := by decide +kernel
theorem d_M_putWord_11 : decode prog_13_method_47_code 11 = .ok (.iload_n 3, 1) := by decide +kernel
theorem d_M_putWord_12 : decode prog_13_method_47_code 12 = .ok (.imul, 1) := by decide +kernel
theorem d_M_putWord_13 : decode prog_13_method_47_code 13 = .ok (.lshr, 1) := by decide +kernel
theorem d_M_putWord_14 : decode prog_13_method_47_code 14 = .ok (.ldc2_w 108, 3) := by decide +kernel
theorem d_M_putWord_17 : decode prog_13_method_47_code 17 = .ok (.land, 1) := by decide +kernel
theorem d_M_putWord_18 : decode prog_13_method_47_code 18 = .ok (.l2i, 1) := by decide +kernel
theorem d_M_putWord_19 : decode prog_13_method_47_code 19 = .ok (.istore 4, 2) := by decide +kernel
theorem d_M_putWord_21 : decode prog_13_method_47_code 21 = .ok (.iload 4, 2) := by decide +kernel
theorem d_M_putWord_23 : decode prog_13_method_47_code 23 = .ok (.ifCond .eq 9, 3) := by decide +kernel
theorem d_M_putWord_26 : decode prog_13_method_47_code 26 = .ok (.aload_n 0, 1) := by decide +kernel
theorem d_M_putWord_27 : decode prog_13_method_47_code 27 = .ok (.iload 4, 2) := by decide +kernel
theorem d_M_putWord_29 : decode prog_13_method_47_code 29 = .ok (.invokevirtual 320, 3) := by decide +kernel
theorem d_M_putWord_32 : decode prog_13_method_47_code 32 = .ok (.iinc 3 1, 3) := by decide +kernel
theorem d_M_putWord_35 : decode prog_13_method_47_code 35 = .ok (.goto (-33), 3) := by decide +kernel
theorem d_M_putWord_38 : decode prog_13_method_47_code 38 = .ok (.return_, 1) := by decide +kernel
theorem d_M_writeTerm_0 : decode prog_13_method_50_code 0 = .ok (.aload_n 0, 1) := by decide +kernel
theorem d_M_writeTerm_1 : decode prog_13_method_50_code 1 = .ok (.getfield 50, 3) := by decide +kernel
theorem d_M_writeTerm_4 : decode prog_13_method_50_code 4 = .ok (.iload_n 1, 1) := by decide +kernel
theorem d_M_writeTerm_5 : decode prog_13_method_50_code 5 = .ok (.iaload, 1) := by decide +kernel
theorem d_M_writeTerm_6 : decode prog_13_method_50_code 6 = .ok (.iconst (-1), 1) := by decide +kernel
theorem d_M_writeTerm_7 : decode prog_13_method_50_code 7 = .ok (.if_icmp .ne 21, 3) := by decide +kernel
theorem d_M_writeTerm_10 : decode prog_13_method_50_code 10 = .ok (.aload_n 0, 1) := by decide +kernel
theorem d_M_writeTerm_11 : decode prog_13_method_50_code 11 = .ok (.bipush 8, 2) := by decide +kernel
theorem d_M_writeTerm_13 : decode prog_13_method_50_code 13 = .ok (.iload_n 2, 1) := by decide +kernel
theorem d_M_writeTerm_14 : decode prog_13_method_50_code 14 = .ok (.imul, 1) := by decide +kernel
theorem d_M_writeTerm_15 : decode prog_13_method_50_code 15 = .ok (.aload_n 0, 1) := by decide +kernel
theorem d_M_writeTerm_16 : decode prog_13_method_50_code 16 = .ok (.getfield 47, 3) := by decide +kernel
theorem d_M_writeTerm_19 : decode prog_13_method_50_code 19 = .ok (.iload_n 1, 1) := by decide +kernel
theorem d_M_writeTerm_20 : decode prog_13_method_50_code 20 = .ok (.laload, 1) := by decide +kernel
theorem d_M_writeTerm_21 : decode prog_13_method_50_code 21 = .ok (.l2i, 1) := by decide +kernel
theorem d_M_writeTerm_22 : decode prog_13_method_50_code 22 = .ok (.iadd, 1) := by decide +kernel
theorem d_M_writeTerm_23 : decode prog_13_method_50_code 23 = .ok (.invokevirtual 326, 3) := by decide +kernel
theorem d_M_writeTerm_26 : decode prog_13_method_50_code 26 = .ok (.iload_n 3, 1) := by decide +kernel
theorem d_M_writeTerm_27 : decode prog_13_method_50_code 27 = .ok (.ireturn, 1) := by decide +kernel
theorem d_M_writeTerm_28 : decode prog_13_method_50_code 28 = .ok (.iload_n 3, 1) := by decide +kernel
theorem d_M_writeTerm_29 : decode prog_13_method_50_code 29 = .ok (.istore 4, 2) := by decide +kernel
theorem d_M_writeTerm_31 : decode prog_13_method_50_code 31 = .ok (.aload_n 0, 1) := by decide +kernel
theorem d_M_writeTerm_32 : decode prog_13_method_50_code 32 = .ok (.getfield 47, 3) := by decide +kernel
theorem d_M_writeTerm_35 : decode prog_13_method_50_code 35 = .ok (.iload_n 1, 1) := by decide +kernel
theorem d_M_writeTerm_36 : decode prog_13_method_50_code 36 = .ok (.laload, 1) := by decide +kernel
theorem d_M_writeTerm_37 : decode prog_13_method_50_code 37 = .ok (.lconst 1, 1) := by decide +kernel
theorem d_M_writeTerm_38 : decode prog_13_method_50_code 38 = .ok (.lcmp, 1) := by decide +kernel
theorem d_M_writeTerm_39 : decode prog_13_method_50_code 39 = .ok (.ifCond .ne 38, 3) := by decide +kernel
theorem d_M_writeTerm_42 : decode prog_13_method_50_code 42 = .ok (.aload_n 0, 1) := by decide +kernel
theorem d_M_writeTerm_43 : decode prog_13_method_50_code 43 = .ok (.bipush 91, 2) := by decide +kernel
theorem d_M_writeTerm_45 : decode prog_13_method_50_code 45 = .ok (.invokevirtual 320, 3) := by decide +kernel
theorem d_M_writeTerm_48 : decode prog_13_method_50_code 48 = .ok (.aload_n 0, 1) := by decide +kernel
theorem d_M_writeTerm_49 : decode prog_13_method_50_code 49 = .ok (.iload 4, 2) := by decide +kernel
theorem d_M_writeTerm_51 : decode prog_13_method_50_code 51 = .ok (.iconst 2, 1) := by decide +kernel
theorem d_M_writeTerm_52 : decode prog_13_method_50_code 52 = .ok (.aload_n 0, 1) := by decide +kernel
theorem d_M_writeTerm_53 : decode prog_13_method_50_code 53 = .ok (.iload_n 1, 1) := by decide +kernel
theorem d_M_writeTerm_54 : decode prog_13_method_50_code 54 = .ok (.iconst 1, 1) := by decide +kernel
theorem d_M_writeTerm_55 : decode prog_13_method_50_code 55 = .ok (.iadd, 1) := by decide +kernel
theorem d_M_writeTerm_56 : decode prog_13_method_50_code 56 = .ok (.invokevirtual 247, 3) := by decide +kernel
theorem d_M_writeTerm_59 : decode prog_13_method_50_code 59 = .ok (.iload_n 2, 1) := by decide +kernel
theorem d_M_writeTerm_60 : decode prog_13_method_50_code 60 = .ok (.invokevirtual 329, 3) := by decide +kernel
theorem d_M_writeTerm_63 : decode prog_13_method_50_code 63 = .ok (.istore 4, 2) := by decide +kernel
theorem d_M_writeTerm_65 : decode prog_13_method_50_code 65 = .ok (.aload_n 0, 1) := by decide +kernel
theorem d_M_writeTerm_66 : decode prog_13_method_50_code 66 = .ok (.iload 4, 2) := by decide +kernel
theorem d_M_writeTerm_68 : decode prog_13_method_50_code 68 = .ok (.iconst 0, 1) := by decide +kernel
theorem d_M_writeTerm_69 : decode prog_13_method_50_code 69 = .ok (.iload_n 1, 1) := by decide +kernel
theorem d_M_writeTerm_70 : decode prog_13_method_50_code 70 = .ok (.iconst 1, 1) := by decide +kernel
theorem d_M_writeTerm_71 : decode prog_13_method_50_code 71 = .ok (.iadd, 1) := by decide +kernel
theorem d_M_writeTerm_72 : decode prog_13_method_50_code 72 = .ok (.iload_n 2, 1) := by decide +kernel
theorem d_M_writeTerm_73 : decode prog_13_method_50_code 73 = .ok (.invokevirtual 329, 3) := by decide +kernel
theorem d_M_writeTerm_76 : decode prog_13_method_50_code 76 = .ok (.ireturn, 1) := by decide +kernel
theorem d_M_writeTerm_77 : decode prog_13_method_50_code 77 = .ok (.aload_n 0, 1) := by decide +kernel
theorem d_M_writeTerm_78 : decode prog_13_method_50_code 78 = .ok (.getfield 47, 3) := by decide +kernel
theorem d_M_writeTerm_81 : decode prog_13_method_50_code 81 = .ok (.iload_n 1, 1) := by decide +kernel
theorem d_M_writeTerm_82 : decode prog_13_method_50_code 82 = .ok (.laload, 1) := by decide +kernel
theorem d_M_writeTerm_83 : decode prog_13_method_50_code 83 = .ok (.ldc2_w 168, 3) := by decide +kernel
theorem d_M_writeTerm_86 : decode prog_13_method_50_code 86 = .ok (.lcmp, 1) := by decide +kernel
theorem d_M_writeTerm_87 : decode prog_13_method_50_code 87 = .ok (.ifCond .ne 18, 3) := by decide +kernel
theorem d_M_writeTerm_90 : decode prog_13_method_50_code 90 = .ok (.aload_n 0, 1) := by decide +kernel
theorem d_M_writeTerm_91 : decode prog_13_method_50_code 91 = .ok (.bipush 91, 2) := by decide +kernel
theorem d_M_writeTerm_93 : decode prog_13_method_50_code 93 = .ok (.invokevirtual 320, 3) := by decide +kernel
theorem d_M_writeTerm_96 : decode prog_13_method_50_code 96 = .ok (.aload_n 0, 1) := by decide +kernel
theorem d_M_writeTerm_97 : decode prog_13_method_50_code 97 = .ok (.bipush 93, 2) := by decide +kernel
theorem d_M_writeTerm_99 : decode prog_13_method_50_code 99 = .ok (.invokevirtual 320, 3) := by decide +kernel
theorem d_M_writeTerm_102 : decode prog_13_method_50_code 102 = .ok (.iload 4, 2) := by decide +kernel
theorem d_M_writeTerm_104 : decode prog_13_method_50_code 104 = .ok (.ireturn, 1) := by decide +kernel
theorem d_M_writeTerm_105 : decode prog_13_method_50_code 105 = .ok (.aload_n 0, 1) := by decide +kernel
theorem d_M_writeTerm_106 : decode prog_13_method_50_code 106 = .ok (.aload_n 0, 1) := by decide +kernel
theorem d_M_writeTerm_107 : decode prog_13_method_50_code 107 = .ok (.getfield 47, 3) := by decide +kernel
theorem d_M_writeTerm_110 : decode prog_13_method_50_code 110 = .ok (.iload_n 1, 1) := by decide +kernel
theorem d_M_writeTerm_111 : decode prog_13_method_50_code 111 = .ok (.laload, 1) := by decide +kernel
theorem d_M_writeTerm_112 : decode prog_13_method_50_code 112 = .ok (.invokevirtual 333, 3) := by decide +kernel
theorem d_M_writeTerm_115 : decode prog_13_method_50_code 115 = .ok (.aload_n 0, 1) := by decide +kernel
theorem d_M_writeTerm_116 : decode prog_13_method_50_code 116 = .ok (.getfield 50, 3) := by decide +kernel
theorem d_M_writeTerm_119 : decode prog_13_method_50_code 119 = .ok (.iload_n 1, 1) := by decide +kernel
theorem d_M_writeTerm_120 : decode prog_13_method_50_code 120 = .ok (.iaload, 1) := by decide +kernel
theorem d_M_writeTerm_121 : decode prog_13_method_50_code 121 = .ok (.ifCond .ne 6, 3) := by decide +kernel
theorem d_M_writeTerm_124 : decode prog_13_method_50_code 124 = .ok (.iload 4, 2) := by decide +kernel
theorem d_M_writeTerm_126 : decode prog_13_method_50_code 126 = .ok (.ireturn, 1) := by decide +kernel
theorem d_M_writeTerm_127 : decode prog_13_method_50_code 127 = .ok (.aload_n 0, 1) := by decide +kernel
theorem d_M_writeTerm_128 : decode prog_13_method_50_code 128 = .ok (.bipush 40, 2) := by decide +kernel
theorem d_M_writeTerm_130 : decode prog_13_method_50_code 130 = .ok (.invokevirtual 320, 3) := by decide +kernel
theorem d_M_writeTerm_133 : decode prog_13_method_50_code 133 = .ok (.aload_n 0, 1) := by decide +kernel
theorem d_M_writeTerm_134 : decode prog_13_method_50_code 134 = .ok (.iload 4, 2) := by decide +kernel
theorem d_M_writeTerm_136 : decode prog_13_method_50_code 136 = .ok (.iconst 1, 1) := by decide +kernel
theorem d_M_writeTerm_137 : decode prog_13_method_50_code 137 = .ok (.bipush 41, 2) := by decide +kernel
theorem d_M_writeTerm_139 : decode prog_13_method_50_code 139 = .ok (.iconst 0, 1) := by decide +kernel
theorem d_M_writeTerm_140 : decode prog_13_method_50_code 140 = .ok (.invokevirtual 329, 3) := by decide +kernel
theorem d_M_writeTerm_143 : decode prog_13_method_50_code 143 = .ok (.istore 4, 2) := by decide +kernel
theorem d_M_writeTerm_145 : decode prog_13_method_50_code 145 = .ok (.aload_n 0, 1) := by decide +kernel
theorem d_M_writeTerm_146 : decode prog_13_method_50_code 146 = .ok (.getfield 50, 3) := by decide +kernel
theorem d_M_writeTerm_149 : decode prog_13_method_50_code 149 = .ok (.iload_n 1, 1) := by decide +kernel
theorem d_M_writeTerm_150 : decode prog_13_method_50_code 150 = .ok (.iaload, 1) := by decide +kernel
theorem d_M_writeTerm_151 : decode prog_13_method_50_code 151 = .ok (.iconst 1, 1) := by decide +kernel
theorem d_M_writeTerm_152 : decode prog_13_method_50_code 152 = .ok (.isub, 1) := by decide +kernel
theorem d_M_writeTerm_153 : decode prog_13_method_50_code 153 = .ok (.istore 5, 2) := by decide +kernel
theorem d_M_writeTerm_155 : decode prog_13_method_50_code 155 = .ok (.iload 5, 2) := by decide +kernel
theorem d_M_writeTerm_157 : decode prog_13_method_50_code 157 = .ok (.ifCond .lt 72, 3) := by decide +kernel
theorem d_M_writeTerm_160 : decode prog_13_method_50_code 160 = .ok (.iload_n 1, 1) := by decide +kernel
theorem d_M_writeTerm_161 : decode prog_13_method_50_code 161 = .ok (.iconst 1, 1) := by decide +kernel
theorem d_M_writeTerm_162 : decode prog_13_method_50_code 162 = .ok (.iadd, 1) := by decide +kernel
theorem d_M_writeTerm_163 : decode prog_13_method_50_code 163 = .ok (.istore 6, 2) := by decide +kernel
theorem d_M_writeTerm_165 : decode prog_13_method_50_code 165 = .ok (.iconst 0, 1) := by decide +kernel
theorem d_M_writeTerm_166 : decode prog_13_method_50_code 166 = .ok (.istore 7, 2) := by decide +kernel
theorem d_M_writeTerm_168 : decode prog_13_method_50_code 168 = .ok (.iload 7, 2) := by decide +kernel
theorem d_M_writeTerm_170 : decode prog_13_method_50_code 170 = .ok (.iload 5, 2) := by decide +kernel
theorem d_M_writeTerm_172 : decode prog_13_method_50_code 172 = .ok (.if_icmp .ge 17, 3) := by decide +kernel
theorem d_M_writeTerm_175 : decode prog_13_method_50_code 175 = .ok (.aload_n 0, 1) := by decide +kernel
theorem d_M_writeTerm_176 : decode prog_13_method_50_code 176 = .ok (.iload 6, 2) := by decide +kernel
theorem d_M_writeTerm_178 : decode prog_13_method_50_code 178 = .ok (.invokevirtual 247, 3) := by decide +kernel
theorem d_M_writeTerm_181 : decode prog_13_method_50_code 181 = .ok (.istore 6, 2) := by decide +kernel
theorem d_M_writeTerm_183 : decode prog_13_method_50_code 183 = .ok (.iinc 7 1, 3) := by decide +kernel
theorem d_M_writeTerm_186 : decode prog_13_method_50_code 186 = .ok (.goto (-18), 3) := by decide +kernel
theorem d_M_writeTerm_189 : decode prog_13_method_50_code 189 = .ok (.aload_n 0, 1) := by decide +kernel
theorem d_M_writeTerm_190 : decode prog_13_method_50_code 190 = .ok (.iload 4, 2) := by decide +kernel
theorem d_M_writeTerm_192 : decode prog_13_method_50_code 192 = .ok (.iconst 0, 1) := by decide +kernel
theorem d_M_writeTerm_193 : decode prog_13_method_50_code 193 = .ok (.iload 6, 2) := by decide +kernel
theorem d_M_writeTerm_195 : decode prog_13_method_50_code 195 = .ok (.iload_n 2, 1) := by decide +kernel
theorem d_M_writeTerm_196 : decode prog_13_method_50_code 196 = .ok (.invokevirtual 329, 3) := by decide +kernel
theorem d_M_writeTerm_199 : decode prog_13_method_50_code 199 = .ok (.istore 4, 2) := by decide +kernel
theorem d_M_writeTerm_201 : decode prog_13_method_50_code 201 = .ok (.iload 5, 2) := by decide +kernel
theorem d_M_writeTerm_203 : decode prog_13_method_50_code 203 = .ok (.ifCond .le 16, 3) := by decide +kernel
theorem d_M_writeTerm_206 : decode prog_13_method_50_code 206 = .ok (.aload_n 0, 1) := by decide +kernel
theorem d_M_writeTerm_207 : decode prog_13_method_50_code 207 = .ok (.iload 4, 2) := by decide +kernel
theorem d_M_writeTerm_209 : decode prog_13_method_50_code 209 = .ok (.iconst 1, 1) := by decide +kernel
theorem d_M_writeTerm_210 : decode prog_13_method_50_code 210 = .ok (.bipush 44, 2) := by decide +kernel
theorem d_M_writeTerm_212 : decode prog_13_method_50_code 212 = .ok (.iconst 0, 1) := by decide +kernel
theorem d_M_writeTerm_213 : decode prog_13_method_50_code 213 = .ok (.invokevirtual 329, 3) := by decide +kernel
theorem d_M_writeTerm_216 : decode prog_13_method_50_code 216 = .ok (.goto 5, 3) := by decide +kernel
theorem d_M_writeTerm_219 : decode prog_13_method_50_code 219 = .ok (.iload 4, 2) := by decide +kernel
theorem d_M_writeTerm_221 : decode prog_13_method_50_code 221 = .ok (.istore 4, 2) := by decide +kernel
theorem d_M_writeTerm_223 : decode prog_13_method_50_code 223 = .ok (.iinc 5 (-1), 3) := by decide +kernel
theorem d_M_writeTerm_226 : decode prog_13_method_50_code 226 = .ok (.goto (-71), 3) := by decide +kernel
theorem d_M_writeTerm_229 : decode prog_13_method_50_code 229 = .ok (.iload 4, 2) := by decide +kernel
theorem d_M_writeTerm_231 : decode prog_13_method_50_code 231 = .ok (.ireturn, 1) := by decide +kernel
theorem d_M_writeRest_0 : decode prog_13_method_51_code 0 = .ok (.aload_n 0, 1) := by decide +kernel
theorem d_M_writeRest_1 : decode prog_13_method_51_code 1 = .ok (.getfield 50, 3) := by decide +kernel
theorem d_M_writeRest_4 : decode prog_13_method_51_code 4 = .ok (.iload_n 1, 1) := by decide +kernel
theorem d_M_writeRest_5 : decode prog_13_method_51_code 5 = .ok (.iaload, 1) := by decide +kernel
theorem d_M_writeRest_6 : decode prog_13_method_51_code 6 = .ok (.ifCond .ne 24, 3) := by decide +kernel
theorem d_M_writeRest_9 : decode prog_13_method_51_code 9 = .ok (.aload_n 0, 1) := by decide +kernel
theorem d_M_writeRest_10 : decode prog_13_method_51_code 10 = .ok (.getfield 47, 3) := by decide +kernel
theorem d_M_writeRest_13 : decode prog_13_method_51_code 13 = .ok (.iload_n 1, 1) := by decide +kernel
theorem d_M_writeRest_14 : decode prog_13_method_51_code 14 = .ok (.laload, 1) := by decide +kernel
theorem d_M_writeRest_15 : decode prog_13_method_51_code 15 = .ok (.ldc2_w 168, 3) := by decide +kernel
theorem d_M_writeRest_18 : decode prog_13_method_51_code 18 = .ok (.lcmp, 1) := by decide +kernel
theorem d_M_writeRest_19 : decode prog_13_method_51_code 19 = .ok (.ifCond .ne 11, 3) := by decide +kernel
theorem d_M_writeRest_22 : decode prog_13_method_51_code 22 = .ok (.aload_n 0, 1) := by decide +kernel
theorem d_M_writeRest_23 : decode prog_13_method_51_code 23 = .ok (.bipush 93, 2) := by decide +kernel
theorem d_M_writeRest_25 : decode prog_13_method_51_code 25 = .ok (.invokevirtual 320, 3) := by decide +kernel
theorem d_M_writeRest_28 : decode prog_13_method_51_code 28 = .ok (.iload_n 3, 1) := by decide +kernel
theorem d_M_writeRest_29 : decode prog_13_method_51_code 29 = .ok (.ireturn, 1) := by decide +kernel
theorem d_M_writeRest_30 : decode prog_13_method_51_code 30 = .ok (.aload_n 0, 1) := by decide +kernel
theorem d_M_writeRest_31 : decode prog_13_method_51_code 31 = .ok (.getfield 50, 3) := by decide +kernel
theorem d_M_writeRest_34 : decode prog_13_method_51_code 34 = .ok (.iload_n 1, 1) := by decide +kernel
theorem d_M_writeRest_35 : decode prog_13_method_51_code 35 = .ok (.iaload, 1) := by decide +kernel
theorem d_M_writeRest_36 : decode prog_13_method_51_code 36 = .ok (.iconst 2, 1) := by decide +kernel
theorem d_M_writeRest_37 : decode prog_13_method_51_code 37 = .ok (.if_icmp .ne 48, 3) := by decide +kernel
theorem d_M_writeRest_40 : decode prog_13_method_51_code 40 = .ok (.aload_n 0, 1) := by decide +kernel
theorem d_M_writeRest_41 : decode prog_13_method_51_code 41 = .ok (.getfield 47, 3) := by decide +kernel
theorem d_M_writeRest_44 : decode prog_13_method_51_code 44 = .ok (.iload_n 1, 1) := by decide +kernel
theorem d_M_writeRest_45 : decode prog_13_method_51_code 45 = .ok (.laload, 1) := by decide +kernel
theorem d_M_writeRest_46 : decode prog_13_method_51_code 46 = .ok (.lconst 1, 1) := by decide +kernel
theorem d_M_writeRest_47 : decode prog_13_method_51_code 47 = .ok (.lcmp, 1) := by decide +kernel
theorem d_M_writeRest_48 : decode prog_13_method_51_code 48 = .ok (.ifCond .ne 37, 3) := by decide +kernel
theorem d_M_writeRest_51 : decode prog_13_method_51_code 51 = .ok (.aload_n 0, 1) := by decide +kernel
theorem d_M_writeRest_52 : decode prog_13_method_51_code 52 = .ok (.bipush 44, 2) := by decide +kernel
theorem d_M_writeRest_54 : decode prog_13_method_51_code 54 = .ok (.invokevirtual 320, 3) := by decide +kernel
theorem d_M_writeRest_57 : decode prog_13_method_51_code 57 = .ok (.aload_n 0, 1) := by decide +kernel
theorem d_M_writeRest_58 : decode prog_13_method_51_code 58 = .ok (.iload_n 3, 1) := by decide +kernel
theorem d_M_writeRest_59 : decode prog_13_method_51_code 59 = .ok (.iconst 2, 1) := by decide +kernel
theorem d_M_writeRest_60 : decode prog_13_method_51_code 60 = .ok (.aload_n 0, 1) := by decide +kernel
theorem d_M_writeRest_61 : decode prog_13_method_51_code 61 = .ok (.iload_n 1, 1) := by decide +kernel
theorem d_M_writeRest_62 : decode prog_13_method_51_code 62 = .ok (.iconst 1, 1) := by decide +kernel
theorem d_M_writeRest_63 : decode prog_13_method_51_code 63 = .ok (.iadd, 1) := by decide +kernel
theorem d_M_writeRest_64 : decode prog_13_method_51_code 64 = .ok (.invokevirtual 247, 3) := by decide +kernel
theorem d_M_writeRest_67 : decode prog_13_method_51_code 67 = .ok (.iload_n 2, 1) := by decide +kernel
theorem d_M_writeRest_68 : decode prog_13_method_51_code 68 = .ok (.invokevirtual 329, 3) := by decide +kernel
theorem d_M_writeRest_71 : decode prog_13_method_51_code 71 = .ok (.istore 4, 2) := by decide +kernel
theorem d_M_writeRest_73 : decode prog_13_method_51_code 73 = .ok (.aload_n 0, 1) := by decide +kernel
theorem d_M_writeRest_74 : decode prog_13_method_51_code 74 = .ok (.iload 4, 2) := by decide +kernel
theorem d_M_writeRest_76 : decode prog_13_method_51_code 76 = .ok (.iconst 0, 1) := by decide +kernel
theorem d_M_writeRest_77 : decode prog_13_method_51_code 77 = .ok (.iload_n 1, 1) := by decide +kernel
theorem d_M_writeRest_78 : decode prog_13_method_51_code 78 = .ok (.iconst 1, 1) := by decide +kernel
theorem d_M_writeRest_79 : decode prog_13_method_51_code 79 = .ok (.iadd, 1) := by decide +kernel
theorem d_M_writeRest_80 : decode prog_13_method_51_code 80 = .ok (.iload_n 2, 1) := by decide +kernel
theorem d_M_writeRest_81 : decode prog_13_method_51_code 81 = .ok (.invokevirtual 329, 3) := by decide +kernel
theorem d_M_writeRest_84 : decode prog_13_method_51_code 84 = .ok (.ireturn, 1) := by decide +kernel
theorem d_M_writeRest_85 : decode prog_13_method_51_code 85 = .ok (.aload_n 0, 1) := by decide +kernel
theorem d_M_writeRest_86 : decode prog_13_method_51_code 86 = .ok (.bipush 124, 2) := by decide +kernel
theorem d_M_writeRest_88 : decode prog_13_method_51_code 88 = .ok (.invokevirtual 320, 3) := by decide +kernel
theorem d_M_writeRest_91 : decode prog_13_method_51_code 91 = .ok (.aload_n 0, 1) := by decide +kernel
theorem d_M_writeRest_92 : decode prog_13_method_51_code 92 = .ok (.iload_n 3, 1) := by decide +kernel
theorem d_M_writeRest_93 : decode prog_13_method_51_code 93 = .ok (.iconst 1, 1) := by decide +kernel
theorem d_M_writeRest_94 : decode prog_13_method_51_code 94 = .ok (.bipush 93, 2) := by decide +kernel
theorem d_M_writeRest_96 : decode prog_13_method_51_code 96 = .ok (.iconst 0, 1) := by decide +kernel
theorem d_M_writeRest_97 : decode prog_13_method_51_code 97 = .ok (.invokevirtual 329, 3) := by decide +kernel
theorem d_M_writeRest_100 : decode prog_13_method_51_code 100 = .ok (.istore 4, 2) := by decide +kernel
theorem d_M_writeRest_102 : decode prog_13_method_51_code 102 = .ok (.aload_n 0, 1) := by decide +kernel
theorem d_M_writeRest_103 : decode prog_13_method_51_code 103 = .ok (.iload 4, 2) := by decide +kernel
theorem d_M_writeRest_105 : decode prog_13_method_51_code 105 = .ok (.iconst 0, 1) := by decide +kernel
theorem d_M_writeRest_106 : decode prog_13_method_51_code 106 = .ok (.iload_n 1, 1) := by decide +kernel
theorem d_M_writeRest_107 : decode prog_13_method_51_code 107 = .ok (.iload_n 2, 1) := by decide +kernel
theorem d_M_writeRest_108 : decode prog_13_method_51_code 108 = .ok (.invokevirtual 329, 3) := by decide +kernel
theorem d_M_writeRest_111 : decode prog_13_method_51_code 111 = .ok (.ireturn, 1) := by decide +kernel
theorem d_M_write_0 : decode prog_13_method_52_code 0 = .ok (.aload_n 0, 1) := by decide +kernel
theorem d_M_write_1 : decode prog_13_method_52_code 1 = .ok (.iconst 0, 1) := by decide +kernel
theorem d_M_write_2 : decode prog_13_method_52_code 2 = .ok (.putfield 317, 3) := by decide +kernel
theorem d_M_write_5 : decode prog_13_method_52_code 5 = .ok (.aload_n 0, 1) := by decide +kernel
theorem d_M_write_6 : decode prog_13_method_52_code 6 = .ok (.iconst 0, 1) := by decide +kernel
theorem d_M_write_7 : decode prog_13_method_52_code 7 = .ok (.iconst 0, 1) := by decide +kernel
theorem d_M_write_8 : decode prog_13_method_52_code 8 = .ok (.iload_n 1, 1) := by decide +kernel
theorem d_M_write_9 : decode prog_13_method_52_code 9 = .ok (.iconst 0, 1) := by decide +kernel
theorem d_M_write_10 : decode prog_13_method_52_code 10 = .ok (.invokevirtual 329, 3) := by decide +kernel
theorem d_M_write_13 : decode prog_13_method_52_code 13 = .ok (.istore_n 2, 1) := by decide +kernel
theorem d_M_write_14 : decode prog_13_method_52_code 14 = .ok (.iload_n 2, 1) := by decide +kernel
theorem d_M_write_15 : decode prog_13_method_52_code 15 = .ok (.ifCond .le 89, 3) := by decide +kernel
theorem d_M_write_18 : decode prog_13_method_52_code 18 = .ok (.iload_n 2, 1) := by decide +kernel
theorem d_M_write_19 : decode prog_13_method_52_code 19 = .ok (.iconst 3, 1) := by decide +kernel
theorem d_M_write_20 : decode prog_13_method_52_code 20 = .ok (.isub, 1) := by decide +kernel
theorem d_M_write_21 : decode prog_13_method_52_code 21 = .ok (.istore_n 2, 1) := by decide +kernel
theorem d_M_write_22 : decode prog_13_method_52_code 22 = .ok (.aload_n 0, 1) := by decide +kernel
theorem d_M_write_23 : decode prog_13_method_52_code 23 = .ok (.getfield 95, 3) := by decide +kernel
theorem d_M_write_26 : decode prog_13_method_52_code 26 = .ok (.iload_n 2, 1) := by decide +kernel
theorem d_M_write_27 : decode prog_13_method_52_code 27 = .ok (.iaload, 1) := by decide +kernel
theorem d_M_write_28 : decode prog_13_method_52_code 28 = .ok (.istore_n 3, 1) := by decide +kernel
theorem d_M_write_29 : decode prog_13_method_52_code 29 = .ok (.aload_n 0, 1) := by decide +kernel
theorem d_M_write_30 : decode prog_13_method_52_code 30 = .ok (.getfield 95, 3) := by decide +kernel
theorem d_M_write_33 : decode prog_13_method_52_code 33 = .ok (.iload_n 2, 1) := by decide +kernel
theorem d_M_write_34 : decode prog_13_method_52_code 34 = .ok (.iconst 1, 1) := by decide +kernel
theorem d_M_write_35 : decode prog_13_method_52_code 35 = .ok (.iadd, 1) := by decide +kernel
theorem d_M_write_36 : decode prog_13_method_52_code 36 = .ok (.iaload, 1) := by decide +kernel
theorem d_M_write_37 : decode prog_13_method_52_code 37 = .ok (.istore 4, 2) := by decide +kernel
theorem d_M_write_39 : decode prog_13_method_52_code 39 = .ok (.iload_n 3, 1) := by decide +kernel
theorem d_M_write_40 : decode prog_13_method_52_code 40 = .ok (.iconst 1, 1) := by decide +kernel
theorem d_M_write_41 : decode prog_13_method_52_code 41 = .ok (.if_icmp .ne 12, 3) := by decide +kernel
theorem d_M_write_44 : decode prog_13_method_52_code 44 = .ok (.aload_n 0, 1) := by decide +kernel
theorem d_M_write_45 : decode prog_13_method_52_code 45 = .ok (.iload 4, 2) := by decide +kernel
theorem d_M_write_47 : decode prog_13_method_52_code 47 = .ok (.invokevirtual 320, 3) := by decide +kernel
theorem d_M_write_50 : decode prog_13_method_52_code 50 = .ok (.goto 51, 3) := by decide +kernel
theorem d_M_write_53 : decode prog_13_method_52_code 53 = .ok (.aload_n 0, 1) := by decide +kernel
theorem d_M_write_54 : decode prog_13_method_52_code 54 = .ok (.iload 4, 2) := by decide +kernel
theorem d_M_write_56 : decode prog_13_method_52_code 56 = .ok (.aload_n 0, 1) := by decide +kernel
theorem d_M_write_57 : decode prog_13_method_52_code 57 = .ok (.getfield 95, 3) := by decide +kernel
theorem d_M_write_60 : decode prog_13_method_52_code 60 = .ok (.iload_n 2, 1) := by decide +kernel
theorem d_M_write_61 : decode prog_13_method_52_code 61 = .ok (.iconst 2, 1) := by decide +kernel
theorem d_M_write_62 : decode prog_13_method_52_code 62 = .ok (.iadd, 1) := by decide +kernel
theorem d_M_write_63 : decode prog_13_method_52_code 63 = .ok (.iaload, 1) := by decide +kernel
theorem d_M_write_64 : decode prog_13_method_52_code 64 = .ok (.invokevirtual 250, 3) := by decide +kernel
theorem d_M_write_67 : decode prog_13_method_52_code 67 = .ok (.iload_n 3, 1) := by decide +kernel
theorem d_M_write_68 : decode prog_13_method_52_code 68 = .ok (.ifCond .ne 19, 3) := by decide +kernel
theorem d_M_write_71 : decode prog_13_method_52_code 71 = .ok (.aload_n 0, 1) := by decide +kernel
theorem d_M_write_72 : decode prog_13_method_52_code 72 = .ok (.aload_n 0, 1) := by decide +kernel
theorem d_M_write_73 : decode prog_13_method_52_code 73 = .ok (.getfield 241, 3) := by decide +kernel
theorem d_M_write_76 : decode prog_13_method_52_code 76 = .ok (.aload_n 0, 1) := by decide +kernel
theorem d_M_write_77 : decode prog_13_method_52_code 77 = .ok (.getfield 244, 3) := by decide +kernel
theorem d_M_write_80 : decode prog_13_method_52_code 80 = .ok (.iload_n 2, 1) := by decide +kernel
theorem d_M_write_81 : decode prog_13_method_52_code 81 = .ok (.invokevirtual 337, 3) := by decide +kernel
theorem d_M_write_84 : decode prog_13_method_52_code 84 = .ok (.goto 16, 3) := by decide +kernel
theorem d_M_write_87 : decode prog_13_method_52_code 87 = .ok (.aload_n 0, 1) := by decide +kernel
theorem d_M_write_88 : decode prog_13_method_52_code 88 = .ok (.aload_n 0, 1) := by decide +kernel
theorem d_M_write_89 : decode prog_13_method_52_code 89 = .ok (.getfield 241, 3) := by decide +kernel
theorem d_M_write_92 : decode prog_13_method_52_code 92 = .ok (.aload_n 0, 1) := by decide +kernel
theorem d_M_write_93 : decode prog_13_method_52_code 93 = .ok (.getfield 244, 3) := by decide +kernel
theorem d_M_write_96 : decode prog_13_method_52_code 96 = .ok (.iload_n 2, 1) := by decide +kernel
theorem d_M_write_97 : decode prog_13_method_52_code 97 = .ok (.invokevirtual 340, 3) := by decide +kernel
theorem d_M_write_100 : decode prog_13_method_52_code 100 = .ok (.istore_n 2, 1) := by decide +kernel
theorem d_M_write_101 : decode prog_13_method_52_code 101 = .ok (.goto (-87), 3) := by decide +kernel
theorem d_M_write_104 : decode prog_13_method_52_code 104 = .ok (.return_, 1) := by decide +kernel
theorem d_M_answer_0 : decode prog_13_method_53_code 0 = .ok (.aload_n 0, 1) := by decide +kernel
theorem d_M_answer_1 : decode prog_13_method_53_code 1 = .ok (.getfield 199, 3) := by decide +kernel
theorem d_M_answer_4 : decode prog_13_method_53_code 4 = .ok (.iconst 2, 1) := by decide +kernel
theorem d_M_answer_5 : decode prog_13_method_53_code 5 = .ok (.if_icmp .ne 19, 3) := by decide +kernel
theorem d_M_answer_8 : decode prog_13_method_53_code 8 = .ok (.iload_n 1, 1) := by decide +kernel
theorem d_M_answer_9 : decode prog_13_method_53_code 9 = .ok (.ifCond .lt 15, 3) := by decide +kernel
theorem d_M_answer_12 : decode prog_13_method_53_code 12 = .ok (.iload_n 1, 1) := by decide +kernel
theorem d_M_answer_13 : decode prog_13_method_53_code 13 = .ok (.aload_n 0, 1) := by decide +kernel
theorem d_M_answer_14 : decode prog_13_method_53_code 14 = .ok (.getfield 235, 3) := by decide +kernel
theorem d_M_answer_17 : decode prog_13_method_53_code 17 = .ok (.if_icmp .ge 7, 3) := by decide +kernel
theorem d_M_answer_20 : decode prog_13_method_53_code 20 = .ok (.iload_n 2, 1) := by decide +kernel
theorem d_M_answer_21 : decode prog_13_method_53_code 21 = .ok (.ifCond .ge 5, 3) := by decide +kernel
theorem d_M_answer_24 : decode prog_13_method_53_code 24 = .ok (.iconst 0, 1) := by decide +kernel
theorem d_M_answer_25 : decode prog_13_method_53_code 25 = .ok (.ireturn, 1) := by decide +kernel
theorem d_M_answer_26 : decode prog_13_method_53_code 26 = .ok (.iconst 0, 1) := by decide +kernel
theorem d_M_answer_27 : decode prog_13_method_53_code 27 = .ok (.istore_n 3, 1) := by decide +kernel
theorem d_M_answer_28 : decode prog_13_method_53_code 28 = .ok (.iload_n 3, 1) := by decide +kernel
theorem d_M_answer_29 : decode prog_13_method_53_code 29 = .ok (.sipush 488, 3) := by decide +kernel
theorem d_M_answer_32 : decode prog_13_method_53_code 32 = .ok (.if_icmp .ge 16, 3) := by decide +kernel
theorem d_M_answer_35 : decode prog_13_method_53_code 35 = .ok (.aload_n 0, 1) := by decide +kernel
theorem d_M_answer_36 : decode prog_13_method_53_code 36 = .ok (.getfield 101, 3) := by decide +kernel
theorem d_M_answer_39 : decode prog_13_method_53_code 39 = .ok (.iload_n 3, 1) := by decide +kernel
theorem d_M_answer_40 : decode prog_13_method_53_code 40 = .ok (.iconst (-1), 1) := by decide +kernel
theorem d_M_answer_41 : decode prog_13_method_53_code 41 = .ok (.iastore, 1) := by decide +kernel
theorem d_M_answer_42 : decode prog_13_method_53_code 42 = .ok (.iinc 3 1, 3) := by decide +kernel
theorem d_M_answer_45 : decode prog_13_method_53_code 45 = .ok (.goto (-17), 3) := by decide +kernel
theorem d_M_answer_48 : decode prog_13_method_53_code 48 = .ok (.aload_n 0, 1) := by decide +kernel
theorem d_M_answer_49 : decode prog_13_method_53_code 49 = .ok (.iconst 0, 1) := by decide +kernel
theorem d_M_answer_50 : decode prog_13_method_53_code 50 = .ok (.putfield 323, 3) := by decide +kernel
theorem d_M_answer_53 : decode prog_13_method_53_code 53 = .ok (.iconst 0, 1) := by decide +kernel
theorem d_M_answer_54 : decode prog_13_method_53_code 54 = .ok (.istore_n 3, 1) := by decide +kernel
theorem d_M_answer_55 : decode prog_13_method_53_code 55 = .ok (.iload_n 3, 1) := by decide +kernel
theorem d_M_answer_56 : decode prog_13_method_53_code 56 = .ok (.iload_n 1, 1) := by decide +kernel
theorem d_M_answer_57 : decode prog_13_method_53_code 57 = .ok (.if_icmp .gt 19, 3) := by decide +kernel
theorem d_M_answer_60 : decode prog_13_method_53_code 60 = .ok (.aload_n 0, 1) := by decide +kernel
theorem d_M_answer_61 : decode prog_13_method_53_code 61 = .ok (.aload_n 0, 1) := by decide +kernel
theorem d_M_answer_62 : decode prog_13_method_53_code 62 = .ok (.getfield 65, 3) := by decide +kernel
theorem d_M_answer_65 : decode prog_13_method_53_code 65 = .ok (.iload_n 3, 1) := by decide +kernel
theorem d_M_answer_66 : decode prog_13_method_53_code 66 = .ok (.iaload, 1) := by decide +kernel
theorem d_M_answer_67 : decode prog_13_method_53_code 67 = .ok (.invokevirtual 343, 3) := by decide +kernel
theorem d_M_answer_70 : decode prog_13_method_53_code 70 = .ok (.iinc 3 1, 3) := by decide +kernel
theorem d_M_answer_73 : decode prog_13_method_53_code 73 = .ok (.goto (-18), 3) := by decide +kernel
theorem d_M_answer_76 : decode prog_13_method_53_code 76 = .ok (.iload_n 2, 1) := by decide +kernel
theorem d_M_answer_77 : decode prog_13_method_53_code 77 = .ok (.aload_n 0, 1) := by decide +kernel
theorem d_M_answer_78 : decode prog_13_method_53_code 78 = .ok (.getfield 317, 3) := by decide +kernel
theorem d_M_answer_81 : decode prog_13_method_53_code 81 = .ok (.if_icmp .ge 13, 3) := by decide +kernel
theorem d_M_answer_84 : decode prog_13_method_53_code 84 = .ok (.aload_n 0, 1) := by decide +kernel
theorem d_M_answer_85 : decode prog_13_method_53_code 85 = .ok (.getfield 98, 3) := by decide +kernel
theorem d_M_answer_88 : decode prog_13_method_53_code 88 = .ok (.iload_n 2, 1) := by decide +kernel
theorem d_M_answer_89 : decode prog_13_method_53_code 89 = .ok (.iaload, 1) := by decide +kernel
theorem d_M_answer_90 : decode prog_13_method_53_code 90 = .ok (.i2c, 1) := by decide +kernel
theorem d_M_answer_91 : decode prog_13_method_53_code 91 = .ok (.goto 4, 3) := by decide +kernel
theorem d_M_answer_94 : decode prog_13_method_53_code 94 = .ok (.iconst 0, 1) := by decide +kernel
theorem d_M_answer_95 : decode prog_13_method_53_code 95 = .ok (.ireturn, 1) := by decide +kernel
theorem d_M_clauses_0 : decode prog_13_method_54_code 0 = .ok (.aload_n 0, 1) := by decide +kernel
theorem d_M_clauses_1 : decode prog_13_method_54_code 1 = .ok (.getfield 221, 3) := by decide +kernel
theorem d_M_clauses_4 : decode prog_13_method_54_code 4 = .ok (.ireturn, 1) := by decide +kernel
theorem d_M_tries_0 : decode prog_13_method_55_code 0 = .ok (.aload_n 0, 1) := by decide +kernel
theorem d_M_tries_1 : decode prog_13_method_55_code 1 = .ok (.getfield 202, 3) := by decide +kernel
theorem d_M_tries_4 : decode prog_13_method_55_code 4 = .ok (.ireturn, 1) := by decide +kernel
theorem d_M_choices_0 : decode prog_13_method_56_code 0 = .ok (.aload_n 0, 1) := by decide +kernel
theorem d_M_choices_1 : decode prog_13_method_56_code 1 = .ok (.getfield 208, 3) := by decide +kernel
theorem d_M_choices_4 : decode prog_13_method_56_code 4 = .ok (.ireturn, 1) := by decide +kernel
theorem d_M_length_0 : decode prog_13_method_57_code 0 = .ok (.aload_n 0, 1) := by decide +kernel
theorem d_M_length_1 : decode prog_13_method_57_code 1 = .ok (.getfield 205, 3) := by decide +kernel
theorem d_M_length_4 : decode prog_13_method_57_code 4 = .ok (.ireturn, 1) := by decide +kernel
theorem d_M_goals_0 : decode prog_13_method_58_code 0 = .ok (.aload_n 0, 1) := by decide +kernel
theorem d_M_goals_1 : decode prog_13_method_58_code 1 = .ok (.getfield 199, 3) := by decide +kernel
theorem d_M_goals_4 : decode prog_13_method_58_code 4 = .ok (.iconst 3, 1) := by decide +kernel
theorem d_M_goals_5 : decode prog_13_method_58_code 5 = .ok (.if_icmp .eq 18, 3) := by decide +kernel
theorem d_M_goals_8 : decode prog_13_method_58_code 8 = .ok (.aload_n 0, 1) := by decide +kernel
theorem d_M_goals_9 : decode prog_13_method_58_code 9 = .ok (.getfield 199, 3) := by decide +kernel
theorem d_M_goals_12 : decode prog_13_method_58_code 12 = .ok (.iconst 4, 1) := by decide +kernel
theorem d_M_goals_13 : decode prog_13_method_58_code 13 = .ok (.if_icmp .ne 14, 3) := by decide +kernel
theorem d_M_goals_16 : decode prog_13_method_58_code 16 = .ok (.aload_n 0, 1) := by decide +kernel
theorem d_M_goals_17 : decode prog_13_method_58_code 17 = .ok (.getfield 288, 3) := by decide +kernel
theorem d_M_goals_20 : decode prog_13_method_58_code 20 = .ok (.ifCond .ne 7, 3) := by decide +kernel
theorem d_M_goals_23 : decode prog_13_method_58_code 23 = .ok (.iconst 0, 1) := by decide +kernel
theorem d_M_goals_24 : decode prog_13_method_58_code 24 = .ok (.goto 7, 3) := by decide +kernel
theorem d_M_goals_27 : decode prog_13_method_58_code 27 = .ok (.aload_n 0, 1) := by decide +kernel
theorem d_M_goals_28 : decode prog_13_method_58_code 28 = .ok (.getfield 211, 3) := by decide +kernel
theorem d_M_goals_31 : decode prog_13_method_58_code 31 = .ok (.ireturn, 1) := by decide +kernel
theorem d_M_forget_0 : decode prog_13_method_59_code 0 = .ok (.aload_n 0, 1) := by decide +kernel
theorem d_M_forget_1 : decode prog_13_method_59_code 1 = .ok (.iconst 0, 1) := by decide +kernel
theorem d_M_forget_2 : decode prog_13_method_59_code 2 = .ok (.putfield 221, 3) := by decide +kernel
theorem d_M_forget_5 : decode prog_13_method_59_code 5 = .ok (.aload_n 0, 1) := by decide +kernel
theorem d_M_forget_6 : decode prog_13_method_59_code 6 = .ok (.iconst 0, 1) := by decide +kernel
theorem d_M_forget_7 : decode prog_13_method_59_code 7 = .ok (.putfield 196, 3) := by decide +kernel
theorem d_M_forget_10 : decode prog_13_method_59_code 10 = .ok (.aload_n 0, 1) := by decide +kernel
theorem d_M_forget_11 : decode prog_13_method_59_code 11 = .ok (.invokevirtual 218, 3) := by decide +kernel
theorem d_M_forget_14 : decode prog_13_method_59_code 14 = .ok (.return_, 1) := by decide +kernel
end
section
/-! printed by wip/gen/drive.py -/
def M_isSmall_12  (x0 : Int)  (K : Int → Prop) : Prop :=
  ((x0 < 48 → K 0) ∧ (¬ x0 < 48 → ((57 < x0 → K 0) ∧ (¬ 57 < x0 → K 1))))
def wp_M_isSmall (x0 : Int)  (K : Int → Prop) : Prop :=
  ((x0 < 97 → M_isSmall_12 x0 K) ∧ (¬ x0 < 97 → ((x0 ≤ 122 → K 1) ∧ (¬ x0 ≤ 122 → M_isSmall_12 x0 K))))
def M_isWord_19  (x0 : Int)  (K : Int → Prop) : Prop :=
  ((¬ x0 = 95 → K 0) ∧ (x0 = 95 → K 1))
def wp_M_isWord (x0 : Int)  (K : Int → Prop) : Prop :=
  wp_M_isSmall x0 (fun r_1 => ((¬ r_1 = 0 → K 1) ∧ (r_1 = 0 → ((x0 < 65 → M_isWord_19 x0 K) ∧ (¬ x0 < 65 → ((x0 ≤ 90 → K 1) ∧ (¬ x0 ≤ 90 → M_isWord_19 x0 K)))))))
def wp_M_isSign (x0 : Int)  (K : Int → Prop) : Prop :=
  ((x0 = 40 → K 1) ∧ (¬ x0 = 40 → ((x0 = 41 → K 1) ∧ (¬ x0 = 41 → ((x0 = 44 → K 1) ∧ (¬ x0 = 44 → ((x0 = 46 → K 1) ∧ (¬ x0 = 46 → ((x0 = 58 → K 1) ∧ (¬ x0 = 58 → ((x0 = 45 → K 1) ∧ (¬ x0 = 45 → ((x0 = 33 → K 1) ∧ (¬ x0 = 33 → ((x0 = 91 → K 1) ∧ (¬ x0 = 91 → ((x0 = 93 → K 1) ∧ (¬ x0 = 93 → ((¬ x0 = 124 → K 0) ∧ (x0 = 124 → K 1))))))))))))))))))))
def M_type_85  : Nat → Nat → Int → Int → Ob → (Int → Ob → Prop) → Prop
  | 0, _, _, _, _, _ => False
  | n85 + 1, y1, x3, x4, m, K => ((x3 ≤ x4 → K 1 m) ∧ (¬ x3 ≤ x4 → R32 (8 * x4) ∧ (0 ≤ (8 * x4) ∧ (8 * x4) < 64) ∧ ((sar y1 (8 * x4).toNat) &&& 255) < 2147483648 ∧ ((0 : Int) ≤ (m.1 0) ∧ (m.1 0) < (240 : Int)) ∧ R32 ((m.1 0) + 1) ∧ R32 (x4 + 1) ∧ M_type_85 n85 y1 x3 (x4 + 1) (sI (sA m 0 (m.1 0) (((sar y1 (8 * x4).toNat) &&& 255 : Nat) : Int)) 0 ((m.1 0) + 1)) K))
def M_type_68  (y1 : Nat) (x3 : Int) (m : Ob) (K : Int → Ob → Prop) : Prop :=
  R32 ((m.1 0) + x3) ∧ ((((m.1 0) + x3) ≤ 240 → ∃ n85, M_type_85 n85 y1 x3 0 m K) ∧ (¬ ((m.1 0) + x3) ≤ 240 → K 0 m))
def M_type_61 (L2 : Nat → Int → Ob → Prop) (y1 : Nat) (x3 : Int) (m : Ob) (K : Int → Ob → Prop) : Prop :=
  R32 (x3 + 1) ∧ L2 y1 (x3 + 1) m
def M_type_2  : Nat → Nat → Int → Ob → (Int → Ob → Prop) → Prop
  | 0, _, _, _, _ => False
  | n2 + 1, y1, x3, m, K => ((8 ≤ x3 → M_type_68 y1 x3 m K) ∧ (¬ 8 ≤ x3 → R32 (8 * x3) ∧ (0 ≤ (8 * x3) ∧ (8 * x3) < 64) ∧ ((((sar y1 (8 * x3).toNat) &&& 255) = 0 → M_type_68 y1 x3 m K) ∧ (¬ ((sar y1 (8 * x3).toNat) &&& 255) = 0 → R32 (8 * x3) ∧ (0 ≤ (8 * x3) ∧ (8 * x3) < 64) ∧ ((sar y1 (8 * x3).toNat) &&& 255) < 2147483648 ∧ wp_M_isWord (((sar y1 (8 * x3).toNat) &&& 255 : Nat) : Int) (fun r_1 => ((¬ r_1 = 0 → M_type_61 (fun y1 x3 m' => M_type_2 n2 y1 x3 m' K) y1 x3 m K) ∧ (r_1 = 0 → wp_M_isSign (((sar y1 (8 * x3).toNat) &&& 255 : Nat) : Int) (fun r_2 => ((¬ r_2 = 0 → M_type_61 (fun y1 x3 m' => M_type_2 n2 y1 x3 m' K) y1 x3 m K) ∧ (r_2 = 0 → (((((sar y1 (8 * x3).toNat) &&& 255 : Nat) : Int) = 32 → M_type_61 (fun y1 x3 m' => M_type_2 n2 y1 x3 m' K) y1 x3 m K) ∧ (¬ (((sar y1 (8 * x3).toNat) &&& 255 : Nat) : Int) = 32 → K 0 m))))))))))))
def wp_M_type (y1 : Nat) (m : Ob) (K : Int → Ob → Prop) : Prop :=
  ∃ n2, M_type_2 n2 y1 0 m K
def wp_M_beginPiece  (m : Ob) (K : Ob → Prop) : Prop :=
  ((0 : Int) ≤ (m.1 5) ∧ (m.1 5) < (242 : Int)) ∧ ((0 : Int) ≤ (m.1 5) ∧ (m.1 5) < (242 : Int)) ∧ K (sI (sA (sA m 2 (m.1 5) (m.1 4)) 3 (m.1 5) 0) 7 0)
def wp_M_at (x1 : Int) (m : Ob) (K : Int → Prop) : Prop :=
  (((m.1 0) ≤ x1 → K 0) ∧ (¬ (m.1 0) ≤ x1 → ((0 : Int) ≤ x1 ∧ x1 < (240 : Int)) ∧ K (m.2.1 0 x1)))
def M_take_248  (s0 : Int) (m : Ob) (K : Ob → Prop) : Prop :=
  R32 ((m.1 2) + 2) ∧ K (sI (sI m 1 s0) 3 ((m.1 2) + 2))
def M_take_247   (m : Ob) (K : Ob → Prop) : Prop :=
  M_take_248 (-1) m K
def M_take_221  (x1 : Int) (m : Ob) (K : Ob → Prop) : Prop :=
  ((¬ x1 = 58 → M_take_247 m K) ∧ (x1 = 58 → R32 ((m.1 2) + 1) ∧ wp_M_at ((m.1 2) + 1) m (fun r_4 => ((¬ r_4 = 45 → M_take_247 m K) ∧ (r_4 = 45 → M_take_248 3 m K)))))
def M_take_203  (s0 : Int) (m : Ob) (K : Ob → Prop) : Prop :=
  K (sI m 1 s0)
def M_take_172  (x1 : Int) (m : Ob) (K : Ob → Prop) : Prop :=
  R32 ((m.1 3) - (m.1 2)) ∧ ((((m.1 3) - (m.1 2)) ≤ 8 → wp_M_isSmall x1 (fun r_7 => ((r_7 = 0 → M_take_203 2 m K) ∧ (¬ r_7 = 0 → M_take_203 1 m K)))) ∧ (¬ ((m.1 3) - (m.1 2)) ≤ 8 → M_take_203 (-1) m K))
def M_take_156 (L93 : Int → Ob → Prop) (x1 : Int) (t0 : Nat) (m : Ob) (K : Ob → Prop) : Prop :=
  R32 ((m.1 3) + 1) ∧ L93 x1 (sI (sJ m 0 t0) 3 ((m.1 3) + 1))
def M_take_93  : Nat → Int → Ob → (Ob → Prop) → Prop
  | 0, _, _, _ => False
  | n93 + 1, x1, m, K => wp_M_at (m.1 3) m (fun r_5 => wp_M_isWord r_5 (fun r_6 => ((r_6 = 0 → M_take_172 x1 m K) ∧ (¬ r_6 = 0 → R32 ((m.1 3) - (m.1 2)) ∧ ((8 ≤ ((m.1 3) - (m.1 2)) → M_take_156 (fun x1 m' => M_take_93 n93 x1 m' K) x1 (m.2.2.1 0) m K) ∧ (¬ 8 ≤ ((m.1 3) - (m.1 2)) → wp_M_at (m.1 3) m (fun r_8 => 0 ≤ r_8 ∧ R32 ((m.1 3) - (m.1 2)) ∧ R32 (8 * ((m.1 3) - (m.1 2))) ∧ (0 ≤ (8 * ((m.1 3) - (m.1 2))) ∧ (8 * ((m.1 3) - (m.1 2))) < 64) ∧ ((r_8).toNat) * 2 ^ (8 * ((m.1 3) - (m.1 2))).toNat < 18446744073709551616 ∧ M_take_156 (fun x1 m' => M_take_93 n93 x1 m' K) x1 ((m.2.2.1 0) ||| (((r_8).toNat) * 2 ^ (8 * ((m.1 3) - (m.1 2))).toNat)) m K)))))))
def M_take_34   (m : Ob) (K : Ob → Prop) : Prop :=
  wp_M_at (m.1 2) m (fun r_2 => R32 ((m.1 2) + 1) ∧ ((¬ r_2 = 0 → wp_M_isWord r_2 (fun r_3 => ((r_3 = 0 → ((r_2 = 58 → M_take_221 r_2 (sI m 3 ((m.1 2) + 1)) K) ∧ (¬ r_2 = 58 → ((¬ r_2 = 45 → K (sI (sI m 3 ((m.1 2) + 1)) 1 r_2)) ∧ (r_2 = 45 → M_take_221 r_2 (sI m 3 ((m.1 2) + 1)) K))))) ∧ (¬ r_3 = 0 → ∃ n93, M_take_93 n93 r_2 (sI (sJ (sI m 3 ((m.1 2) + 1)) 0 0) 3 (m.1 2)) K)))) ∧ (r_2 = 0 → K (sI (sI (sI m 3 ((m.1 2) + 1)) 1 0) 3 (m.1 2)))))
def M_take_8  : Nat → Ob → (Ob → Prop) → Prop
  | 0, _, _ => False
  | n8 + 1, m, K => wp_M_at (m.1 2) m (fun r_1 => ((¬ r_1 = 32 → M_take_34 m K) ∧ (r_1 = 32 → R32 ((m.1 2) + 1) ∧ M_take_8 n8 (sI m 2 ((m.1 2) + 1)) K)))
def wp_M_take  (m : Ob) (K : Ob → Prop) : Prop :=
  ∃ n8, M_take_8 n8 (sI m 2 (m.1 3)) K
def wp_M_push (x1 : Int) (m : Ob) (K : Int → Ob → Prop) : Prop :=
  ((¬ (m.1 8) = 15 → ((0 : Int) ≤ (m.1 8) ∧ (m.1 8) < (16 : Int)) ∧ R32 ((m.1 4) - 1) ∧ ((0 : Int) ≤ (m.1 8) ∧ (m.1 8) < (16 : Int)) ∧ ((0 : Int) ≤ (m.1 8) ∧ (m.1 8) < (16 : Int)) ∧ R32 ((m.1 8) + 1) ∧ K 1 (sI (sA (sA (sA m 7 (m.1 8) x1) 8 (m.1 8) ((m.1 4) - 1)) 9 (m.1 8) 1) 8 ((m.1 8) + 1))) ∧ ((m.1 8) = 15 → K 0 m))
def wp_M_emit (y1 : Nat) (x3 : Int) (m : Ob) (K : Ob → Prop) : Prop :=
  ((0 : Int) ≤ (m.1 4) ∧ (m.1 4) < (500 : Int)) ∧ ((0 : Int) ≤ (m.1 4) ∧ (m.1 4) < (500 : Int)) ∧ R32 ((m.1 4) + 1) ∧ K (sI (sA (sL m 0 (m.1 4) y1) 1 (m.1 4) x3) 4 ((m.1 4) + 1))
def wp_M_beginGoal  (m : Ob) (K : Ob → Prop) : Prop :=
  ((0 : Int) ≤ (m.1 6) ∧ (m.1 6) < (242 : Int)) ∧ R32 ((m.1 6) + 1) ∧ ((0 : Int) ≤ (m.1 5) ∧ (m.1 5) < (242 : Int)) ∧ R32 ((m.2.1 3 (m.1 5)) + 1) ∧ ((0 : Int) ≤ (m.1 5) ∧ (m.1 5) < (242 : Int)) ∧ K (sA (sI (sA m 5 (m.1 6) (m.1 4)) 6 ((m.1 6) + 1)) 3 (m.1 5) ((m.2.1 3 (m.1 5)) + 1))
def wp_M_endPiece  (m : Ob) (K : Ob → Prop) : Prop :=
  ((0 : Int) ≤ (m.1 5) ∧ (m.1 5) < (242 : Int)) ∧ R32 ((m.1 5) + 1) ∧ K (sI (sA m 4 (m.1 5) (m.1 7)) 5 ((m.1 5) + 1))
def M_outside_111  (x2 : Int) (m : Ob) (K : Int → Ob → Prop) : Prop :=
  ((¬ (m.1 1) = 46 → K (-1) m) ∧ ((m.1 1) = 46 → wp_M_endPiece m (fun m_1 => ((x2 = 0 → K 0 m_1) ∧ (¬ x2 = 0 → K 4 m_1)))))
def M_outside_101  (x1 : Int) (x2 : Int) (m : Ob) (K : Int → Ob → Prop) : Prop :=
  ((x1 = 1 → M_outside_111 x2 m K) ∧ (¬ x1 = 1 → ((¬ x1 = 3 → K (-1) m) ∧ (x1 = 3 → M_outside_111 x2 m K))))
def M_outside_85  (x1 : Int) (x2 : Int) (m : Ob) (K : Int → Ob → Prop) : Prop :=
  ((¬ x1 = 3 → M_outside_101 x1 x2 m K) ∧ (x1 = 3 → ((¬ (m.1 1) = 44 → M_outside_101 x1 x2 m K) ∧ ((m.1 1) = 44 → K 2 m))))
def M_outside_72  (x1 : Int) (x2 : Int) (m : Ob) (K : Int → Ob → Prop) : Prop :=
  ((¬ x1 = 1 → M_outside_85 x1 x2 m K) ∧ (x1 = 1 → (((m.1 1) = 3 → K 2 m) ∧ (¬ (m.1 1) = 3 → M_outside_85 x1 x2 m K))))
def M_outside_45  (x1 : Int) (x2 : Int) (m : Ob) (K : Int → Ob → Prop) : Prop :=
  ((¬ x1 = 2 → M_outside_72 x1 x2 m K) ∧ (x1 = 2 → ((¬ (m.1 1) = 33 → M_outside_72 x1 x2 m K) ∧ ((m.1 1) = 33 → wp_M_beginGoal m (fun m_2 => wp_M_emit 0 (-2) m_2 (fun m_3 => K 3 m_3))))))
def M_outside_32  (x1 : Int) (m : Ob) (K : Int → Ob → Prop) : Prop :=
  wp_M_emit (m.2.2.1 0) 0 m (fun m_5 => R32 (x1 + 1) ∧ K (x1 + 1) m_5)
def M_outside_9  (x1 : Int) (x2 : Int) (m : Ob) (K : Int → Ob → Prop) : Prop :=
  ((¬ (m.1 1) = 1 → M_outside_45 x1 x2 m K) ∧ ((m.1 1) = 1 → ((¬ x1 = 0 → wp_M_beginGoal m (fun m_4 => M_outside_32 x1 m_4 K)) ∧ (x1 = 0 → wp_M_beginPiece m (fun m_6 => M_outside_32 x1 m_6 K)))))
def wp_M_outside (x1 : Int) (x2 : Int) (m : Ob) (K : Int → Ob → Prop) : Prop :=
  ((x1 = 0 → M_outside_9 x1 x2 m K) ∧ (¬ x1 = 0 → ((¬ x1 = 2 → M_outside_45 x1 x2 m K) ∧ (x1 = 2 → M_outside_9 x1 x2 m K))))
def M_emitVariable_94  (x1 : Int) (m : Ob) (K : Ob → Prop) : Prop :=
  0 ≤ x1 ∧ wp_M_emit ((x1).toNat) (-1) m (fun m_1 => K m_1)
def M_emitVariable_49  (x1 : Int) (m : Ob) (K : Ob → Prop) : Prop :=
  ((0 ≤ x1 → M_emitVariable_94 x1 m K) ∧ (¬ 0 ≤ x1 → ((0 : Int) ≤ (m.1 7) ∧ (m.1 7) < (242 : Int)) ∧ ((0 : Int) ≤ (m.1 7) ∧ (m.1 7) < (242 : Int)) ∧ R32 ((m.1 7) + 1) ∧ M_emitVariable_94 (m.1 7) (sI (sA (sL m 1 (m.1 7) (m.2.2.1 0)) 6 (m.1 7) (m.1 4)) 7 ((m.1 7) + 1)) K))
def M_emitVariable_42 (L4 : Int → Int → Ob → Prop) (x2 : Int) (s0 : Int) (m : Ob) (K : Ob → Prop) : Prop :=
  R32 (x2 + 1) ∧ L4 s0 (x2 + 1) m
def M_emitVariable_41 (L4 : Int → Int → Ob → Prop) (x1 : Int) (x2 : Int) (m : Ob) (K : Ob → Prop) : Prop :=
  M_emitVariable_42 L4 x2 x1 m K
def M_emitVariable_4  : Nat → Int → Int → Ob → (Ob → Prop) → Prop
  | 0, _, _, _, _ => False
  | n4 + 1, x1, x2, m, K => (((m.1 7) ≤ x2 → M_emitVariable_49 x1 m K) ∧ (¬ (m.1 7) ≤ x2 → (((m.2.2.1 0) = 95 → M_emitVariable_41 (fun x1 x2 m' => M_emitVariable_4 n4 x1 x2 m' K) x1 x2 m K) ∧ (¬ (m.2.2.1 0) = 95 → ((0 : Int) ≤ x2 ∧ x2 < (242 : Int)) ∧ ((¬ (m.2.2.2 1 x2) = (m.2.2.1 0) → M_emitVariable_41 (fun x1 x2 m' => M_emitVariable_4 n4 x1 x2 m' K) x1 x2 m K) ∧ ((m.2.2.2 1 x2) = (m.2.2.1 0) → M_emitVariable_42 (fun x1 x2 m' => M_emitVariable_4 n4 x1 x2 m' K) x2 x2 m K))))))
def wp_M_emitVariable  (m : Ob) (K : Ob → Prop) : Prop :=
  ∃ n4, M_emitVariable_4 n4 (-1) 0 m K
def M_beginTerm_55   (m : Ob) (K : Int → Ob → Prop) : Prop :=
  ((¬ (m.1 1) = 1 → ((¬ (m.1 1) = 2 → wp_M_push 1 (sI m 9 0) (fun r_2 m_1 => ((¬ r_2 = 0 → K 1 (sI m_1 9 1)) ∧ (r_2 = 0 → K 0 m_1)))) ∧ ((m.1 1) = 2 → wp_M_emitVariable (sI m 9 0) (fun m_3 => K 1 m_3)))) ∧ ((m.1 1) = 1 → wp_M_emit (m.2.2.1 0) 0 (sI m 9 0) (fun m_4 => K 1 m_4)))
def M_beginTerm_27   (m : Ob) (K : Int → Ob → Prop) : Prop :=
  R32 ((m.1 8) - 1) ∧ ((0 : Int) ≤ ((m.1 8) - 1) ∧ ((m.1 8) - 1) < (16 : Int)) ∧ ((¬ (m.2.1 7 ((m.1 8) - 1)) = 1 → M_beginTerm_55 m K) ∧ ((m.2.1 7 ((m.1 8) - 1)) = 1 → (((m.1 9) = 0 → M_beginTerm_55 m K) ∧ (¬ (m.1 9) = 0 → wp_M_emit 1 2 m (fun m_5 => M_beginTerm_55 m_5 K)))))
def wp_M_beginTerm  (m : Ob) (K : Int → Ob → Prop) : Prop :=
  (((m.1 1) = 1 → M_beginTerm_27 m K) ∧ (¬ (m.1 1) = 1 → (((m.1 1) = 2 → M_beginTerm_27 m K) ∧ (¬ (m.1 1) = 2 → (((m.1 1) = 91 → M_beginTerm_27 m K) ∧ (¬ (m.1 1) = 91 → K 0 m))))))
def M_goOn_146  (x1 : Int) (m : Ob) (K : Int → Ob → Prop) : Prop :=
  ((¬ (m.1 1) = 124 → K 0 m) ∧ ((m.1 1) = 124 → ((0 : Int) ≤ x1 ∧ x1 < (16 : Int)) ∧ ((¬ (m.2.1 7 x1) = 1 → K 0 m) ∧ ((m.2.1 7 x1) = 1 → ((0 : Int) ≤ x1 ∧ x1 < (16 : Int)) ∧ K 1 (sA m 7 x1 2)))))
def M_goOn_139  (x1 : Int) (m : Ob) (K : Int → Ob → Prop) : Prop :=
  K 1 (sI m 8 x1)
def M_goOn_103  (x1 : Int) (m : Ob) (K : Int → Ob → Prop) : Prop :=
  ((¬ (m.1 1) = 93 → M_goOn_146 x1 m K) ∧ ((m.1 1) = 93 → ((0 : Int) ≤ x1 ∧ x1 < (16 : Int)) ∧ (((m.2.1 7 x1) ≤ 0 → M_goOn_146 x1 m K) ∧ (¬ (m.2.1 7 x1) ≤ 0 → ((0 : Int) ≤ x1 ∧ x1 < (16 : Int)) ∧ ((¬ (m.2.1 7 x1) = 1 → M_goOn_139 x1 m K) ∧ ((m.2.1 7 x1) = 1 → wp_M_emit 2 0 m (fun m_1 => M_goOn_139 x1 m_1 K)))))))
def M_goOn_61  (x1 : Int) (m : Ob) (K : Int → Ob → Prop) : Prop :=
  ((¬ (m.1 1) = 41 → M_goOn_103 x1 m K) ∧ ((m.1 1) = 41 → ((0 : Int) ≤ x1 ∧ x1 < (16 : Int)) ∧ ((¬ (m.2.1 7 x1) = 0 → M_goOn_103 x1 m K) ∧ ((m.2.1 7 x1) = 0 → ((0 : Int) ≤ x1 ∧ x1 < (16 : Int)) ∧ ((0 : Int) ≤ x1 ∧ x1 < (16 : Int)) ∧ ((0 : Int) ≤ (m.2.1 8 x1) ∧ (m.2.1 8 x1) < (500 : Int)) ∧ K 1 (sI (sA m 1 (m.2.1 8 x1) (m.2.1 9 x1)) 8 x1)))))
def M_goOn_56  (s0 : Int) (m : Ob) (K : Int → Ob → Prop) : Prop :=
  (s0 = 0 ∨ s0 = 1) ∧ K 1 (sI m 9 s0)
def wp_M_goOn  (m : Ob) (K : Int → Ob → Prop) : Prop :=
  R32 ((m.1 8) - 1) ∧ ((¬ (m.1 1) = 44 → M_goOn_61 ((m.1 8) - 1) m K) ∧ ((m.1 1) = 44 → ((0 : Int) ≤ ((m.1 8) - 1) ∧ ((m.1 8) - 1) < (16 : Int)) ∧ ((2 ≤ (m.2.1 7 ((m.1 8) - 1)) → M_goOn_61 ((m.1 8) - 1) m K) ∧ (¬ 2 ≤ (m.2.1 7 ((m.1 8) - 1)) → ((0 : Int) ≤ ((m.1 8) - 1) ∧ ((m.1 8) - 1) < (16 : Int)) ∧ R32 ((m.2.1 9 ((m.1 8) - 1)) + 1) ∧ ((0 : Int) ≤ ((m.1 8) - 1) ∧ ((m.1 8) - 1) < (16 : Int)) ∧ ((0 : Int) ≤ ((m.1 8) - 1) ∧ ((m.1 8) - 1) < (16 : Int)) ∧ ((¬ (m.2.1 7 ((m.1 8) - 1)) = 1 → M_goOn_56 0 (sA m 9 ((m.1 8) - 1) ((m.2.1 9 ((m.1 8) - 1)) + 1)) K) ∧ ((m.2.1 7 ((m.1 8) - 1)) = 1 → M_goOn_56 1 (sA m 9 ((m.1 8) - 1) ((m.2.1 9 ((m.1 8) - 1)) + 1)) K))))))
def M_read_344   (m : Ob) (K : Int → Ob → Prop) : Prop :=
  K (m.1 0) m
def M_read_338 (L52 : Int → Int → Int → Int → Int → Ob → Prop) (x1 : Int) (x2 : Int) (x3 : Int) (x4 : Int) (x5 : Int) (m : Ob) (K : Int → Ob → Prop) : Prop :=
  R32 (x5 + 1) ∧ L52 x1 x2 x3 x4 (x5 + 1) m
def M_read_336 (L52 : Int → Int → Int → Int → Int → Ob → Prop) (x1 : Int) (x2 : Int) (x3 : Int) (x5 : Int) (s0 : Int) (m : Ob) (K : Int → Ob → Prop) : Prop :=
  M_read_338 L52 x1 x2 x3 s0 x5 m K
def M_read_331 (L52 : Int → Int → Int → Int → Int → Ob → Prop) (x1 : Int) (x2 : Int) (x3 : Int) (x5 : Int) (m : Ob) (K : Int → Ob → Prop) : Prop :=
  M_read_336 L52 x1 x2 x3 x5 1 m K
def M_read_306   (m : Ob) (K : Int → Ob → Prop) : Prop :=
  K (m.1 2) m
def M_read_294 (L52 : Int → Int → Int → Int → Int → Ob → Prop) (x1 : Int) (x2 : Int) (x3 : Int) (x5 : Int) (s0 : Int) (m : Ob) (K : Int → Ob → Prop) : Prop :=
  M_read_338 L52 x1 x2 x3 s0 x5 m K
def M_read_279 (L52 : Int → Int → Int → Int → Int → Ob → Prop) (x1 : Int) (x2 : Int) (x5 : Int) (s0 : Int) (m : Ob) (K : Int → Ob → Prop) : Prop :=
  ((¬ (m.1 1) = 91 → M_read_294 L52 x1 x2 s0 x5 0 m K) ∧ ((m.1 1) = 91 → M_read_294 L52 x1 x2 s0 x5 1 m K))
def M_read_261   (m : Ob) (K : Int → Ob → Prop) : Prop :=
  K (m.1 2) m
def M_read_249 (L52 : Int → Int → Int → Int → Int → Ob → Prop) (x1 : Int) (x2 : Int) (x4 : Int) (x5 : Int) (m : Ob) (K : Int → Ob → Prop) : Prop :=
  ((x4 = 0 → wp_M_goOn m (fun r_4 m_3 => ((¬ r_4 = 0 → (((m_3.1 1) = 44 → M_read_331 L52 x1 x2 0 x5 m_3 K) ∧ (¬ (m_3.1 1) = 44 → ((¬ (m_3.1 1) = 124 → M_read_336 L52 x1 x2 0 x5 0 m_3 K) ∧ ((m_3.1 1) = 124 → M_read_331 L52 x1 x2 0 x5 m_3 K))))) ∧ (r_4 = 0 → M_read_306 m_3 K)))) ∧ (¬ x4 = 0 → wp_M_beginTerm m (fun r_6 m_5 => ((¬ r_6 = 0 → ((¬ (m_5.1 1) = 1 → M_read_279 L52 x1 x2 x5 0 m_5 K) ∧ ((m_5.1 1) = 1 → M_read_279 L52 x1 x2 x5 1 m_5 K))) ∧ (r_6 = 0 → M_read_261 m_5 K)))))
def M_read_162   (m : Ob) (K : Int → Ob → Prop) : Prop :=
  K (m.1 2) m
def M_read_157 (L52 : Int → Int → Int → Int → Int → Ob → Prop) (x1 : Int) (x2 : Int) (x4 : Int) (x5 : Int) (s0 : Int) (m : Ob) (K : Int → Ob → Prop) : Prop :=
  ((0 ≤ x2 → M_read_338 L52 x1 x2 s0 x4 x5 m K) ∧ (¬ 0 ≤ x2 → M_read_162 m K))
def M_read_130 (L52 : Int → Int → Int → Int → Int → Ob → Prop) (x1 : Int) (x2 : Int) (x4 : Int) (x5 : Int) (m : Ob) (K : Int → Ob → Prop) : Prop :=
  ((¬ (m.1 8) = 0 → ((x4 = 0 → M_read_249 L52 x1 x2 x4 x5 m K) ∧ (¬ x4 = 0 → ((¬ (m.1 1) = 93 → M_read_249 L52 x1 x2 x4 x5 m K) ∧ ((m.1 1) = 93 → (((m.1 9) = 0 → M_read_249 L52 x1 x2 x4 x5 m K) ∧ (¬ (m.1 9) = 0 → R32 ((m.1 8) - 1) ∧ ((0 : Int) ≤ ((m.1 8) - 1) ∧ ((m.1 8) - 1) < (16 : Int)) ∧ ((¬ (m.2.1 7 ((m.1 8) - 1)) = 1 → M_read_249 L52 x1 x2 x4 x5 m K) ∧ ((m.2.1 7 ((m.1 8) - 1)) = 1 → R32 ((m.1 8) - 1) ∧ ((0 : Int) ≤ ((m.1 8) - 1) ∧ ((m.1 8) - 1) < (16 : Int)) ∧ ((¬ (m.2.1 9 ((m.1 8) - 1)) = 1 → M_read_249 L52 x1 x2 x4 x5 m K) ∧ ((m.2.1 9 ((m.1 8) - 1)) = 1 → wp_M_emit 2 0 m (fun m_7 => R32 ((m_7.1 8) - 1) ∧ M_read_338 L52 x1 x2 0 0 x5 (sI (sI m_7 8 ((m_7.1 8) - 1)) 9 0) K)))))))))))) ∧ ((m.1 8) = 0 → wp_M_outside x2 x1 m (fun r_9 m_8 => ((¬ (m_8.1 1) = 1 → M_read_157 L52 x1 r_9 x4 x5 0 m_8 K) ∧ ((m_8.1 1) = 1 → M_read_157 L52 x1 r_9 x4 x5 1 m_8 K)))))
def M_read_117   (m : Ob) (K : Int → Ob → Prop) : Prop :=
  K (m.1 2) m
def M_read_91   (m : Ob) (K : Int → Ob → Prop) : Prop :=
  K (m.1 0) m
def M_read_71  (x2 : Int) (m : Ob) (K : Int → Ob → Prop) : Prop :=
  ((¬ (m.1 8) = 0 → M_read_91 m K) ∧ ((m.1 8) = 0 → ((x2 = 0 → K (-1) m) ∧ (¬ x2 = 0 → ((¬ x2 = 4 → M_read_91 m K) ∧ (x2 = 4 → K (-1) m))))))
def M_read_52  : Nat → Int → Int → Int → Int → Int → Ob → (Int → Ob → Prop) → Prop
  | 0, _, _, _, _, _, _, _ => False
  | n52 + 1, x1, x2, x3, x4, x5, m, K => ((300 ≤ x5 → M_read_344 m K) ∧ (¬ 300 ≤ x5 → wp_M_take m (fun m_2 => ((¬ (m_2.1 1) = 0 → ((x3 = 0 → M_read_130 (fun x1 x2 x3 x4 x5 m' => M_read_52 n52 x1 x2 x3 x4 x5 m' K) x1 x2 x4 x5 m_2 K) ∧ (¬ x3 = 0 → ((¬ (m_2.1 1) = 40 → M_read_130 (fun x1 x2 x3 x4 x5 m' => M_read_52 n52 x1 x2 x3 x4 x5 m' K) x1 x2 x4 x5 m_2 K) ∧ ((m_2.1 1) = 40 → wp_M_push 0 m_2 (fun r_11 m_10 => ((¬ r_11 = 0 → M_read_338 (fun x1 x2 x3 x4 x5 m' => M_read_52 n52 x1 x2 x3 x4 x5 m' K) x1 x2 0 1 x5 m_10 K) ∧ (r_11 = 0 → M_read_117 m_10 K)))))))) ∧ ((m_2.1 1) = 0 → M_read_71 x2 m_2 K)))))
def M_read_9  (x1 : Int) (s0 : Int) (m : Ob) (K : Int → Ob → Prop) : Prop :=
  wp_M_beginPiece (sI (sI (sI (sI (sI (sI m 3 0) 4 0) 5 0) 6 0) 8 0) 9 0) (fun m_1 => ∃ n52, M_read_52 n52 x1 s0 0 0 0 m_1 K)
def wp_M_read (x1 : Int) (m : Ob) (K : Int → Ob → Prop) : Prop :=
  ((x1 = 0 → M_read_9 x1 0 m K) ∧ (¬ x1 = 0 → M_read_9 x1 2 m K))
def wp_M_noSearch  (m : Ob) (K : Ob → Prop) : Prop :=
  K (sI (sI (sI (sI (sI m 13 0) 15 0) 16 0) 17 0) 18 0)
def wp_M_endOf (x1 : Int) (m : Ob) (K : Int → Prop) : Prop :=
  R32 (x1 + 1) ∧ (((m.1 5) ≤ (x1 + 1) → K (m.1 4)) ∧ (¬ (m.1 5) ≤ (x1 + 1) → R32 (x1 + 1) ∧ ((0 : Int) ≤ (x1 + 1) ∧ (x1 + 1) < (242 : Int)) ∧ K (m.2.1 2 (x1 + 1))))
def M_tooMuch_80 (L52 : Int → Int → Int → Prop) (x1 : Int) (x3 : Int) (s0 : Int) (m : Ob) (K : Int → Prop) : Prop :=
  R32 (x3 + 1) ∧ L52 x1 s0 (x3 + 1)
def M_tooMuch_75 (L52 : Int → Int → Int → Prop) (x1 : Int) (x3 : Int) (m : Ob) (K : Int → Prop) : Prop :=
  M_tooMuch_80 L52 x1 x3 1 m K
def M_tooMuch_52  : Nat → Int → Int → Int → Ob → (Int → Prop) → Prop
  | 0, _, _, _, _, _ => False
  | n52 + 1, x1, x2, x3, m, K => wp_M_endOf x1 m (fun r_2 => ((r_2 ≤ x3 → (x2 = 0 ∨ x2 = 1) ∧ K x2) ∧ (¬ r_2 ≤ x3 → ((¬ x2 = 0 → M_tooMuch_75 (fun x1 x2 x3 => M_tooMuch_52 n52 x1 x2 x3 m K) x1 x3 m K) ∧ (x2 = 0 → ((0 : Int) ≤ x3 ∧ x3 < (500 : Int)) ∧ (((m.2.1 1 x3) ≤ 4 → M_tooMuch_80 (fun x1 x2 x3 => M_tooMuch_52 n52 x1 x2 x3 m K) x1 x3 0 m K) ∧ (¬ (m.2.1 1 x3) ≤ 4 → M_tooMuch_75 (fun x1 x2 x3 => M_tooMuch_52 n52 x1 x2 x3 m K) x1 x3 m K)))))))
def M_tooMuch_44  (x1 : Int) (s0 : Int) (m : Ob) (K : Int → Prop) : Prop :=
  ((0 : Int) ≤ x1 ∧ x1 < (242 : Int)) ∧ ∃ n52, M_tooMuch_52 n52 x1 s0 (m.2.1 2 x1) m K
def M_tooMuch_39  (x1 : Int) (m : Ob) (K : Int → Prop) : Prop :=
  M_tooMuch_44 x1 1 m K
def wp_M_tooMuch (x1 : Int) (m : Ob) (K : Int → Prop) : Prop :=
  wp_M_endOf x1 m (fun r_1 => ((0 : Int) ≤ x1 ∧ x1 < (242 : Int)) ∧ R32 (r_1 - (m.2.1 2 x1)) ∧ ((40 < (r_1 - (m.2.1 2 x1)) → M_tooMuch_39 x1 m K) ∧ (¬ 40 < (r_1 - (m.2.1 2 x1)) → ((0 : Int) ≤ x1 ∧ x1 < (242 : Int)) ∧ ((8 < (m.2.1 4 x1) → M_tooMuch_39 x1 m K) ∧ (¬ 8 < (m.2.1 4 x1) → ((0 : Int) ≤ x1 ∧ x1 < (242 : Int)) ∧ (((m.2.1 3 x1) ≤ 8 → M_tooMuch_44 x1 0 m K) ∧ (¬ (m.2.1 3 x1) ≤ 8 → M_tooMuch_39 x1 m K)))))))
def M_addNames_116 (L7 : Int → Int → Ob → Prop) (x1 : Int) (x2 : Int) (m : Ob) (K : Int → Ob → Prop) : Prop :=
  R32 (x2 + 1) ∧ L7 x1 (x2 + 1) m
def M_addNames_96 (L7 : Int → Int → Ob → Prop) (x1 : Int) (x2 : Int) (x3 : Int) (m : Ob) (K : Int → Ob → Prop) : Prop :=
  ((¬ x3 = 0 → M_addNames_116 L7 x1 x2 m K) ∧ (x3 = 0 → ((0 : Int) ≤ x2 ∧ x2 < (500 : Int)) ∧ ((0 : Int) ≤ x1 ∧ x1 < (300 : Int)) ∧ R32 (x1 + 1) ∧ M_addNames_116 L7 (x1 + 1) x2 (sL m 3 x1 (m.2.2.2 0 x2)) K))
def M_addNames_89 (L7 : Int → Int → Ob → Prop) (L57 : Int → Int → Int → Int → Ob → Prop) (x1 : Int) (x2 : Int) (x4 : Int) (s0 : Int) (m : Ob) (K : Int → Ob → Prop) : Prop :=
  R32 (x4 + 1) ∧ L57 x1 x2 s0 (x4 + 1) m
def M_addNames_57 (L7 : Int → Int → Ob → Prop) : Nat → Int → Int → Int → Int → Ob → (Int → Ob → Prop) → Prop
  | 0, _, _, _, _, _, _ => False
  | n57 + 1, x1, x2, x3, x4, m, K => ((x1 ≤ x4 → M_addNames_96 L7 x1 x2 x3 m K) ∧ (¬ x1 ≤ x4 → ((¬ x3 = 0 → M_addNames_96 L7 x1 x2 x3 m K) ∧ (x3 = 0 → ((0 : Int) ≤ x4 ∧ x4 < (300 : Int)) ∧ ((0 : Int) ≤ x2 ∧ x2 < (500 : Int)) ∧ ((¬ (m.2.2.2 3 x4) = (m.2.2.2 0 x2) → M_addNames_89 L7 (fun x1 x2 x3 x4 m' => M_addNames_57 L7 n57 x1 x2 x3 x4 m' K) x1 x2 x4 0 m K) ∧ ((m.2.2.2 3 x4) = (m.2.2.2 0 x2) → M_addNames_89 L7 (fun x1 x2 x3 x4 m' => M_addNames_57 L7 n57 x1 x2 x3 x4 m' K) x1 x2 x4 1 m K))))))
def M_addNames_53 (L7 : Int → Int → Ob → Prop) (x1 : Int) (x2 : Int) (s0 : Int) (m : Ob) (K : Int → Ob → Prop) : Prop :=
  ∃ n57, M_addNames_57 L7 n57 x1 x2 s0 0 m K
def M_addNames_48 (L7 : Int → Int → Ob → Prop) (x1 : Int) (x2 : Int) (m : Ob) (K : Int → Ob → Prop) : Prop :=
  M_addNames_53 L7 x1 x2 1 m K
def M_addNames_7  : Nat → Int → Int → Ob → (Int → Ob → Prop) → Prop
  | 0, _, _, _, _ => False
  | n7 + 1, x1, x2, m, K => (((m.1 4) ≤ x2 → K x1 m) ∧ (¬ (m.1 4) ≤ x2 → ((0 : Int) ≤ x2 ∧ x2 < (500 : Int)) ∧ (((m.2.1 1 x2) < 0 → M_addNames_48 (fun x1 x2 m' => M_addNames_7 n7 x1 x2 m' K) x1 x2 m K) ∧ (¬ (m.2.1 1 x2) < 0 → ((0 : Int) ≤ x2 ∧ x2 < (500 : Int)) ∧ (((m.2.2.2 0 x2) = 1 → M_addNames_48 (fun x1 x2 m' => M_addNames_7 n7 x1 x2 m' K) x1 x2 m K) ∧ (¬ (m.2.2.2 0 x2) = 1 → ((0 : Int) ≤ x2 ∧ x2 < (500 : Int)) ∧ ((¬ (m.2.2.2 0 x2) = 2 → M_addNames_53 (fun x1 x2 m' => M_addNames_7 n7 x1 x2 m' K) x1 x2 0 m K) ∧ ((m.2.2.2 0 x2) = 2 → M_addNames_48 (fun x1 x2 m' => M_addNames_7 n7 x1 x2 m' K) x1 x2 m K))))))))
def wp_M_addNames  (m : Ob) (K : Int → Ob → Prop) : Prop :=
  ∃ n7, M_addNames_7 n7 (m.1 11) 0 m K
def M_keep_105  : Nat → Int → Int → Int → Int → Ob → (Ob → Prop) → Prop
  | 0, _, _, _, _, _, _ => False
  | n105 + 1, x1, x2, x3, x4, m, K => ((0 : Int) ≤ x3 ∧ x3 < (25 : Int)) ∧ (((m.2.1 12 x3) ≤ x4 → K m) ∧ (¬ (m.2.1 12 x3) ≤ x4 → R32 (8 * x3) ∧ R32 ((8 * x3) + x4) ∧ R32 (40 * x3) ∧ R32 (x2 + x4) ∧ ((0 : Int) ≤ (x2 + x4) ∧ (x2 + x4) < (242 : Int)) ∧ R32 ((40 * x3) + (m.2.1 5 (x2 + x4))) ∧ ((0 : Int) ≤ x1 ∧ x1 < (242 : Int)) ∧ R32 (((40 * x3) + (m.2.1 5 (x2 + x4))) - (m.2.1 2 x1)) ∧ ((0 : Int) ≤ ((8 * x3) + x4) ∧ ((8 * x3) + x4) < (200 : Int)) ∧ R32 (x4 + 1) ∧ M_keep_105 n105 x1 x2 x3 (x4 + 1) (sA m 13 ((8 * x3) + x4) (((40 * x3) + (m.2.1 5 (x2 + x4))) - (m.2.1 2 x1))) K))
def M_keep_90  (x1 : Int) (x2 : Int) (x3 : Int) (m : Ob) (K : Ob → Prop) : Prop :=
  ((0 : Int) ≤ x1 ∧ x1 < (242 : Int)) ∧ ((0 : Int) ≤ x3 ∧ x3 < (25 : Int)) ∧ ∃ n105, M_keep_105 n105 x1 x2 x3 0 (sA m 12 x3 (m.2.1 3 x1)) K
def M_keep_21  : Nat → Int → Int → Int → Int → Ob → (Ob → Prop) → Prop
  | 0, _, _, _, _, _, _ => False
  | n21 + 1, x1, x2, x3, x4, m, K => ((0 : Int) ≤ x3 ∧ x3 < (25 : Int)) ∧ (((m.2.1 11 x3) ≤ x4 → M_keep_90 x1 x2 x3 m K) ∧ (¬ (m.2.1 11 x3) ≤ x4 → R32 (40 * x3) ∧ R32 ((40 * x3) + x4) ∧ ((0 : Int) ≤ x1 ∧ x1 < (242 : Int)) ∧ R32 ((m.2.1 2 x1) + x4) ∧ ((0 : Int) ≤ ((m.2.1 2 x1) + x4) ∧ ((m.2.1 2 x1) + x4) < (500 : Int)) ∧ ((0 : Int) ≤ ((40 * x3) + x4) ∧ ((40 * x3) + x4) < (1000 : Int)) ∧ R32 (40 * x3) ∧ R32 ((40 * x3) + x4) ∧ ((0 : Int) ≤ x1 ∧ x1 < (242 : Int)) ∧ R32 ((m.2.1 2 x1) + x4) ∧ ((0 : Int) ≤ ((m.2.1 2 x1) + x4) ∧ ((m.2.1 2 x1) + x4) < (500 : Int)) ∧ ((0 : Int) ≤ ((40 * x3) + x4) ∧ ((40 * x3) + x4) < (1000 : Int)) ∧ R32 (x4 + 1) ∧ M_keep_21 n21 x1 x2 x3 (x4 + 1) (sA (sL m 2 ((40 * x3) + x4) (m.2.2.2 0 ((m.2.1 2 x1) + x4))) 10 ((40 * x3) + x4) (m.2.1 1 ((m.2.1 2 x1) + x4))) K))
def wp_M_keep (x1 : Int) (x2 : Int) (x3 : Int) (m : Ob) (K : Ob → Prop) : Prop :=
  wp_M_endOf x1 m (fun r_1 => ((0 : Int) ≤ x1 ∧ x1 < (242 : Int)) ∧ R32 (r_1 - (m.2.1 2 x1)) ∧ ((0 : Int) ≤ x3 ∧ x3 < (25 : Int)) ∧ ∃ n21, M_keep_21 n21 x1 x2 x3 0 (sA m 11 x3 (r_1 - (m.2.1 2 x1))) K)
def M_consult_156   (m : Ob) (K : Int → Ob → Prop) : Prop :=
  K (m.1 5) m
def M_consult_107  : Nat → Int → Int → Ob → (Int → Ob → Prop) → Prop
  | 0, _, _, _, _ => False
  | n107 + 1, x4, x5, m, K => (((m.1 5) ≤ x5 → M_consult_156 m K) ∧ (¬ (m.1 5) ≤ x5 → wp_M_keep x5 x4 (m.1 10) m (fun m_6 => ((0 : Int) ≤ x5 ∧ x5 < (242 : Int)) ∧ R32 (x4 + (m_6.2.1 3 x5)) ∧ R32 ((m_6.1 10) + 1) ∧ R32 (x5 + 1) ∧ M_consult_107 n107 (x4 + (m_6.2.1 3 x5)) (x5 + 1) (sI m_6 10 ((m_6.1 10) + 1)) K)))
def M_consult_77  (x2 : Int) (m : Ob) (K : Int → Ob → Prop) : Prop :=
  wp_M_addNames m (fun r_5 m_4 => ((¬ x2 = 0 → K (-1000) m_4) ∧ (x2 = 0 → ((r_5 ≤ 32 → ∃ n107, M_consult_107 n107 0 0 (sI m_4 11 r_5) K) ∧ (¬ r_5 ≤ 32 → K (-1000) m_4)))))
def M_consult_70 (L45 : Int → Int → Ob → Prop) (x3 : Int) (s0 : Int) (m : Ob) (K : Int → Ob → Prop) : Prop :=
  R32 (x3 + 1) ∧ L45 s0 (x3 + 1) m
def M_consult_65 (L45 : Int → Int → Ob → Prop) (x3 : Int) (m : Ob) (K : Int → Ob → Prop) : Prop :=
  M_consult_70 L45 x3 1 m K
def M_consult_45  : Nat → Int → Int → Ob → (Int → Ob → Prop) → Prop
  | 0, _, _, _, _ => False
  | n45 + 1, x2, x3, m, K => (((m.1 5) ≤ x3 → M_consult_77 x2 m K) ∧ (¬ (m.1 5) ≤ x3 → ((¬ x2 = 0 → M_consult_65 (fun x2 x3 m' => M_consult_45 n45 x2 x3 m' K) x3 m K) ∧ (x2 = 0 → wp_M_tooMuch x3 m (fun r_7 => ((r_7 = 0 → M_consult_70 (fun x2 x3 m' => M_consult_45 n45 x2 x3 m' K) x3 0 m K) ∧ (¬ r_7 = 0 → M_consult_65 (fun x2 x3 m' => M_consult_45 n45 x2 x3 m' K) x3 m K)))))))
def M_consult_42  (s0 : Int) (m : Ob) (K : Int → Ob → Prop) : Prop :=
  ∃ n45, M_consult_45 n45 s0 0 m K
def wp_M_consult  (m : Ob) (K : Int → Ob → Prop) : Prop :=
  wp_M_read 0 m (fun r_2 m_1 => wp_M_noSearch (sI m_1 0 0) (fun m_3 => ((r_2 < 0 → R32 ((m_3.1 10) + (m_3.1 5)) ∧ ((((m_3.1 10) + (m_3.1 5)) ≤ 24 → M_consult_42 0 m_3 K) ∧ (¬ ((m_3.1 10) + (m_3.1 5)) ≤ 24 → M_consult_42 1 m_3 K))) ∧ (¬ r_2 < 0 → R32 ((-1) - r_2) ∧ K ((-1) - r_2) m_3))))
def M_clearFrame_2  : Nat → Int → Int → Ob → (Ob → Prop) → Prop
  | 0, _, _, _, _ => False
  | n2 + 1, x1, x2, m, K => ((8 ≤ x2 → K m) ∧ (¬ 8 ≤ x2 → R32 (8 * x1) ∧ R32 ((8 * x1) + x2) ∧ ((0 : Int) ≤ ((8 * x1) + x2) ∧ ((8 * x1) + x2) < (488 : Int)) ∧ R32 (x2 + 1) ∧ M_clearFrame_2 n2 x1 (x2 + 1) (sA m 22 ((8 * x1) + x2) (-1)) K))
def wp_M_clearFrame (x1 : Int) (m : Ob) (K : Ob → Prop) : Prop :=
  ∃ n2, M_clearFrame_2 n2 x1 0 m K
def M_prepend_10  : Nat → Int → Int → Int → Int → Ob → (Ob → Prop) → Prop
  | 0, _, _, _, _, _, _ => False
  | n10 + 1, x1, x2, x3, x4, m, K => ((x4 < 0 → K m) ∧ (¬ x4 < 0 → R32 (8 * x1) ∧ R32 ((8 * x1) + x4) ∧ ((0 : Int) ≤ ((8 * x1) + x4) ∧ ((8 * x1) + x4) < (200 : Int)) ∧ ((0 : Int) ≤ (m.1 18) ∧ (m.1 18) < (300 : Int)) ∧ ((0 : Int) ≤ (m.1 18) ∧ (m.1 18) < (300 : Int)) ∧ ((0 : Int) ≤ (m.1 18) ∧ (m.1 18) < (300 : Int)) ∧ R32 ((m.1 18) + 1) ∧ R32 (x4 + (-1)) ∧ M_prepend_10 n10 x1 x2 x3 (x4 + (-1)) (sI (sA (sA (sA m 19 (m.1 18) (m.2.1 13 ((8 * x1) + x4))) 20 (m.1 18) x2) 21 (m.1 18) x3) 18 ((m.1 18) + 1)) K))
def wp_M_prepend (x1 : Int) (x2 : Int) (x3 : Int) (m : Ob) (K : Ob → Prop) : Prop :=
  ((0 : Int) ≤ x1 ∧ x1 < (25 : Int)) ∧ R32 ((m.2.1 12 x1) - 1) ∧ ∃ n10, M_prepend_10 n10 x1 x2 x3 ((m.2.1 12 x1) - 1) m K
def wp_M_begin  (m : Ob) (K : Ob → Prop) : Prop :=
  wp_M_clearFrame 0 (sI (sI m 18 0) 16 0) (fun m_1 => wp_M_prepend 24 0 0 m_1 (fun m_2 => K m_2))
def M_ask_122   (m : Ob) (K : Int → Ob → Prop) : Prop :=
  wp_M_begin (sI m 13 1) (fun m_8 => K (m_8.1 12) m_8)
def M_ask_116 (L66 : Int → Ob → Prop) (x3 : Int) (m : Ob) (K : Int → Ob → Prop) : Prop :=
  R32 (x3 + 1) ∧ L66 (x3 + 1) m
def M_ask_66  : Nat → Int → Ob → (Int → Ob → Prop) → Prop
  | 0, _, _, _ => False
  | n66 + 1, x3, m, K => (((m.1 7) ≤ x3 → M_ask_122 m K) ∧ (¬ (m.1 7) ≤ x3 → ((0 : Int) ≤ x3 ∧ x3 < (242 : Int)) ∧ (((m.2.2.2 1 x3) = 95 → M_ask_116 (fun x3 m' => M_ask_66 n66 x3 m' K) x3 m K) ∧ (¬ (m.2.2.2 1 x3) = 95 → ((0 : Int) ≤ x3 ∧ x3 < (242 : Int)) ∧ R32 (960 + (m.2.1 6 x3)) ∧ ((0 : Int) ≤ (m.1 12) ∧ (m.1 12) < (8 : Int)) ∧ R32 ((m.1 12) + 1) ∧ M_ask_116 (fun x3 m' => M_ask_66 n66 x3 m' K) x3 (sI (sA m 14 (m.1 12) (960 + (m.2.1 6 x3))) 12 ((m.1 12) + 1)) K))))
def wp_M_ask  (m : Ob) (K : Int → Ob → Prop) : Prop :=
  wp_M_read 1 m (fun r_2 m_1 => wp_M_noSearch (sI m_1 0 0) (fun m_3 => ((r_2 < 0 → wp_M_addNames m_3 (fun r_5 m_4 => wp_M_tooMuch 0 m_4 (fun r_6 => ((¬ r_6 = 0 → K (-1000) m_4) ∧ (r_6 = 0 → ((r_5 ≤ 32 → wp_M_keep 0 0 24 (sI m_4 11 r_5) (fun m_7 => ∃ n66, M_ask_66 n66 0 (sI m_7 12 0) K)) ∧ (¬ r_5 ≤ 32 → K (-1000) m_4))))))) ∧ (¬ r_2 < 0 → R32 ((-1) - r_2) ∧ K ((-1) - r_2) m_3))))
def wp_M_end (x1 : Int) (m : Ob) (K : Ob → Prop) : Prop :=
  K (sI (sI m 13 4) 14 x1)
def wp_M_isWordAlone (x1 : Int) (y2 : Nat) (m : Ob) (K : Int → Prop) : Prop :=
  ((0 : Int) ≤ x1 ∧ x1 < (1000 : Int)) ∧ ((¬ (m.2.1 10 x1) = 0 → K 0) ∧ ((m.2.1 10 x1) = 0 → ((0 : Int) ≤ x1 ∧ x1 < (1000 : Int)) ∧ ((¬ (m.2.2.2 2 x1) = y2 → K 0) ∧ ((m.2.2.2 2 x1) = y2 → K 1))))
def M_follow_12  : Nat → Int → Ob → (Ob → Prop) → Prop
  | 0, _, _, _ => False
  | n12 + 1, x3, m, K => ((500 ≤ x3 → K m) ∧ (¬ 500 ≤ x3 → ((0 : Int) ≤ (m.1 19) ∧ (m.1 19) < (1000 : Int)) ∧ ((¬ (m.2.1 10 (m.1 19)) = (-1) → K m) ∧ ((m.2.1 10 (m.1 19)) = (-1) → R32 (8 * (m.1 20)) ∧ ((0 : Int) ≤ (m.1 19) ∧ (m.1 19) < (1000 : Int)) ∧ (m.2.2.2 2 (m.1 19)) < 2147483648 ∧ R32 ((8 * (m.1 20)) + (((m.2.2.2 2 (m.1 19)) : Nat) : Int)) ∧ ((0 : Int) ≤ ((8 * (m.1 20)) + (((m.2.2.2 2 (m.1 19)) : Nat) : Int)) ∧ ((8 * (m.1 20)) + (((m.2.2.2 2 (m.1 19)) : Nat) : Int)) < (488 : Int)) ∧ ((0 ≤ (m.2.1 22 ((8 * (m.1 20)) + (((m.2.2.2 2 (m.1 19)) : Nat) : Int))) → ((0 : Int) ≤ ((8 * (m.1 20)) + (((m.2.2.2 2 (m.1 19)) : Nat) : Int)) ∧ ((8 * (m.1 20)) + (((m.2.2.2 2 (m.1 19)) : Nat) : Int)) < (488 : Int)) ∧ ((0 : Int) ≤ ((8 * (m.1 20)) + (((m.2.2.2 2 (m.1 19)) : Nat) : Int)) ∧ ((8 * (m.1 20)) + (((m.2.2.2 2 (m.1 19)) : Nat) : Int)) < (488 : Int)) ∧ R32 (x3 + 1) ∧ M_follow_12 n12 (x3 + 1) (sI (sI m 19 (m.2.1 22 ((8 * (m.1 20)) + (((m.2.2.2 2 (m.1 19)) : Nat) : Int)))) 20 (m.2.1 23 ((8 * (m.1 20)) + (((m.2.2.2 2 (m.1 19)) : Nat) : Int)))) K) ∧ (¬ 0 ≤ (m.2.1 22 ((8 * (m.1 20)) + (((m.2.2.2 2 (m.1 19)) : Nat) : Int))) → K m))))))
def wp_M_follow (x1 : Int) (x2 : Int) (m : Ob) (K : Ob → Prop) : Prop :=
  ∃ n12, M_follow_12 n12 0 (sI (sI m 19 x1) 20 x2) K
def M_candidate_159 (L5 : Int → Int → Int → Ob → Prop) (x1 : Int) (x2 : Int) (x4 : Int) (x6 : Int) (m : Ob) (K : Int → Ob → Prop) : Prop :=
  ((x6 = 0 → R32 (x4 + 1) ∧ L5 x1 x2 (x4 + 1) m) ∧ (¬ x6 = 0 → K x4 m))
def M_candidate_157 (L5 : Int → Int → Int → Ob → Prop) (x1 : Int) (x2 : Int) (x4 : Int) (s0 : Int) (m : Ob) (K : Int → Ob → Prop) : Prop :=
  M_candidate_159 L5 x1 x2 x4 s0 m K
def M_candidate_152 (L5 : Int → Int → Int → Ob → Prop) (x1 : Int) (x2 : Int) (x4 : Int) (m : Ob) (K : Int → Ob → Prop) : Prop :=
  M_candidate_157 L5 x1 x2 x4 1 m K
def M_candidate_156 (L5 : Int → Int → Int → Ob → Prop) (x1 : Int) (x2 : Int) (x4 : Int) (m : Ob) (K : Int → Ob → Prop) : Prop :=
  M_candidate_157 L5 x1 x2 x4 0 m K
def M_candidate_59 (L5 : Int → Int → Int → Ob → Prop) (x1 : Int) (x2 : Int) (x4 : Int) (x5 : Int) (s0 : Int) (m : Ob) (K : Int → Ob → Prop) : Prop :=
  ((s0 = 0 → M_candidate_159 L5 x1 x2 x4 s0 m K) ∧ (¬ s0 = 0 → ((0 : Int) ≤ x1 ∧ x1 < (1000 : Int)) ∧ (((m.2.1 10 x1) ≤ 0 → M_candidate_159 L5 x1 x2 x4 s0 m K) ∧ (¬ (m.2.1 10 x1) ≤ 0 → R32 (x1 + 1) ∧ wp_M_follow (x1 + 1) x2 m (fun m_1 => R32 (x5 + 1) ∧ ((0 : Int) ≤ (x5 + 1) ∧ (x5 + 1) < (1000 : Int)) ∧ (((m_1.2.1 10 (x5 + 1)) = (-1) → M_candidate_152 L5 x1 x2 x4 m_1 K) ∧ (¬ (m_1.2.1 10 (x5 + 1)) = (-1) → ((0 : Int) ≤ (m_1.1 19) ∧ (m_1.1 19) < (1000 : Int)) ∧ (((m_1.2.1 10 (m_1.1 19)) = (-1) → M_candidate_152 L5 x1 x2 x4 m_1 K) ∧ (¬ (m_1.2.1 10 (m_1.1 19)) = (-1) → ((0 : Int) ≤ (x5 + 1) ∧ (x5 + 1) < (1000 : Int)) ∧ ((0 : Int) ≤ (m_1.1 19) ∧ (m_1.1 19) < (1000 : Int)) ∧ ((¬ (m_1.2.2.2 2 (x5 + 1)) = (m_1.2.2.2 2 (m_1.1 19)) → M_candidate_156 L5 x1 x2 x4 m_1 K) ∧ ((m_1.2.2.2 2 (x5 + 1)) = (m_1.2.2.2 2 (m_1.1 19)) → ((0 : Int) ≤ (x5 + 1) ∧ (x5 + 1) < (1000 : Int)) ∧ ((0 : Int) ≤ (m_1.1 19) ∧ (m_1.1 19) < (1000 : Int)) ∧ ((¬ (m_1.2.1 10 (x5 + 1)) = (m_1.2.1 10 (m_1.1 19)) → M_candidate_156 L5 x1 x2 x4 m_1 K) ∧ ((m_1.2.1 10 (x5 + 1)) = (m_1.2.1 10 (m_1.1 19)) → M_candidate_152 L5 x1 x2 x4 m_1 K)))))))))))))
def M_candidate_58 (L5 : Int → Int → Int → Ob → Prop) (x1 : Int) (x2 : Int) (x4 : Int) (x5 : Int) (m : Ob) (K : Int → Ob → Prop) : Prop :=
  M_candidate_59 L5 x1 x2 x4 x5 0 m K
def M_candidate_5  : Nat → Int → Int → Int → Ob → (Int → Ob → Prop) → Prop
  | 0, _, _, _, _, _ => False
  | n5 + 1, x1, x2, x4, m, K => (((m.1 10) ≤ x4 → K (-1) m) ∧ (¬ (m.1 10) ≤ x4 → R32 (40 * x4) ∧ ((0 : Int) ≤ (40 * x4) ∧ (40 * x4) < (1000 : Int)) ∧ ((0 : Int) ≤ x1 ∧ x1 < (1000 : Int)) ∧ ((¬ (m.2.2.2 2 (40 * x4)) = (m.2.2.2 2 x1) → M_candidate_58 (fun x1 x2 x4 m' => M_candidate_5 n5 x1 x2 x4 m' K) x1 x2 x4 (40 * x4) m K) ∧ ((m.2.2.2 2 (40 * x4)) = (m.2.2.2 2 x1) → ((0 : Int) ≤ (40 * x4) ∧ (40 * x4) < (1000 : Int)) ∧ ((0 : Int) ≤ x1 ∧ x1 < (1000 : Int)) ∧ ((¬ (m.2.1 10 (40 * x4)) = (m.2.1 10 x1) → M_candidate_58 (fun x1 x2 x4 m' => M_candidate_5 n5 x1 x2 x4 m' K) x1 x2 x4 (40 * x4) m K) ∧ ((m.2.1 10 (40 * x4)) = (m.2.1 10 x1) → M_candidate_59 (fun x1 x2 x4 m' => M_candidate_5 n5 x1 x2 x4 m' K) x1 x2 x4 (40 * x4) 1 m K))))))
def wp_M_candidate (x1 : Int) (x2 : Int) (x3 : Int) (m : Ob) (K : Int → Ob → Prop) : Prop :=
  R32 (x3 + 1) ∧ ∃ n5, M_candidate_5 n5 x1 x2 (x3 + 1) m K
def M_behind_29 (L4 : Int → Int → Prop) (x2 : Int) (s0 : Int) (m : Ob) (K : Int → Prop) : Prop :=
  R32 (x2 + 1) ∧ R32 (s0 + (-1)) ∧ L4 (x2 + 1) (s0 + (-1))
def M_behind_4  : Nat → Int → Int → Ob → (Int → Prop) → Prop
  | 0, _, _, _, _ => False
  | n4 + 1, x2, x3, m, K => ((x3 ≤ 0 → K x2) ∧ (¬ x3 ≤ 0 → ((0 : Int) ≤ x2 ∧ x2 < (1000 : Int)) ∧ (((m.2.1 10 x2) ≤ 0 → M_behind_29 (fun x2 x3 => M_behind_4 n4 x2 x3 m K) x2 x3 m K) ∧ (¬ (m.2.1 10 x2) ≤ 0 → ((0 : Int) ≤ x2 ∧ x2 < (1000 : Int)) ∧ R32 (x3 + (m.2.1 10 x2)) ∧ M_behind_29 (fun x2 x3 => M_behind_4 n4 x2 x3 m K) x2 (x3 + (m.2.1 10 x2)) m K))))
def wp_M_behind (x1 : Int) (m : Ob) (K : Int → Prop) : Prop :=
  ∃ n4, M_behind_4 n4 x1 1 m K
def M_pushAll_78  (x3 : Int) (x4 : Int) (m : Ob) (K : Int → Ob → Prop) : Prop :=
  R32 (2 * x4) ∧ R32 (x3 + (2 * x4)) ∧ K (x3 + (2 * x4)) m
def M_pushAll_32  : Nat → Int → Int → Int → Int → Int → Ob → (Int → Ob → Prop) → Prop
  | 0, _, _, _, _, _, _, _ => False
  | n32 + 1, x2, x3, x4, x5, x6, m, K => ((x6 < 0 → M_pushAll_78 x3 x4 m K) ∧ (¬ x6 < 0 → R32 (2 * x6) ∧ R32 (x3 + (2 * x6)) ∧ ((0 : Int) ≤ (x3 + (2 * x6)) ∧ (x3 + (2 * x6)) < (8000 : Int)) ∧ R32 (2 * x6) ∧ R32 (x3 + (2 * x6)) ∧ R32 ((x3 + (2 * x6)) + 1) ∧ ((0 : Int) ≤ ((x3 + (2 * x6)) + 1) ∧ ((x3 + (2 * x6)) + 1) < (8000 : Int)) ∧ wp_M_behind x5 (sA (sA m 24 (x3 + (2 * x6)) x5) 24 ((x3 + (2 * x6)) + 1) x2) (fun r_1 => R32 (x6 + (-1)) ∧ M_pushAll_32 n32 x2 x3 x4 r_1 (x6 + (-1)) (sA (sA m 24 (x3 + (2 * x6)) x5) 24 ((x3 + (2 * x6)) + 1) x2) K)))
def M_pushAll_19  (x1 : Int) (x2 : Int) (x3 : Int) (s0 : Int) (m : Ob) (K : Int → Ob → Prop) : Prop :=
  R32 (x1 + 1) ∧ R32 (s0 - 1) ∧ ∃ n32, M_pushAll_32 n32 x2 x3 s0 (x1 + 1) (s0 - 1) m K
def wp_M_pushAll (x1 : Int) (x2 : Int) (x3 : Int) (m : Ob) (K : Int → Ob → Prop) : Prop :=
  ((0 : Int) ≤ x1 ∧ x1 < (1000 : Int)) ∧ (((m.2.1 10 x1) ≤ 0 → M_pushAll_19 x1 x2 x3 0 m K) ∧ (¬ (m.2.1 10 x1) ≤ 0 → ((0 : Int) ≤ x1 ∧ x1 < (1000 : Int)) ∧ M_pushAll_19 x1 x2 x3 (m.2.1 10 x1) m K))
def M_stands_90 (L24 : Int → Int → Int → Ob → Prop) (x1 : Int) (x4 : Int) (x5 : Int) (m : Ob) (K : Int → Ob → Prop) : Prop :=
  R32 (x5 - 2) ∧ wp_M_pushAll (m.1 19) (m.1 20) (x5 - 2) m (fun r_3 m_2 => L24 x1 x4 r_3 m_2)
def M_stands_24  : Nat → Int → Int → Int → Ob → (Int → Ob → Prop) → Prop
  | 0, _, _, _, _, _ => False
  | n24 + 1, x1, x4, x5, m, K => ((x5 ≤ x4 → K 0 m) ∧ (¬ x5 ≤ x4 → R32 (x5 - 2) ∧ ((0 : Int) ≤ (x5 - 2) ∧ (x5 - 2) < (8000 : Int)) ∧ R32 (x5 - 1) ∧ ((0 : Int) ≤ (x5 - 1) ∧ (x5 - 1) < (8000 : Int)) ∧ wp_M_follow (m.2.1 24 (x5 - 2)) (m.2.1 24 (x5 - 1)) m (fun m_1 => ((0 : Int) ≤ (m_1.1 19) ∧ (m_1.1 19) < (1000 : Int)) ∧ ((¬ (m_1.2.1 10 (m_1.1 19)) = (-1) → M_stands_90 (fun x1 x4 x5 m' => M_stands_24 n24 x1 x4 x5 m' K) x1 x4 x5 m_1 K) ∧ ((m_1.2.1 10 (m_1.1 19)) = (-1) → R32 (8 * (m_1.1 20)) ∧ ((0 : Int) ≤ (m_1.1 19) ∧ (m_1.1 19) < (1000 : Int)) ∧ (m_1.2.2.2 2 (m_1.1 19)) < 2147483648 ∧ R32 ((8 * (m_1.1 20)) + (((m_1.2.2.2 2 (m_1.1 19)) : Nat) : Int)) ∧ ((¬ ((8 * (m_1.1 20)) + (((m_1.2.2.2 2 (m_1.1 19)) : Nat) : Int)) = x1 → M_stands_90 (fun x1 x4 x5 m' => M_stands_24 n24 x1 x4 x5 m' K) x1 x4 x5 m_1 K) ∧ (((8 * (m_1.1 20)) + (((m_1.2.2.2 2 (m_1.1 19)) : Nat) : Int)) = x1 → K 1 m_1)))))))
def wp_M_stands (x1 : Int) (x2 : Int) (x3 : Int) (x4 : Int) (m : Ob) (K : Int → Ob → Prop) : Prop :=
  ((0 : Int) ≤ x4 ∧ x4 < (8000 : Int)) ∧ R32 (x4 + 1) ∧ ((0 : Int) ≤ (x4 + 1) ∧ (x4 + 1) < (8000 : Int)) ∧ R32 (x4 + 2) ∧ ∃ n24, M_stands_24 n24 x1 x4 (x4 + 2) (sA (sA m 24 x4 x2) 24 (x4 + 1) x3) K
def wp_M_bind (x1 : Int) (x2 : Int) (x3 : Int) (x4 : Int) (m : Ob) (K : Int → Ob → Prop) : Prop :=
  wp_M_stands x1 x2 x3 x4 m (fun r_2 m_1 => ((r_2 = 0 → ((0 : Int) ≤ x1 ∧ x1 < (488 : Int)) ∧ ((0 : Int) ≤ x1 ∧ x1 < (488 : Int)) ∧ K 1 (sA (sA m_1 22 x1 x2) 23 x1 x3)) ∧ (¬ r_2 = 0 → K 0 m_1)))
def M_equalize_430 (L32 : Int → Ob → Prop) (x5 : Int) (m : Ob) (K : Int → Ob → Prop) : Prop :=
  L32 x5 m
def M_equalize_343 (L32 : Int → Ob → Prop) : Nat → Int → Int → Int → Int → Int → Int → Int → Int → Ob → (Int → Ob → Prop) → Prop
  | 0, _, _, _, _, _, _, _, _, _, _ => False
  | n343 + 1, x5, x6, x7, x9, x15, x16, x17, x18, m, K => ((0 : Int) ≤ x6 ∧ x6 < (1000 : Int)) ∧ (((m.2.1 10 x6) ≤ x18 → M_equalize_430 L32 x5 m K) ∧ (¬ (m.2.1 10 x6) ≤ x18 → ((¬ x15 = 0 → M_equalize_430 L32 x5 m K) ∧ (x15 = 0 → ((0 : Int) ≤ x5 ∧ x5 < (8000 : Int)) ∧ R32 (x5 + 1) ∧ ((0 : Int) ≤ (x5 + 1) ∧ (x5 + 1) < (8000 : Int)) ∧ R32 (x5 + 2) ∧ ((0 : Int) ≤ (x5 + 2) ∧ (x5 + 2) < (8000 : Int)) ∧ R32 (x5 + 3) ∧ ((0 : Int) ≤ (x5 + 3) ∧ (x5 + 3) < (8000 : Int)) ∧ R32 (x5 + 4) ∧ wp_M_behind x16 (sA (sA (sA (sA m 24 x5 x16) 24 (x5 + 1) x7) 24 (x5 + 2) x17) 24 (x5 + 3) x9) (fun r_3 => wp_M_behind x17 (sA (sA (sA (sA m 24 x5 x16) 24 (x5 + 1) x7) 24 (x5 + 2) x17) 24 (x5 + 3) x9) (fun r_4 => R32 (x18 + 1) ∧ M_equalize_343 L32 n343 (x5 + 4) x6 x7 x9 x15 r_3 r_4 (x18 + 1) (sA (sA (sA (sA m 24 x5 x16) 24 (x5 + 1) x7) 24 (x5 + 2) x17) 24 (x5 + 3) x9) K))))))
def M_equalize_328 (L32 : Int → Ob → Prop) (x5 : Int) (x6 : Int) (x7 : Int) (x8 : Int) (x9 : Int) (x15 : Int) (m : Ob) (K : Int → Ob → Prop) : Prop :=
  R32 (x6 + 1) ∧ R32 (x8 + 1) ∧ ∃ n343, M_equalize_343 L32 n343 x5 x6 x7 x9 x15 (x6 + 1) (x8 + 1) 0 m K
def M_equalize_286 (L32 : Int → Ob → Prop) (x5 : Int) (x6 : Int) (x7 : Int) (x8 : Int) (x9 : Int) (x15 : Int) (m : Ob) (K : Int → Ob → Prop) : Prop :=
  ((¬ x15 = 0 → M_equalize_328 L32 x5 x6 x7 x8 x9 x15 m K) ∧ (x15 = 0 → ((0 : Int) ≤ x6 ∧ x6 < (1000 : Int)) ∧ ((0 : Int) ≤ x8 ∧ x8 < (1000 : Int)) ∧ ((¬ (m.2.2.2 2 x6) = (m.2.2.2 2 x8) → K 0 m) ∧ ((m.2.2.2 2 x6) = (m.2.2.2 2 x8) → ((0 : Int) ≤ x6 ∧ x6 < (1000 : Int)) ∧ ((0 : Int) ≤ x8 ∧ x8 < (1000 : Int)) ∧ (((m.2.1 10 x6) = (m.2.1 10 x8) → M_equalize_328 L32 x5 x6 x7 x8 x9 x15 m K) ∧ (¬ (m.2.1 10 x6) = (m.2.1 10 x8) → K 0 m))))))
def M_equalize_234 (L32 : Int → Ob → Prop) (x5 : Int) (x6 : Int) (x7 : Int) (x8 : Int) (x9 : Int) (x10 : Int) (x12 : Int) (x13 : Int) (x14 : Int) (s0 : Int) (m : Ob) (K : Int → Ob → Prop) : Prop :=
  ((s0 = 0 → M_equalize_286 L32 x5 x6 x7 x8 x9 s0 m K) ∧ (¬ s0 = 0 → ((¬ x14 = 0 → M_equalize_286 L32 x5 x6 x7 x8 x9 s0 m K) ∧ (x14 = 0 → ((x10 = 0 → wp_M_bind x13 x6 x7 x5 m (fun r_6 m_5 => ((¬ r_6 = 0 → M_equalize_286 L32 x5 x6 x7 x8 x9 s0 m_5 K) ∧ (r_6 = 0 → K 0 m_5)))) ∧ (¬ x10 = 0 → wp_M_bind x12 x8 x9 x5 m (fun r_8 m_7 => ((r_8 = 0 → K 0 m_7) ∧ (¬ r_8 = 0 → M_equalize_286 L32 x5 x6 x7 x8 x9 s0 m_7 K)))))))))
def M_equalize_229 (L32 : Int → Ob → Prop) (x5 : Int) (x6 : Int) (x7 : Int) (x8 : Int) (x9 : Int) (x10 : Int) (x12 : Int) (x13 : Int) (x14 : Int) (m : Ob) (K : Int → Ob → Prop) : Prop :=
  M_equalize_234 L32 x5 x6 x7 x8 x9 x10 x12 x13 x14 1 m K
def M_equalize_217 (L32 : Int → Ob → Prop) (x5 : Int) (x6 : Int) (x7 : Int) (x8 : Int) (x9 : Int) (x10 : Int) (x11 : Int) (x12 : Int) (x13 : Int) (s0 : Int) (m : Ob) (K : Int → Ob → Prop) : Prop :=
  ((¬ x10 = 0 → M_equalize_229 L32 x5 x6 x7 x8 x9 x10 x12 x13 s0 m K) ∧ (x10 = 0 → ((x11 = 0 → M_equalize_234 L32 x5 x6 x7 x8 x9 x10 x12 x13 s0 0 m K) ∧ (¬ x11 = 0 → M_equalize_229 L32 x5 x6 x7 x8 x9 x10 x12 x13 s0 m K))))
def M_equalize_216 (L32 : Int → Ob → Prop) (x5 : Int) (x6 : Int) (x7 : Int) (x8 : Int) (x9 : Int) (x10 : Int) (x11 : Int) (x12 : Int) (x13 : Int) (m : Ob) (K : Int → Ob → Prop) : Prop :=
  M_equalize_217 L32 x5 x6 x7 x8 x9 x10 x11 x12 x13 0 m K
def M_equalize_193 (L32 : Int → Ob → Prop) (x5 : Int) (x6 : Int) (x7 : Int) (x8 : Int) (x9 : Int) (x10 : Int) (x11 : Int) (x12 : Int) (s0 : Int) (m : Ob) (K : Int → Ob → Prop) : Prop :=
  ((x10 = 0 → M_equalize_216 L32 x5 x6 x7 x8 x9 x10 x11 x12 s0 m K) ∧ (¬ x10 = 0 → ((x11 = 0 → M_equalize_216 L32 x5 x6 x7 x8 x9 x10 x11 x12 s0 m K) ∧ (¬ x11 = 0 → ((¬ x12 = s0 → M_equalize_216 L32 x5 x6 x7 x8 x9 x10 x11 x12 s0 m K) ∧ (x12 = s0 → M_equalize_217 L32 x5 x6 x7 x8 x9 x10 x11 x12 s0 1 m K))))))
def M_equalize_168 (L32 : Int → Ob → Prop) (x5 : Int) (x6 : Int) (x7 : Int) (x8 : Int) (x9 : Int) (x10 : Int) (x11 : Int) (s0 : Int) (m : Ob) (K : Int → Ob → Prop) : Prop :=
  ((x11 = 0 → M_equalize_193 L32 x5 x6 x7 x8 x9 x10 x11 s0 (-1) m K) ∧ (¬ x11 = 0 → R32 (8 * x9) ∧ ((0 : Int) ≤ x8 ∧ x8 < (1000 : Int)) ∧ (m.2.2.2 2 x8) < 2147483648 ∧ R32 ((8 * x9) + (((m.2.2.2 2 x8) : Nat) : Int)) ∧ M_equalize_193 L32 x5 x6 x7 x8 x9 x10 x11 s0 ((8 * x9) + (((m.2.2.2 2 x8) : Nat) : Int)) m K))
def M_equalize_143 (L32 : Int → Ob → Prop) (x5 : Int) (x6 : Int) (x7 : Int) (x8 : Int) (x9 : Int) (x10 : Int) (s0 : Int) (m : Ob) (K : Int → Ob → Prop) : Prop :=
  ((x10 = 0 → M_equalize_168 L32 x5 x6 x7 x8 x9 x10 s0 (-1) m K) ∧ (¬ x10 = 0 → R32 (8 * x7) ∧ ((0 : Int) ≤ x6 ∧ x6 < (1000 : Int)) ∧ (m.2.2.2 2 x6) < 2147483648 ∧ R32 ((8 * x7) + (((m.2.2.2 2 x6) : Nat) : Int)) ∧ M_equalize_168 L32 x5 x6 x7 x8 x9 x10 s0 ((8 * x7) + (((m.2.2.2 2 x6) : Nat) : Int)) m K))
def M_equalize_125 (L32 : Int → Ob → Prop) (x5 : Int) (x6 : Int) (x7 : Int) (x8 : Int) (x9 : Int) (s0 : Int) (m : Ob) (K : Int → Ob → Prop) : Prop :=
  ((0 : Int) ≤ x8 ∧ x8 < (1000 : Int)) ∧ ((¬ (m.2.1 10 x8) = (-1) → M_equalize_143 L32 x5 x6 x7 x8 x9 s0 0 m K) ∧ ((m.2.1 10 x8) = (-1) → M_equalize_143 L32 x5 x6 x7 x8 x9 s0 1 m K))
def M_equalize_32  : Nat → Int → Ob → (Int → Ob → Prop) → Prop
  | 0, _, _, _ => False
  | n32 + 1, x5, m, K => ((x5 ≤ 0 → K 1 m) ∧ (¬ x5 ≤ 0 → R32 (x5 - 4) ∧ ((0 : Int) ≤ (x5 - 4) ∧ (x5 - 4) < (8000 : Int)) ∧ R32 ((x5 - 4) + 1) ∧ ((0 : Int) ≤ ((x5 - 4) + 1) ∧ ((x5 - 4) + 1) < (8000 : Int)) ∧ wp_M_follow (m.2.1 24 (x5 - 4)) (m.2.1 24 ((x5 - 4) + 1)) m (fun m_1 => R32 ((x5 - 4) + 2) ∧ ((0 : Int) ≤ ((x5 - 4) + 2) ∧ ((x5 - 4) + 2) < (8000 : Int)) ∧ R32 ((x5 - 4) + 3) ∧ ((0 : Int) ≤ ((x5 - 4) + 3) ∧ ((x5 - 4) + 3) < (8000 : Int)) ∧ wp_M_follow (m_1.2.1 24 ((x5 - 4) + 2)) (m_1.2.1 24 ((x5 - 4) + 3)) m_1 (fun m_2 => ((0 : Int) ≤ (m_1.1 19) ∧ (m_1.1 19) < (1000 : Int)) ∧ ((¬ (m_2.2.1 10 (m_1.1 19)) = (-1) → M_equalize_125 (fun x5 m' => M_equalize_32 n32 x5 m' K) (x5 - 4) (m_1.1 19) (m_1.1 20) (m_2.1 19) (m_2.1 20) 0 m_2 K) ∧ ((m_2.2.1 10 (m_1.1 19)) = (-1) → M_equalize_125 (fun x5 m' => M_equalize_32 n32 x5 m' K) (x5 - 4) (m_1.1 19) (m_1.1 20) (m_2.1 19) (m_2.1 20) 1 m_2 K))))))
def wp_M_equalize (x1 : Int) (x2 : Int) (x3 : Int) (x4 : Int) (m : Ob) (K : Int → Ob → Prop) : Prop :=
  ((0 : Int) ≤ 0 ∧ 0 < (8000 : Int)) ∧ ((0 : Int) ≤ 1 ∧ 1 < (8000 : Int)) ∧ ((0 : Int) ≤ 2 ∧ 2 < (8000 : Int)) ∧ ((0 : Int) ≤ 3 ∧ 3 < (8000 : Int)) ∧ ∃ n32, M_equalize_32 n32 4 (sA (sA (sA (sA m 24 0 x1) 24 1 x2) 24 2 x3) 24 3 x4) K
def M_symbolsOf_19  : Nat → Int → Int → Ob → (Int → Ob → Prop) → Prop
  | 0, _, _, _, _ => False
  | n19 + 1, x3, x4, m, K => ((x4 ≤ 0 → K x3 m) ∧ (¬ x4 ≤ 0 → ((121 ≤ x3 → K x3 m) ∧ (¬ 121 ≤ x3 → R32 (x4 - 2) ∧ ((0 : Int) ≤ (x4 - 2) ∧ (x4 - 2) < (8000 : Int)) ∧ R32 (x4 - 1) ∧ ((0 : Int) ≤ (x4 - 1) ∧ (x4 - 1) < (8000 : Int)) ∧ wp_M_follow (m.2.1 24 (x4 - 2)) (m.2.1 24 (x4 - 1)) m (fun m_1 => R32 (x3 + 1) ∧ R32 (x4 - 2) ∧ wp_M_pushAll (m_1.1 19) (m_1.1 20) (x4 - 2) m_1 (fun r_3 m_2 => M_symbolsOf_19 n19 (x3 + 1) r_3 m_2 K))))))
def wp_M_symbolsOf (x1 : Int) (x2 : Int) (m : Ob) (K : Int → Ob → Prop) : Prop :=
  ((0 : Int) ≤ 0 ∧ 0 < (8000 : Int)) ∧ ((0 : Int) ≤ 1 ∧ 1 < (8000 : Int)) ∧ ∃ n19, M_symbolsOf_19 n19 0 2 (sA (sA m 24 0 x1) 24 1 x2) K
def M_large_99  (x1 : Int) (m : Ob) (K : Int → Ob → Prop) : Prop :=
  ((x1 ≤ 120 → K 0 m) ∧ (¬ x1 ≤ 120 → K 1 m))
def M_large_65  : Nat → Int → Int → Ob → (Int → Ob → Prop) → Prop
  | 0, _, _, _, _ => False
  | n65 + 1, x1, x2, m, K => (((m.1 12) ≤ x2 → M_large_99 x1 m K) ∧ (¬ (m.1 12) ≤ x2 → ((121 ≤ x1 → M_large_99 x1 m K) ∧ (¬ 121 ≤ x1 → ((0 : Int) ≤ x2 ∧ x2 < (8 : Int)) ∧ wp_M_symbolsOf (m.2.1 14 x2) 0 m (fun r_2 m_1 => R32 (x1 + r_2) ∧ R32 (x2 + 1) ∧ M_large_65 n65 (x1 + r_2) (x2 + 1) m_1 K)))))
def M_large_63  (x1 : Int) (m : Ob) (K : Int → Ob → Prop) : Prop :=
  ∃ n65, M_large_65 n65 x1 0 m K
def M_large_55 (L4 : Int → Int → Ob → Prop) (x2 : Int) (s0 : Int) (s1 : Int) (m : Ob) (K : Int → Ob → Prop) : Prop :=
  R32 (s1 + s0) ∧ R32 (x2 + 1) ∧ L4 (s1 + s0) (x2 + 1) m
def M_large_4  : Nat → Int → Int → Ob → (Int → Ob → Prop) → Prop
  | 0, _, _, _, _ => False
  | n4 + 1, x1, x2, m, K => (((m.1 18) ≤ x2 → M_large_63 x1 m K) ∧ (¬ (m.1 18) ≤ x2 → ((121 ≤ x1 → M_large_63 x1 m K) ∧ (¬ 121 ≤ x1 → ((0 : Int) ≤ x2 ∧ x2 < (300 : Int)) ∧ ((0 : Int) ≤ (m.2.1 19 x2) ∧ (m.2.1 19 x2) < (1000 : Int)) ∧ ((¬ (m.2.1 10 (m.2.1 19 x2)) = (-2) → ((0 : Int) ≤ x2 ∧ x2 < (300 : Int)) ∧ ((0 : Int) ≤ x2 ∧ x2 < (300 : Int)) ∧ wp_M_symbolsOf (m.2.1 19 x2) (m.2.1 20 x2) m (fun r_4 m_3 => M_large_55 (fun x1 x2 m' => M_large_4 n4 x1 x2 m' K) x2 r_4 x1 m_3 K)) ∧ ((m.2.1 10 (m.2.1 19 x2)) = (-2) → M_large_55 (fun x1 x2 m' => M_large_4 n4 x1 x2 m' K) x2 1 x1 m K))))))
def wp_M_large  (m : Ob) (K : Int → Ob → Prop) : Prop :=
  ∃ n4, M_large_4 n4 0 0 m K
def wp_M_resolve (x1 : Int) (x2 : Int) (m : Ob) (K : Ob → Prop) : Prop :=
  ((0 : Int) ≤ (m.1 18) ∧ (m.1 18) < (300 : Int)) ∧ ((0 : Int) ≤ (m.1 18) ∧ (m.1 18) < (300 : Int)) ∧ ((0 : Int) ≤ (m.1 16) ∧ (m.1 16) < (61 : Int)) ∧ ((0 : Int) ≤ (m.1 16) ∧ (m.1 16) < (61 : Int)) ∧ R32 ((m.1 16) + 1) ∧ R32 ((m.1 15) + 1) ∧ wp_M_clearFrame ((m.1 16) + 1) (sI (sI (sA (sA m 15 (m.1 16) x1) 16 (m.1 16) x2) 16 ((m.1 16) + 1)) 15 ((m.1 15) + 1)) (fun m_1 => R32 (40 * x1) ∧ wp_M_equalize (40 * x1) (m_1.1 16) (m.2.1 19 (m.1 18)) (m.2.1 20 (m.1 18)) m_1 (fun r_3 m_2 => ((¬ r_3 = 0 → wp_M_prepend x1 (m_2.1 16) x2 (sI m_2 13 1) (fun m_4 => wp_M_large m_4 (fun r_6 m_5 => ((r_6 = 0 → K m_5) ∧ (¬ r_6 = 0 → wp_M_end 4 m_5 (fun m_7 => K m_7)))))) ∧ (r_3 = 0 → K (sI m_2 13 3)))))
def M_forward_187  (x3 : Int) (x4 : Int) (m : Ob) (K : Ob → Prop) : Prop :=
  wp_M_resolve x3 x4 m (fun m_7 => K m_7)
def M_forward_112  (x1 : Int) (x2 : Int) (s0 : Int) (m : Ob) (K : Ob → Prop) : Prop :=
  ((0 ≤ s0 → ((¬ (m.1 16) = 60 → wp_M_candidate x1 x2 s0 m (fun r_6 m_5 => ((r_6 < 0 → M_forward_187 s0 (m.1 17) m_5 K) ∧ (¬ r_6 < 0 → ((0 : Int) ≤ (m_5.1 17) ∧ (m_5.1 17) < (61 : Int)) ∧ ((0 : Int) ≤ (m_5.1 17) ∧ (m_5.1 17) < (61 : Int)) ∧ R32 ((m_5.1 17) + 1) ∧ M_forward_187 s0 (m.1 17) (sI (sA (sA m_5 17 (m_5.1 17) (m_5.1 16)) 18 (m_5.1 17) s0) 17 ((m_5.1 17) + 1)) K)))) ∧ ((m.1 16) = 60 → wp_M_end 3 m (fun m_8 => K m_8)))) ∧ (¬ 0 ≤ s0 → K (sI m 13 3)))
def M_forward_74  (s0 : Int) (m : Ob) (K : Ob → Prop) : Prop :=
  K (sI m 17 s0)
def wp_M_forward  (m : Ob) (K : Ob → Prop) : Prop :=
  R32 ((m.1 18) - 1) ∧ ((0 : Int) ≤ ((m.1 18) - 1) ∧ ((m.1 18) - 1) < (300 : Int)) ∧ ((0 : Int) ≤ ((m.1 18) - 1) ∧ ((m.1 18) - 1) < (300 : Int)) ∧ ((0 : Int) ≤ (m.2.1 19 ((m.1 18) - 1)) ∧ (m.2.1 19 ((m.1 18) - 1)) < (1000 : Int)) ∧ ((¬ (m.2.1 10 (m.2.1 19 ((m.1 18) - 1))) = (-2) → wp_M_isWordAlone (m.2.1 19 ((m.1 18) - 1)) 1702195828 (sI m 18 ((m.1 18) - 1)) (fun r_1 => ((r_1 = 0 → wp_M_isWordAlone (m.2.1 19 ((m.1 18) - 1)) 1818845542 (sI m 18 ((m.1 18) - 1)) (fun r_2 => ((r_2 = 0 → wp_M_candidate (m.2.1 19 ((m.1 18) - 1)) (m.2.1 20 ((m.1 18) - 1)) (-1) (sI m 18 ((m.1 18) - 1)) (fun r_4 m_3 => M_forward_112 (m.2.1 19 ((m.1 18) - 1)) (m.2.1 20 ((m.1 18) - 1)) r_4 m_3 K)) ∧ (¬ r_2 = 0 → M_forward_112 (m.2.1 19 ((m.1 18) - 1)) (m.2.1 20 ((m.1 18) - 1)) (-1) (sI m 18 ((m.1 18) - 1)) K)))) ∧ (¬ r_1 = 0 → K (sI m 18 ((m.1 18) - 1)))))) ∧ ((m.2.1 10 (m.2.1 19 ((m.1 18) - 1))) = (-2) → ((0 : Int) ≤ ((m.1 18) - 1) ∧ ((m.1 18) - 1) < (300 : Int)) ∧ (((m.2.1 21 ((m.1 18) - 1)) ≤ (m.1 17) → ((0 : Int) ≤ ((m.1 18) - 1) ∧ ((m.1 18) - 1) < (300 : Int)) ∧ M_forward_74 (m.2.1 21 ((m.1 18) - 1)) (sI m 18 ((m.1 18) - 1)) K) ∧ (¬ (m.2.1 21 ((m.1 18) - 1)) ≤ (m.1 17) → M_forward_74 (m.1 17) (sI m 18 ((m.1 18) - 1)) K))))
def M_strip_49 (L0 : Ob → Prop)  (m : Ob) (K : Ob → Prop) : Prop :=
  R32 ((m.1 18) - 1) ∧ L0 (sI m 18 ((m.1 18) - 1))
def M_strip_0  : Nat → Ob → (Ob → Prop) → Prop
  | 0, _, _ => False
  | n0 + 1, m, K => (((m.1 18) ≤ 0 → K m) ∧ (¬ (m.1 18) ≤ 0 → R32 ((m.1 18) - 1) ∧ ((0 : Int) ≤ ((m.1 18) - 1) ∧ ((m.1 18) - 1) < (300 : Int)) ∧ ((0 : Int) ≤ (m.2.1 19 ((m.1 18) - 1)) ∧ (m.2.1 19 ((m.1 18) - 1)) < (1000 : Int)) ∧ (((m.2.1 10 (m.2.1 19 ((m.1 18) - 1))) = (-2) → M_strip_49 (fun m' => M_strip_0 n0 m' K) m K) ∧ (¬ (m.2.1 10 (m.2.1 19 ((m.1 18) - 1))) = (-2) → R32 ((m.1 18) - 1) ∧ ((0 : Int) ≤ ((m.1 18) - 1) ∧ ((m.1 18) - 1) < (300 : Int)) ∧ wp_M_isWordAlone (m.2.1 19 ((m.1 18) - 1)) 1702195828 m (fun r_1 => ((r_1 = 0 → K m) ∧ (¬ r_1 = 0 → M_strip_49 (fun m' => M_strip_0 n0 m' K) m K)))))))
def wp_M_strip  (m : Ob) (K : Ob → Prop) : Prop :=
  ∃ n0, M_strip_0 n0 m K
def M_again_92  (x1 : Int) (m : Ob) (K : Ob → Prop) : Prop :=
  wp_M_strip (sI m 16 x1) (fun m_2 => K m_2)
def M_again_6  : Nat → Int → Int → Ob → (Ob → Prop) → Prop
  | 0, _, _, _, _ => False
  | n6 + 1, x1, x2, m, K => ((x1 ≤ x2 → M_again_92 x1 m K) ∧ (¬ x1 ≤ x2 → wp_M_strip m (fun m_3 => R32 ((m_3.1 18) - 1) ∧ R32 (x2 + 1) ∧ wp_M_clearFrame (x2 + 1) (sI m_3 18 ((m_3.1 18) - 1)) (fun m_4 => ((0 : Int) ≤ x2 ∧ x2 < (61 : Int)) ∧ R32 (40 * (m_4.2.1 15 x2)) ∧ R32 (x2 + 1) ∧ ((0 : Int) ≤ (m_4.1 18) ∧ (m_4.1 18) < (300 : Int)) ∧ ((0 : Int) ≤ (m_4.1 18) ∧ (m_4.1 18) < (300 : Int)) ∧ wp_M_equalize (40 * (m_4.2.1 15 x2)) (x2 + 1) (m_4.2.1 19 (m_4.1 18)) (m_4.2.1 20 (m_4.1 18)) m_4 (fun r_6 m_5 => ((0 : Int) ≤ x2 ∧ x2 < (61 : Int)) ∧ R32 (x2 + 1) ∧ ((0 : Int) ≤ x2 ∧ x2 < (61 : Int)) ∧ wp_M_prepend (m_5.2.1 15 x2) (x2 + 1) (m_5.2.1 16 x2) m_5 (fun m_7 => R32 (x2 + 1) ∧ M_again_6 n6 x1 (x2 + 1) m_7 K))))))
def wp_M_again (x1 : Int) (m : Ob) (K : Ob → Prop) : Prop :=
  wp_M_begin m (fun m_1 => ∃ n6, M_again_6 n6 x1 0 m_1 K)
def M_back_97  (x1 : Int) (x2 : Int) (s0 : Int) (m : Ob) (K : Ob → Prop) : Prop :=
  wp_M_resolve x2 x1 (sI m 17 s0) (fun m_6 => K m_6)
def wp_M_back  (m : Ob) (K : Ob → Prop) : Prop :=
  R32 ((m.1 17) - 1) ∧ ((0 : Int) ≤ ((m.1 17) - 1) ∧ ((m.1 17) - 1) < (61 : Int)) ∧ wp_M_again (m.2.1 17 ((m.1 17) - 1)) m (fun m_1 => R32 ((m_1.1 18) - 1) ∧ ((0 : Int) ≤ ((m_1.1 18) - 1) ∧ ((m_1.1 18) - 1) < (300 : Int)) ∧ ((0 : Int) ≤ ((m_1.1 18) - 1) ∧ ((m_1.1 18) - 1) < (300 : Int)) ∧ ((0 : Int) ≤ ((m.1 17) - 1) ∧ ((m.1 17) - 1) < (61 : Int)) ∧ wp_M_candidate (m_1.2.1 19 ((m_1.1 18) - 1)) (m_1.2.1 20 ((m_1.1 18) - 1)) (m_1.2.1 18 ((m.1 17) - 1)) (sI m_1 18 ((m_1.1 18) - 1)) (fun r_3 m_2 => ((0 : Int) ≤ ((m.1 17) - 1) ∧ ((m.1 17) - 1) < (61 : Int)) ∧ ((0 : Int) ≤ (m_2.1 18) ∧ (m_2.1 18) < (300 : Int)) ∧ ((0 : Int) ≤ (m_2.1 18) ∧ (m_2.1 18) < (300 : Int)) ∧ wp_M_candidate (m_2.2.1 19 (m_2.1 18)) (m_2.2.1 20 (m_2.1 18)) r_3 (sA m_2 18 ((m.1 17) - 1) r_3) (fun r_5 m_4 => ((0 ≤ r_5 → R32 (((m.1 17) - 1) + 1) ∧ M_back_97 ((m.1 17) - 1) r_3 (((m.1 17) - 1) + 1) m_4 K) ∧ (¬ 0 ≤ r_5 → M_back_97 ((m.1 17) - 1) r_3 ((m.1 17) - 1) m_4 K)))))
def M_step_42   (m : Ob) (K : Ob → Prop) : Prop :=
  ((¬ (m.1 13) = 3 → K m) ∧ ((m.1 13) = 3 → ((¬ (m.1 17) = 0 → K m) ∧ ((m.1 17) = 0 → wp_M_end 0 m (fun m_2 => K m_2)))))
def M_step_19   (m : Ob) (K : Ob → Prop) : Prop :=
  ((¬ (m.1 13) = 1 → M_step_42 m K) ∧ ((m.1 13) = 1 → ((¬ (m.1 18) = 0 → M_step_42 m K) ∧ ((m.1 18) = 0 → K (sI m 13 2)))))
def wp_M_step  (m : Ob) (K : Ob → Prop) : Prop :=
  ((¬ (m.1 13) = 1 → wp_M_back m (fun m_1 => M_step_19 m_1 K)) ∧ ((m.1 13) = 1 → wp_M_forward m (fun m_3 => M_step_19 m_3 K)))
def M_run_75   (m : Ob) (K : Int → Ob → Prop) : Prop :=
  ((¬ (m.1 13) = 4 → K 2 m) ∧ ((m.1 13) = 4 → K (m.1 14) m))
def M_run_42  : Nat → Int → Int → Ob → (Int → Ob → Prop) → Prop
  | 0, _, _, _, _ => False
  | n42 + 1, x1, x2, m, K => ((x1 ≤ x2 → M_run_75 m K) ∧ (¬ x1 ≤ x2 → (((m.1 13) = 4 → M_run_75 m K) ∧ (¬ (m.1 13) = 4 → wp_M_step m (fun m_1 => ((¬ (m_1.1 13) = 2 → R32 (x2 + 1) ∧ M_run_42 n42 x1 (x2 + 1) m_1 K) ∧ ((m_1.1 13) = 2 → K 1 m_1)))))))
def M_run_40  (x1 : Int) (m : Ob) (K : Int → Ob → Prop) : Prop :=
  ∃ n42, M_run_42 n42 x1 0 m K
def wp_M_run (x1 : Int) (m : Ob) (K : Int → Ob → Prop) : Prop :=
  (((m.1 13) = 0 → K (-1) m) ∧ (¬ (m.1 13) = 0 → ((x1 < 1 → K (-1) m) ∧ (¬ x1 < 1 → ((x1 ≤ 100 → ((¬ (m.1 13) = 2 → M_run_40 x1 m K) ∧ ((m.1 13) = 2 → ((¬ (m.1 17) = 0 → M_run_40 x1 m K) ∧ ((m.1 17) = 0 → wp_M_end 0 m (fun m_2 => M_run_40 x1 m_2 K)))))) ∧ (¬ x1 ≤ 100 → K (-1) m))))))
def wp_M_later (x1 : Int) (x2 : Int) (x3 : Int) (x4 : Int) (m : Ob) (K : Int → Ob → Prop) : Prop :=
  ((0 : Int) ≤ x1 ∧ x1 < (8000 : Int)) ∧ R32 (x1 + 1) ∧ ((0 : Int) ≤ (x1 + 1) ∧ (x1 + 1) < (8000 : Int)) ∧ R32 (x1 + 2) ∧ ((0 : Int) ≤ (x1 + 2) ∧ (x1 + 2) < (8000 : Int)) ∧ R32 (x1 + 3) ∧ K (x1 + 3) (sA (sA (sA m 24 x1 x2) 24 (x1 + 1) x3) 24 (x1 + 2) x4)
def wp_M_put (x1 : Int) (m : Ob) (K : Ob → Prop) : Prop :=
  ((0 : Int) ≤ (m.1 21) ∧ (m.1 21) < (3000 : Int)) ∧ R32 ((m.1 21) + 1) ∧ K (sI (sA m 25 (m.1 21) x1) 21 ((m.1 21) + 1))
def M_putVariable_92  (x1 : Int) (m : Ob) (K : Ob → Prop) : Prop :=
  ((0 : Int) ≤ x1 ∧ x1 < (488 : Int)) ∧ 0 ≤ (m.2.1 26 x1) ∧ R32 (48 + ((m.2.1 26 x1) % 10)) ∧ wp_M_put (48 + ((m.2.1 26 x1) % 10)) m (fun m_2 => K m_2)
def M_putVariable_62  (x1 : Int) (m : Ob) (K : Ob → Prop) : Prop :=
  ((0 : Int) ≤ x1 ∧ x1 < (488 : Int)) ∧ (((m.2.1 26 x1) ≤ 9 → M_putVariable_92 x1 m K) ∧ (¬ (m.2.1 26 x1) ≤ 9 → ((0 : Int) ≤ x1 ∧ x1 < (488 : Int)) ∧ 0 ≤ (m.2.1 26 x1) ∧ 0 ≤ ((m.2.1 26 x1) / 10) ∧ R32 (48 + (((m.2.1 26 x1) / 10) % 10)) ∧ wp_M_put (48 + (((m.2.1 26 x1) / 10) % 10)) m (fun m_3 => M_putVariable_92 x1 m_3 K)))
def M_putVariable_29  (x1 : Int) (m : Ob) (K : Ob → Prop) : Prop :=
  wp_M_put 95 m (fun m_1 => ((0 : Int) ≤ x1 ∧ x1 < (488 : Int)) ∧ (((m_1.2.1 26 x1) ≤ 99 → M_putVariable_62 x1 m_1 K) ∧ (¬ (m_1.2.1 26 x1) ≤ 99 → ((0 : Int) ≤ x1 ∧ x1 < (488 : Int)) ∧ 0 ≤ (m_1.2.1 26 x1) ∧ R32 (48 + ((m_1.2.1 26 x1) / 100)) ∧ wp_M_put (48 + ((m_1.2.1 26 x1) / 100)) m_1 (fun m_4 => M_putVariable_62 x1 m_4 K))))
def wp_M_putVariable (x1 : Int) (m : Ob) (K : Ob → Prop) : Prop :=
  ((0 : Int) ≤ x1 ∧ x1 < (488 : Int)) ∧ ((0 ≤ (m.2.1 26 x1) → M_putVariable_29 x1 m K) ∧ (¬ 0 ≤ (m.2.1 26 x1) → ((0 : Int) ≤ x1 ∧ x1 < (488 : Int)) ∧ R32 ((m.1 22) + 1) ∧ M_putVariable_29 x1 (sI (sA m 26 x1 (m.1 22)) 22 ((m.1 22) + 1)) K))
def M_putWord_32 (L2 : Nat → Int → Ob → Prop) (y1 : Nat) (x3 : Int) (m : Ob) (K : Ob → Prop) : Prop :=
  R32 (x3 + 1) ∧ L2 y1 (x3 + 1) m
def M_putWord_2  : Nat → Nat → Int → Ob → (Ob → Prop) → Prop
  | 0, _, _, _, _ => False
  | n2 + 1, y1, x3, m, K => ((8 ≤ x3 → K m) ∧ (¬ 8 ≤ x3 → R32 (8 * x3) ∧ (0 ≤ (8 * x3) ∧ (8 * x3) < 64) ∧ ((sar y1 (8 * x3).toNat) &&& 255) < 2147483648 ∧ (((((sar y1 (8 * x3).toNat) &&& 255 : Nat) : Int) = 0 → M_putWord_32 (fun y1 x3 m' => M_putWord_2 n2 y1 x3 m' K) y1 x3 m K) ∧ (¬ (((sar y1 (8 * x3).toNat) &&& 255 : Nat) : Int) = 0 → wp_M_put (((sar y1 (8 * x3).toNat) &&& 255 : Nat) : Int) m (fun m_1 => M_putWord_32 (fun y1 x3 m' => M_putWord_2 n2 y1 x3 m' K) y1 x3 m_1 K)))))
def wp_M_putWord (y1 : Nat) (m : Ob) (K : Ob → Prop) : Prop :=
  ∃ n2, M_putWord_2 n2 y1 0 m K
def M_writeTerm_221 (L155 : Int → Int → Int → Int → Ob → Prop) (x1 : Int) (x2 : Int) (x5 : Int) (s0 : Int) (m : Ob) (K : Int → Ob → Prop) : Prop :=
  R32 (x5 + (-1)) ∧ L155 x1 x2 s0 (x5 + (-1)) m
def M_writeTerm_189 (L155 : Int → Int → Int → Int → Ob → Prop) (x1 : Int) (x2 : Int) (x4 : Int) (x5 : Int) (x6 : Int) (m : Ob) (K : Int → Ob → Prop) : Prop :=
  wp_M_later x4 0 x6 x2 m (fun r_6 m_5 => ((x5 ≤ 0 → M_writeTerm_221 L155 x1 x2 x5 r_6 m_5 K) ∧ (¬ x5 ≤ 0 → wp_M_later r_6 1 44 0 m_5 (fun r_8 m_7 => M_writeTerm_221 L155 x1 x2 x5 r_8 m_7 K))))
def M_writeTerm_168 (L155 : Int → Int → Int → Int → Ob → Prop) : Nat → Int → Int → Int → Int → Int → Int → Ob → (Int → Ob → Prop) → Prop
  | 0, _, _, _, _, _, _, _, _ => False
  | n168 + 1, x1, x2, x4, x5, x6, x7, m, K => ((x5 ≤ x7 → M_writeTerm_189 L155 x1 x2 x4 x5 x6 m K) ∧ (¬ x5 ≤ x7 → wp_M_behind x6 m (fun r_9 => R32 (x7 + 1) ∧ M_writeTerm_168 L155 n168 x1 x2 x4 x5 r_9 (x7 + 1) m K)))
def M_writeTerm_155  : Nat → Int → Int → Int → Int → Ob → (Int → Ob → Prop) → Prop
  | 0, _, _, _, _, _, _ => False
  | n155 + 1, x1, x2, x4, x5, m, K => ((x5 < 0 → K x4 m) ∧ (¬ x5 < 0 → R32 (x1 + 1) ∧ ∃ n168, M_writeTerm_168 (fun x1 x2 x4 x5 m' => M_writeTerm_155 n155 x1 x2 x4 x5 m' K) n168 x1 x2 x4 x5 (x1 + 1) 0 m K))
def wp_M_writeTerm (x1 : Int) (x2 : Int) (x3 : Int) (m : Ob) (K : Int → Ob → Prop) : Prop :=
  ((0 : Int) ≤ x1 ∧ x1 < (1000 : Int)) ∧ ((¬ (m.2.1 10 x1) = (-1) → ((0 : Int) ≤ x1 ∧ x1 < (1000 : Int)) ∧ ((¬ (m.2.2.2 2 x1) = 1 → ((0 : Int) ≤ x1 ∧ x1 < (1000 : Int)) ∧ ((¬ (m.2.2.2 2 x1) = 2 → ((0 : Int) ≤ x1 ∧ x1 < (1000 : Int)) ∧ wp_M_putWord (m.2.2.2 2 x1) m (fun m_1 => ((0 : Int) ≤ x1 ∧ x1 < (1000 : Int)) ∧ ((¬ (m_1.2.1 10 x1) = 0 → wp_M_put 40 m_1 (fun m_2 => wp_M_later x3 1 41 0 m_2 (fun r_4 m_3 => ((0 : Int) ≤ x1 ∧ x1 < (1000 : Int)) ∧ R32 ((m_3.2.1 10 x1) - 1) ∧ ∃ n155, M_writeTerm_155 n155 x1 x2 r_4 ((m_3.2.1 10 x1) - 1) m_3 K))) ∧ ((m_1.2.1 10 x1) = 0 → K x3 m_1)))) ∧ ((m.2.2.2 2 x1) = 2 → wp_M_put 91 m (fun m_10 => wp_M_put 93 m_10 (fun m_11 => K x3 m_11))))) ∧ ((m.2.2.2 2 x1) = 1 → wp_M_put 91 m (fun m_12 => R32 (x1 + 1) ∧ wp_M_behind (x1 + 1) m_12 (fun r_13 => wp_M_later x3 2 r_13 x2 m_12 (fun r_15 m_14 => R32 (x1 + 1) ∧ wp_M_later r_15 0 (x1 + 1) x2 m_14 (fun r_17 m_16 => K r_17 m_16))))))) ∧ ((m.2.1 10 x1) = (-1) → R32 (8 * x2) ∧ ((0 : Int) ≤ x1 ∧ x1 < (1000 : Int)) ∧ (m.2.2.2 2 x1) < 2147483648 ∧ R32 ((8 * x2) + (((m.2.2.2 2 x1) : Nat) : Int)) ∧ wp_M_putVariable ((8 * x2) + (((m.2.2.2 2 x1) : Nat) : Int)) m (fun m_18 => K x3 m_18)))
def M_writeRest_85  (x1 : Int) (x2 : Int) (x3 : Int) (m : Ob) (K : Int → Ob → Prop) : Prop :=
  wp_M_put 124 m (fun m_1 => wp_M_later x3 1 93 0 m_1 (fun r_3 m_2 => wp_M_later r_3 0 x1 x2 m_2 (fun r_5 m_4 => K r_5 m_4)))
def M_writeRest_30  (x1 : Int) (x2 : Int) (x3 : Int) (m : Ob) (K : Int → Ob → Prop) : Prop :=
  ((0 : Int) ≤ x1 ∧ x1 < (1000 : Int)) ∧ ((¬ (m.2.1 10 x1) = 2 → M_writeRest_85 x1 x2 x3 m K) ∧ ((m.2.1 10 x1) = 2 → ((0 : Int) ≤ x1 ∧ x1 < (1000 : Int)) ∧ ((¬ (m.2.2.2 2 x1) = 1 → M_writeRest_85 x1 x2 x3 m K) ∧ ((m.2.2.2 2 x1) = 1 → wp_M_put 44 m (fun m_6 => R32 (x1 + 1) ∧ wp_M_behind (x1 + 1) m_6 (fun r_7 => wp_M_later x3 2 r_7 x2 m_6 (fun r_9 m_8 => R32 (x1 + 1) ∧ wp_M_later r_9 0 (x1 + 1) x2 m_8 (fun r_11 m_10 => K r_11 m_10))))))))
def wp_M_writeRest (x1 : Int) (x2 : Int) (x3 : Int) (m : Ob) (K : Int → Ob → Prop) : Prop :=
  ((0 : Int) ≤ x1 ∧ x1 < (1000 : Int)) ∧ ((¬ (m.2.1 10 x1) = 0 → M_writeRest_30 x1 x2 x3 m K) ∧ ((m.2.1 10 x1) = 0 → ((0 : Int) ≤ x1 ∧ x1 < (1000 : Int)) ∧ ((¬ (m.2.2.2 2 x1) = 2 → M_writeRest_30 x1 x2 x3 m K) ∧ ((m.2.2.2 2 x1) = 2 → wp_M_put 93 m (fun m_12 => K x3 m_12)))))
def M_write_101 (L14 : Int → Ob → Prop) (x2 : Int) (m : Ob) (K : Ob → Prop) : Prop :=
  L14 x2 m
def M_write_100 (L14 : Int → Ob → Prop) (s0 : Int) (m : Ob) (K : Ob → Prop) : Prop :=
  M_write_101 L14 s0 m K
def M_write_14  : Nat → Int → Ob → (Ob → Prop) → Prop
  | 0, _, _, _ => False
  | n14 + 1, x2, m, K => ((x2 ≤ 0 → K m) ∧ (¬ x2 ≤ 0 → R32 (x2 - 3) ∧ ((0 : Int) ≤ (x2 - 3) ∧ (x2 - 3) < (8000 : Int)) ∧ R32 ((x2 - 3) + 1) ∧ ((0 : Int) ≤ ((x2 - 3) + 1) ∧ ((x2 - 3) + 1) < (8000 : Int)) ∧ ((¬ (m.2.1 24 (x2 - 3)) = 1 → R32 ((x2 - 3) + 2) ∧ ((0 : Int) ≤ ((x2 - 3) + 2) ∧ ((x2 - 3) + 2) < (8000 : Int)) ∧ wp_M_follow (m.2.1 24 ((x2 - 3) + 1)) (m.2.1 24 ((x2 - 3) + 2)) m (fun m_3 => ((¬ (m.2.1 24 (x2 - 3)) = 0 → wp_M_writeRest (m_3.1 19) (m_3.1 20) (x2 - 3) m_3 (fun r_5 m_4 => M_write_100 (fun x2 m' => M_write_14 n14 x2 m' K) r_5 m_4 K)) ∧ ((m.2.1 24 (x2 - 3)) = 0 → wp_M_writeTerm (m_3.1 19) (m_3.1 20) (x2 - 3) m_3 (fun r_7 m_6 => M_write_100 (fun x2 m' => M_write_14 n14 x2 m' K) r_7 m_6 K))))) ∧ ((m.2.1 24 (x2 - 3)) = 1 → wp_M_put (m.2.1 24 ((x2 - 3) + 1)) m (fun m_8 => M_write_101 (fun x2 m' => M_write_14 n14 x2 m' K) (x2 - 3) m_8 K)))))
def wp_M_write (x1 : Int) (m : Ob) (K : Ob → Prop) : Prop :=
  wp_M_later 0 0 x1 0 (sI m 21 0) (fun r_2 m_1 => ∃ n14, M_write_14 n14 r_2 m_1 K)
def M_answer_76  (x2 : Int) (m : Ob) (K : Int → Ob → Prop) : Prop :=
  (((m.1 21) ≤ x2 → K 0 m) ∧ (¬ (m.1 21) ≤ x2 → ((0 : Int) ≤ x2 ∧ x2 < (3000 : Int)) ∧ (0 ≤ (m.2.1 25 x2) ∧ (m.2.1 25 x2) < 65536) ∧ (0 ≤ (m.2.1 25 x2) ∧ (m.2.1 25 x2) < 65536) ∧ K (m.2.1 25 x2) m))
def M_answer_55  : Nat → Int → Int → Int → Ob → (Int → Ob → Prop) → Prop
  | 0, _, _, _, _, _ => False
  | n55 + 1, x1, x2, x3, m, K => ((x1 < x3 → M_answer_76 x2 m K) ∧ (¬ x1 < x3 → ((0 : Int) ≤ x3 ∧ x3 < (8 : Int)) ∧ wp_M_write (m.2.1 14 x3) m (fun m_1 => R32 (x3 + 1) ∧ M_answer_55 n55 x1 x2 (x3 + 1) m_1 K)))
def M_answer_48  (x1 : Int) (x2 : Int) (m : Ob) (K : Int → Ob → Prop) : Prop :=
  ∃ n55, M_answer_55 n55 x1 x2 0 (sI m 22 0) K
def M_answer_28  : Nat → Int → Int → Int → Ob → (Int → Ob → Prop) → Prop
  | 0, _, _, _, _, _ => False
  | n28 + 1, x1, x2, x3, m, K => ((488 ≤ x3 → M_answer_48 x1 x2 m K) ∧ (¬ 488 ≤ x3 → ((0 : Int) ≤ x3 ∧ x3 < (488 : Int)) ∧ R32 (x3 + 1) ∧ M_answer_28 n28 x1 x2 (x3 + 1) (sA m 26 x3 (-1)) K))
def wp_M_answer (x1 : Int) (x2 : Int) (m : Ob) (K : Int → Ob → Prop) : Prop :=
  ((¬ (m.1 13) = 2 → K 0 m) ∧ ((m.1 13) = 2 → ((x1 < 0 → K 0 m) ∧ (¬ x1 < 0 → (((m.1 12) ≤ x1 → K 0 m) ∧ (¬ (m.1 12) ≤ x1 → ((0 ≤ x2 → ∃ n28, M_answer_28 n28 x1 x2 0 m K) ∧ (¬ 0 ≤ x2 → K 0 m))))))))
def wp_M_clauses  (m : Ob) (K : Int → Prop) : Prop :=
  K (m.1 10)
def wp_M_tries  (m : Ob) (K : Int → Prop) : Prop :=
  K (m.1 15)
def wp_M_choices  (m : Ob) (K : Int → Prop) : Prop :=
  K (m.1 17)
def wp_M_length  (m : Ob) (K : Int → Prop) : Prop :=
  K (m.1 16)
def M_goals_27   (m : Ob) (K : Int → Prop) : Prop :=
  K (m.1 18)
def wp_M_goals  (m : Ob) (K : Int → Prop) : Prop :=
  (((m.1 13) = 3 → K 0) ∧ (¬ (m.1 13) = 3 → ((¬ (m.1 13) = 4 → M_goals_27 m K) ∧ ((m.1 13) = 4 → ((¬ (m.1 14) = 0 → M_goals_27 m K) ∧ ((m.1 14) = 0 → K 0))))))
def wp_M_forget  (m : Ob) (K : Ob → Prop) : Prop :=
  wp_M_noSearch (sI (sI m 10 0) 11 0) (fun m_1 => K m_1)
end
section
/-! printed by wip/gen/drive.py -/
theorem ct_M_isSmall_12 {l : Launch} {o0 : Ob} {K : Int → Prop} {K' : Option AV → List AC → Prop} {x0 : Int} (H : M_isSmall_12 x0 K) (hK : ∀ (r : Int), K r → K' (some (vI r)) (shM o0)) : EV l prog_13_method_2_code "PrunedSearchModel" 1 (some .boolean) 0 12 [(0, vI x0)] [] (shM o0) K' := by
  refine EV_iload_n 0 d_M_isSmall_12 rfl rfl ?_
  refine EV_bipush d_M_isSmall_13 (by decide +kernel) ⟨by decide, by decide⟩ ?_
  refine EV_icmp_lt (tgt := 28) d_M_isSmall_15 (by decide) (fun hc => ?_) (fun hc => ?_)
  · have H := H.1 hc
    refine EV_iconst d_M_isSmall_28 ⟨by decide, by decide⟩ ?_
    exact EV_iret d_M_isSmall_29 rfl (nw_bool (by decide)) (hK _ H)
  · have H := H.2 hc
    refine EV_iload_n 0 d_M_isSmall_18 rfl rfl ?_
    refine EV_bipush d_M_isSmall_19 (by decide +kernel) ⟨by decide, by decide⟩ ?_
    refine EV_icmp_gt (tgt := 28) d_M_isSmall_21 (by decide) (fun hc => ?_) (fun hc => ?_)
    · have H := H.1 hc
      refine EV_iconst d_M_isSmall_28 ⟨by decide, by decide⟩ ?_
      exact EV_iret d_M_isSmall_29 rfl (nw_bool (by decide)) (hK _ H)
    · have H := H.2 hc
      refine EV_iconst d_M_isSmall_24 ⟨by decide, by decide⟩ ?_
      refine EV_goto (tgt := 29) d_M_isSmall_25 (by decide) ?_
      exact EV_iret d_M_isSmall_29 rfl (nw_bool (by decide)) (hK _ H)
theorem ct_M_isSmall {l : Launch} {o0 : Ob} {x0 : Int} {K : Int → Prop} {K' : Option AV → List AC → Prop} (H : wp_M_isSmall x0 K) (hK : ∀ (r : Int), K r → K' (some (vI r)) (shM o0)) : MT l ⟨"PrunedSearchModel", "isSmall", "(I)Z"⟩ prog_13_method_2_code 1 (some .boolean) 0 [vI x0] (shM o0) K' := by
  unfold wp_M_isSmall at H
  refine MT_of (lv := [(0, vI x0)]) rfl rfl (Nat.le_of_ble_eq_true rfl) rfl ?_
  refine EV_iload_n 0 d_M_isSmall_0 rfl rfl ?_
  refine EV_bipush d_M_isSmall_1 (by decide +kernel) ⟨by decide, by decide⟩ ?_
  refine EV_icmp_lt (tgt := 12) d_M_isSmall_3 (by decide) (fun hc => ?_) (fun hc => ?_)
  · have H := H.1 hc
    exact ct_M_isSmall_12 H hK
  · have H := H.2 hc
    refine EV_iload_n 0 d_M_isSmall_6 rfl rfl ?_
    refine EV_bipush d_M_isSmall_7 (by decide +kernel) ⟨by decide, by decide⟩ ?_
    refine EV_icmp_le (tgt := 24) d_M_isSmall_9 (by decide) (fun hc => ?_) (fun hc => ?_)
    · have H := H.1 hc
      refine EV_iconst d_M_isSmall_24 ⟨by decide, by decide⟩ ?_
      refine EV_goto (tgt := 29) d_M_isSmall_25 (by decide) ?_
      exact EV_iret d_M_isSmall_29 rfl (nw_bool (by decide)) (hK _ H)
    · have H := H.2 hc
      exact ct_M_isSmall_12 H hK
theorem ct_M_isWord_19 {l : Launch} {o0 : Ob} {K : Int → Prop} {K' : Option AV → List AC → Prop} {x0 : Int} (H : M_isWord_19 x0 K) (hK : ∀ (r : Int), K r → K' (some (vI r)) (shM o0)) : EV l prog_13_method_3_code "PrunedSearchModel" 1 (some .boolean) 1 19 [(0, vI x0)] [] (shM o0) K' := by
  refine EV_iload_n 0 d_M_isWord_19 rfl rfl ?_
  refine EV_bipush d_M_isWord_20 (by decide +kernel) ⟨by decide, by decide⟩ ?_
  refine EV_icmp_ne (tgt := 29) d_M_isWord_22 (by decide) (fun hc => ?_) (fun hc => ?_)
  · have H := H.1 hc
    refine EV_iconst d_M_isWord_29 ⟨by decide, by decide⟩ ?_
    exact EV_iret d_M_isWord_30 rfl (nw_bool (by decide)) (hK _ H)
  · have H := H.2 hc
    refine EV_iconst d_M_isWord_25 ⟨by decide, by decide⟩ ?_
    refine EV_goto (tgt := 30) d_M_isWord_26 (by decide) ?_
    exact EV_iret d_M_isWord_30 rfl (nw_bool (by decide)) (hK _ H)
theorem ct_M_isWord {l : Launch} {o0 : Ob} {x0 : Int} {K : Int → Prop} {K' : Option AV → List AC → Prop} (H : wp_M_isWord x0 K) (hK : ∀ (r : Int), K r → K' (some (vI r)) (shM o0)) : MT l ⟨"PrunedSearchModel", "isWord", "(I)Z"⟩ prog_13_method_3_code 1 (some .boolean) 1 [vI x0] (shM o0) K' := by
  unfold wp_M_isWord at H
  refine MT_of (lv := [(0, vI x0)]) rfl rfl (Nat.le_of_ble_eq_true rfl) rfl ?_
  refine EV_iload_n 0 d_M_isWord_0 rfl rfl ?_
  refine EV_callT (as := [vI x0]) (st := []) d_M_isWord_1 k_1128 k_1129 k_12 k_1130 pd_0 ⟨by decide, by decide, Nat.le_of_ble_eq_true rfl⟩ rfl (ct_M_isSmall H (fun r_1 H => ?_))
  refine EV_if_ne (tgt := 25) d_M_isWord_4 (by decide) (fun hc => ?_) (fun hc => ?_)
  · have H := H.1 hc
    refine EV_iconst d_M_isWord_25 ⟨by decide, by decide⟩ ?_
    refine EV_goto (tgt := 30) d_M_isWord_26 (by decide) ?_
    exact EV_iret d_M_isWord_30 rfl (nw_bool (by decide)) (hK _ H)
  · have H := H.2 hc
    refine EV_iload_n 0 d_M_isWord_7 rfl rfl ?_
    refine EV_bipush d_M_isWord_8 (by decide +kernel) ⟨by decide, by decide⟩ ?_
    refine EV_icmp_lt (tgt := 19) d_M_isWord_10 (by decide) (fun hc => ?_) (fun hc => ?_)
    · have H := H.1 hc
      exact ct_M_isWord_19 H hK
    · have H := H.2 hc
      refine EV_iload_n 0 d_M_isWord_13 rfl rfl ?_
      refine EV_bipush d_M_isWord_14 (by decide +kernel) ⟨by decide, by decide⟩ ?_
      refine EV_icmp_le (tgt := 25) d_M_isWord_16 (by decide) (fun hc => ?_) (fun hc => ?_)
      · have H := H.1 hc
        refine EV_iconst d_M_isWord_25 ⟨by decide, by decide⟩ ?_
        refine EV_goto (tgt := 30) d_M_isWord_26 (by decide) ?_
        exact EV_iret d_M_isWord_30 rfl (nw_bool (by decide)) (hK _ H)
      · have H := H.2 hc
        exact ct_M_isWord_19 H hK
theorem ct_M_isSign {l : Launch} {o0 : Ob} {x0 : Int} {K : Int → Prop} {K' : Option AV → List AC → Prop} (H : wp_M_isSign x0 K) (hK : ∀ (r : Int), K r → K' (some (vI r)) (shM o0)) : MT l ⟨"PrunedSearchModel", "isSign", "(I)Z"⟩ prog_13_method_4_code 1 (some .boolean) 0 [vI x0] (shM o0) K' := by
  unfold wp_M_isSign at H
  refine MT_of (lv := [(0, vI x0)]) rfl rfl (Nat.le_of_ble_eq_true rfl) rfl ?_
  refine EV_iload_n 0 d_M_isSign_0 rfl rfl ?_
  refine EV_bipush d_M_isSign_1 (by decide +kernel) ⟨by decide, by decide⟩ ?_
  refine EV_icmp_eq (tgt := 60) d_M_isSign_3 (by decide) (fun hc => ?_) (fun hc => ?_)
  · have H := H.1 hc
    refine EV_iconst d_M_isSign_60 ⟨by decide, by decide⟩ ?_
    refine EV_goto (tgt := 65) d_M_isSign_61 (by decide) ?_
    exact EV_iret d_M_isSign_65 rfl (nw_bool (by decide)) (hK _ H)
  · have H := H.2 hc
    refine EV_iload_n 0 d_M_isSign_6 rfl rfl ?_
    refine EV_bipush d_M_isSign_7 (by decide +kernel) ⟨by decide, by decide⟩ ?_
    refine EV_icmp_eq (tgt := 60) d_M_isSign_9 (by decide) (fun hc => ?_) (fun hc => ?_)
    · have H := H.1 hc
      refine EV_iconst d_M_isSign_60 ⟨by decide, by decide⟩ ?_
      refine EV_goto (tgt := 65) d_M_isSign_61 (by decide) ?_
      exact EV_iret d_M_isSign_65 rfl (nw_bool (by decide)) (hK _ H)
    · have H := H.2 hc
      refine EV_iload_n 0 d_M_isSign_12 rfl rfl ?_
      refine EV_bipush d_M_isSign_13 (by decide +kernel) ⟨by decide, by decide⟩ ?_
      refine EV_icmp_eq (tgt := 60) d_M_isSign_15 (by decide) (fun hc => ?_) (fun hc => ?_)
      · have H := H.1 hc
        refine EV_iconst d_M_isSign_60 ⟨by decide, by decide⟩ ?_
        refine EV_goto (tgt := 65) d_M_isSign_61 (by decide) ?_
        exact EV_iret d_M_isSign_65 rfl (nw_bool (by decide)) (hK _ H)
      · have H := H.2 hc
        refine EV_iload_n 0 d_M_isSign_18 rfl rfl ?_
        refine EV_bipush d_M_isSign_19 (by decide +kernel) ⟨by decide, by decide⟩ ?_
        refine EV_icmp_eq (tgt := 60) d_M_isSign_21 (by decide) (fun hc => ?_) (fun hc => ?_)
        · have H := H.1 hc
          refine EV_iconst d_M_isSign_60 ⟨by decide, by decide⟩ ?_
          refine EV_goto (tgt := 65) d_M_isSign_61 (by decide) ?_
          exact EV_iret d_M_isSign_65 rfl (nw_bool (by decide)) (hK _ H)
        · have H := H.2 hc
          refine EV_iload_n 0 d_M_isSign_24 rfl rfl ?_
          refine EV_bipush d_M_isSign_25 (by decide +kernel) ⟨by decide, by decide⟩ ?_
          refine EV_icmp_eq (tgt := 60) d_M_isSign_27 (by decide) (fun hc => ?_) (fun hc => ?_)
          · have H := H.1 hc
            refine EV_iconst d_M_isSign_60 ⟨by decide, by decide⟩ ?_
            refine EV_goto (tgt := 65) d_M_isSign_61 (by decide) ?_
            exact EV_iret d_M_isSign_65 rfl (nw_bool (by decide)) (hK _ H)
          · have H := H.2 hc
            refine EV_iload_n 0 d_M_isSign_30 rfl rfl ?_
            refine EV_bipush d_M_isSign_31 (by decide +kernel) ⟨by decide, by decide⟩ ?_
            refine EV_icmp_eq (tgt := 60) d_M_isSign_33 (by decide) (fun hc => ?_) (fun hc => ?_)
            · have H := H.1 hc
              refine EV_iconst d_M_isSign_60 ⟨by decide, by decide⟩ ?_
              refine EV_goto (tgt := 65) d_M_isSign_61 (by decide) ?_
              exact EV_iret d_M_isSign_65 rfl (nw_bool (by decide)) (hK _ H)
            · have H := H.2 hc
              refine EV_iload_n 0 d_M_isSign_36 rfl rfl ?_
              refine EV_bipush d_M_isSign_37 (by decide +kernel) ⟨by decide, by decide⟩ ?_
              refine EV_icmp_eq (tgt := 60) d_M_isSign_39 (by decide) (fun hc => ?_) (fun hc => ?_)
              · have H := H.1 hc
                refine EV_iconst d_M_isSign_60 ⟨by decide, by decide⟩ ?_
                refine EV_goto (tgt := 65) d_M_isSign_61 (by decide) ?_
                exact EV_iret d_M_isSign_65 rfl (nw_bool (by decide)) (hK _ H)
              · have H := H.2 hc
                refine EV_iload_n 0 d_M_isSign_42 rfl rfl ?_
                refine EV_bipush d_M_isSign_43 (by decide +kernel) ⟨by decide, by decide⟩ ?_
                refine EV_icmp_eq (tgt := 60) d_M_isSign_45 (by decide) (fun hc => ?_) (fun hc => ?_)
                · have H := H.1 hc
                  refine EV_iconst d_M_isSign_60 ⟨by decide, by decide⟩ ?_
                  refine EV_goto (tgt := 65) d_M_isSign_61 (by decide) ?_
                  exact EV_iret d_M_isSign_65 rfl (nw_bool (by decide)) (hK _ H)
                · have H := H.2 hc
                  refine EV_iload_n 0 d_M_isSign_48 rfl rfl ?_
                  refine EV_bipush d_M_isSign_49 (by decide +kernel) ⟨by decide, by decide⟩ ?_
                  refine EV_icmp_eq (tgt := 60) d_M_isSign_51 (by decide) (fun hc => ?_) (fun hc => ?_)
                  · have H := H.1 hc
                    refine EV_iconst d_M_isSign_60 ⟨by decide, by decide⟩ ?_
                    refine EV_goto (tgt := 65) d_M_isSign_61 (by decide) ?_
                    exact EV_iret d_M_isSign_65 rfl (nw_bool (by decide)) (hK _ H)
                  · have H := H.2 hc
                    refine EV_iload_n 0 d_M_isSign_54 rfl rfl ?_
                    refine EV_bipush d_M_isSign_55 (by decide +kernel) ⟨by decide, by decide⟩ ?_
                    refine EV_icmp_ne (tgt := 64) d_M_isSign_57 (by decide) (fun hc => ?_) (fun hc => ?_)
                    · have H := H.1 hc
                      refine EV_iconst d_M_isSign_64 ⟨by decide, by decide⟩ ?_
                      exact EV_iret d_M_isSign_65 rfl (nw_bool (by decide)) (hK _ H)
                    · have H := H.2 hc
                      refine EV_iconst d_M_isSign_60 ⟨by decide, by decide⟩ ?_
                      refine EV_goto (tgt := 65) d_M_isSign_61 (by decide) ?_
                      exact EV_iret d_M_isSign_65 rfl (nw_bool (by decide)) (hK _ H)
theorem ct_M_type_85 {l : Launch} {K : Int → Ob → Prop} {K' : Option AV → List AC → Prop} (hK : ∀ (r : Int) (m' : Ob), K r m' → K' (some (vI r)) (shM m')) : ∀ (n : Nat) (y1 : Nat) (x3 : Int) (x4 : Int) (m : Ob), M_type_85 n y1 x3 x4 m K → EV l prog_13_method_5_code "PrunedSearchModel" 5 (some .boolean) 2 85 [(0, vR 0), (1, vL y1), (3, vI x3), (4, vI x4)] [] (shM m) K' := by
  intro n
  induction n with
  | zero =>
    intro y1 x3 x4 m H
    exact H.elim
  | succ n ih =>
    intro y1 x3 x4 m H
    refine EV_iload 3 d_M_type_85 rfl ?_
    refine EV_iload_n 2 d_M_type_87 rfl rfl ?_
    refine EV_icmp_ge (tgt := 128) d_M_type_88 (by decide) (fun hc => ?_) (fun hc => ?_)
    · have H := H.1 hc
      refine EV_iconst d_M_type_128 ⟨by decide, by decide⟩ ?_
      exact EV_iret d_M_type_129 rfl (nw_bool (by decide)) (hK _ _ H)
    · have H := H.2 hc
      refine EV_aload_n 0 d_M_type_91 rfl rfl ?_
      refine EV_get (j := 0) d_M_type_92 shM_0 rfl fI11 (by decide) k_954 rfl ?_
      refine EV_aload_n 0 d_M_type_95 rfl rfl ?_
      refine EV_get (j := 1) d_M_type_96 shM_0 rfl fI11 (by decide) k_955 rfl ?_
      refine EV_lload_n 1 d_M_type_99 rfl rfl ?_
      refine EV_bipush d_M_type_100 (by decide +kernel) ⟨by decide, by decide⟩ ?_
      refine EV_iload 3 d_M_type_102 rfl ?_
      obtain ⟨hr, H⟩ := H
      refine EV_imul d_M_type_104 hr ?_
      obtain ⟨h1, H⟩ := H
      refine EV_lshr d_M_type_105 h1 ?_
      refine EV_ldc2 (n := 255) d_M_type_106 k_1124 (by decide +kernel) (by decide) ?_
      refine EV_land d_M_type_109 ?_
      obtain ⟨h0, H⟩ := H
      refine EV_l2i d_M_type_110 h0 ?_
      obtain ⟨hi, H⟩ := H
      refine EV_iast d_M_type_111 shM_1 hi shM_1_s ?_
      refine EV_aload_n 0 d_M_type_112 rfl rfl ?_
      refine EV_aload_n 0 d_M_type_113 rfl rfl ?_
      refine EV_get (j := 1) d_M_type_114 shM_0 rfl fI11 (by decide) k_955 rfl ?_
      refine EV_iconst d_M_type_117 ⟨by decide, by decide⟩ ?_
      obtain ⟨hr, H⟩ := H
      refine EV_iadd d_M_type_118 hr ?_
      refine EV_put (j := 1) d_M_type_119 shM_0 rfl fI11 fO11 fN11 (by decide) k_955 rfl rfl (fun ad => nf_int ad _) (Nat.le_of_ble_eq_true rfl) shM_0_1 ?_
      obtain ⟨hr, H⟩ := H
      refine EV_iinc (lv' := [(0, vR 0), (1, vL y1), (3, vI x3), (4, vI (x4 + 1))]) 3 [1, 2, 3, 0] d_M_type_122 rfl (by decide) hr rfl ?_
      refine EV_goto (tgt := 85) d_M_type_125 (by decide) ?_
      exact ih y1 x3 (x4 + 1) (sI (sA m 0 (m.1 0) (((sar y1 (8 * x4).toNat) &&& 255 : Nat) : Int)) 0 ((m.1 0) + 1)) H
theorem ct_M_type_68 {l : Launch} {K : Int → Ob → Prop} {K' : Option AV → List AC → Prop} {y1 : Nat} {x3 : Int} {m : Ob} (H : M_type_68 y1 x3 m K) (hK : ∀ (r : Int) (m' : Ob), K r m' → K' (some (vI r)) (shM m')) : EV l prog_13_method_5_code "PrunedSearchModel" 5 (some .boolean) 2 68 [(0, vR 0), (1, vL y1), (3, vI x3)] [] (shM m) K' := by
  refine EV_aload_n 0 d_M_type_68 rfl rfl ?_
  refine EV_get (j := 1) d_M_type_69 shM_0 rfl fI11 (by decide) k_955 rfl ?_
  refine EV_iload_n 2 d_M_type_72 rfl rfl ?_
  obtain ⟨hr, H⟩ := H
  refine EV_iadd d_M_type_73 hr ?_
  refine EV_sipush d_M_type_74 (by decide +kernel) ⟨by decide, by decide⟩ ?_
  refine EV_icmp_le (tgt := 82) d_M_type_77 (by decide) (fun hc => ?_) (fun hc => ?_)
  · have H := H.1 hc
    refine EV_iconst d_M_type_82 ⟨by decide, by decide⟩ ?_
    refine EV_istore (lv' := [(0, vR 0), (1, vL y1), (3, vI x3), (4, vI 0)]) [1, 2, 3, 0] d_M_type_83 (by decide) rfl ?_
    obtain ⟨n, H⟩ := H
    exact ct_M_type_85 hK n y1 x3 0 m H
  · have H := H.2 hc
    refine EV_iconst d_M_type_80 ⟨by decide, by decide⟩ ?_
    exact EV_iret d_M_type_81 rfl (nw_bool (by decide)) (hK _ _ H)
theorem ct_M_type_61 {l : Launch} {K : Int → Ob → Prop} {K' : Option AV → List AC → Prop} {L2 : Nat → Int → Ob → Prop} {y1 : Nat} {x3 : Int} {m : Ob} (hL2 : ∀ (y1 : Nat) (x3 : Int) (m : Ob), L2 y1 x3 m → EV l prog_13_method_5_code "PrunedSearchModel" 5 (some .boolean) 2 2 [(0, vR 0), (1, vL y1), (3, vI x3)] [] (shM m) K') (H : M_type_61 L2 y1 x3 m K) (hK : ∀ (r : Int) (m' : Ob), K r m' → K' (some (vI r)) (shM m')) : EV l prog_13_method_5_code "PrunedSearchModel" 5 (some .boolean) 2 61 [(0, vR 0), (1, vL y1), (3, vI x3)] [] (shM m) K' := by
  refine EV_iload_n 2 d_M_type_61 rfl rfl ?_
  refine EV_iconst d_M_type_62 ⟨by decide, by decide⟩ ?_
  obtain ⟨hr, H⟩ := H
  refine EV_iadd d_M_type_63 hr ?_
  refine EV_istore_n (lv' := [(0, vR 0), (1, vL y1), (3, vI (x3 + 1))]) [1, 2, 0] d_M_type_64 rfl (by decide) rfl ?_
  refine EV_goto (tgt := 2) d_M_type_65 (by decide) ?_
  exact hL2 y1 (x3 + 1) m H
theorem ct_M_type_2 {l : Launch} {K : Int → Ob → Prop} {K' : Option AV → List AC → Prop} (hK : ∀ (r : Int) (m' : Ob), K r m' → K' (some (vI r)) (shM m')) : ∀ (n : Nat) (y1 : Nat) (x3 : Int) (m : Ob), M_type_2 n y1 x3 m K → EV l prog_13_method_5_code "PrunedSearchModel" 5 (some .boolean) 2 2 [(0, vR 0), (1, vL y1), (3, vI x3)] [] (shM m) K' := by
  intro n
  induction n with
  | zero =>
    intro y1 x3 m H
    exact H.elim
  | succ n ih =>
    intro y1 x3 m H
    refine EV_iload_n 2 d_M_type_2 rfl rfl ?_
    refine EV_bipush d_M_type_3 (by decide +kernel) ⟨by decide, by decide⟩ ?_
    refine EV_icmp_ge (tgt := 68) d_M_type_5 (by decide) (fun hc => ?_) (fun hc => ?_)
    · have H := H.1 hc
      exact ct_M_type_68 H hK
    · have H := H.2 hc
      refine EV_lload_n 1 d_M_type_8 rfl rfl ?_
      refine EV_bipush d_M_type_9 (by decide +kernel) ⟨by decide, by decide⟩ ?_
      refine EV_iload_n 2 d_M_type_11 rfl rfl ?_
      obtain ⟨hr, H⟩ := H
      refine EV_imul d_M_type_12 hr ?_
      obtain ⟨h1, H⟩ := H
      refine EV_lshr d_M_type_13 h1 ?_
      refine EV_ldc2 (n := 255) d_M_type_14 k_1124 (by decide +kernel) (by decide) ?_
      refine EV_land d_M_type_17 ?_
      refine EV_lconst (v := 0) d_M_type_18 rfl ?_
      refine EV_lcmp_eq (tgt := 68) d_M_type_19 d_M_type_20 (by decide) (fun hc => ?_) (fun hc => ?_)
      · have H := H.1 hc
        exact ct_M_type_68 H hK
      · have H := H.2 hc
        refine EV_lload_n 1 d_M_type_23 rfl rfl ?_
        refine EV_bipush d_M_type_24 (by decide +kernel) ⟨by decide, by decide⟩ ?_
        refine EV_iload_n 2 d_M_type_26 rfl rfl ?_
        obtain ⟨hr, H⟩ := H
        refine EV_imul d_M_type_27 hr ?_
        obtain ⟨h1, H⟩ := H
        refine EV_lshr d_M_type_28 h1 ?_
        refine EV_ldc2 (n := 255) d_M_type_29 k_1124 (by decide +kernel) (by decide) ?_
        refine EV_land d_M_type_32 ?_
        obtain ⟨h0, H⟩ := H
        refine EV_l2i d_M_type_33 h0 ?_
        refine EV_istore (lv' := [(0, vR 0), (1, vL y1), (3, vI x3), (4, vI (((sar y1 (8 * x3).toNat) &&& 255 : Nat) : Int))]) [1, 2, 3, 0] d_M_type_34 (by decide) rfl ?_
        refine EV_iload 3 d_M_type_36 rfl ?_
        refine EV_callT (as := [vI (((sar y1 (8 * x3).toNat) &&& 255 : Nat) : Int)]) (st := []) d_M_type_38 k_1125 k_1126 k_12 k_1127 pd_2 ⟨by decide, by decide, Nat.le_of_ble_eq_true rfl⟩ rfl (ct_M_isWord H (fun r_1 H => ?_))
        refine EV_if_ne (tgt := 61) d_M_type_41 (by decide) (fun hc => ?_) (fun hc => ?_)
        · have H := H.1 hc
          refine EV_lv (lv' := [(0, vR 0), (1, vL y1), (3, vI x3)]) [0, 1, 2] rfl ?_
          exact ct_M_type_61 (fun y1 x3 m' H => ih y1 x3 m' H) H hK
        · have H := H.2 hc
          refine EV_iload 3 d_M_type_44 rfl ?_
          refine EV_callT (as := [vI (((sar y1 (8 * x3).toNat) &&& 255 : Nat) : Int)]) (st := []) d_M_type_46 k_1131 k_1132 k_12 k_1133 pd_1 ⟨by decide, by decide, Nat.le_of_ble_eq_true rfl⟩ rfl (ct_M_isSign H (fun r_2 H => ?_))
          refine EV_if_ne (tgt := 61) d_M_type_49 (by decide) (fun hc => ?_) (fun hc => ?_)
          · have H := H.1 hc
            refine EV_lv (lv' := [(0, vR 0), (1, vL y1), (3, vI x3)]) [0, 1, 2] rfl ?_
            exact ct_M_type_61 (fun y1 x3 m' H => ih y1 x3 m' H) H hK
          · have H := H.2 hc
            refine EV_iload 3 d_M_type_52 rfl ?_
            refine EV_bipush d_M_type_54 (by decide +kernel) ⟨by decide, by decide⟩ ?_
            refine EV_icmp_eq (tgt := 61) d_M_type_56 (by decide) (fun hc => ?_) (fun hc => ?_)
            · have H := H.1 hc
              refine EV_lv (lv' := [(0, vR 0), (1, vL y1), (3, vI x3)]) [0, 1, 2] rfl ?_
              exact ct_M_type_61 (fun y1 x3 m' H => ih y1 x3 m' H) H hK
            · have H := H.2 hc
              refine EV_iconst d_M_type_59 ⟨by decide, by decide⟩ ?_
              exact EV_iret d_M_type_60 rfl (nw_bool (by decide)) (hK _ _ H)
theorem ct_M_type {l : Launch} {m : Ob} {y1 : Nat} {K : Int → Ob → Prop} {K' : Option AV → List AC → Prop} (H : wp_M_type y1 m K) (hK : ∀ (r : Int) (m' : Ob), K r m' → K' (some (vI r)) (shM m')) : MT l ⟨"PrunedSearchModel", "type", "(J)Z"⟩ prog_13_method_5_code 5 (some .boolean) 2 [vR 0, vL y1] (shM m) K' := by
  unfold wp_M_type at H
  refine MT_of (lv := [(0, vR 0), (1, vL y1)]) rfl rfl (Nat.le_of_ble_eq_true rfl) rfl ?_
  refine EV_iconst d_M_type_0 ⟨by decide, by decide⟩ ?_
  refine EV_istore_n (lv' := [(0, vR 0), (1, vL y1), (3, vI 0)]) [1, 2, 0] d_M_type_1 rfl (by decide) rfl ?_
  obtain ⟨n, H⟩ := H
  exact ct_M_type_2 hK n y1 0 m H
theorem ct_M_beginPiece {l : Launch} {m : Ob} {K : Ob → Prop} {K' : Option AV → List AC → Prop} (H : wp_M_beginPiece m K) (hK : ∀ (m' : Ob), K m' → K' none (shM m')) : MT l ⟨"PrunedSearchModel", "beginPiece", "()V"⟩ prog_13_method_10_code 1 none 0 [vR 0] (shM m) K' := by
  unfold wp_M_beginPiece at H
  refine MT_of (lv := [(0, vR 0)]) rfl rfl (Nat.le_of_ble_eq_true rfl) rfl ?_
  refine EV_aload_n 0 d_M_beginPiece_0 rfl rfl ?_
  refine EV_get (j := 10) d_M_beginPiece_1 shM_0 rfl fI11 (by decide) k_964 rfl ?_
  refine EV_aload_n 0 d_M_beginPiece_4 rfl rfl ?_
  refine EV_get (j := 9) d_M_beginPiece_5 shM_0 rfl fI11 (by decide) k_963 rfl ?_
  refine EV_aload_n 0 d_M_beginPiece_8 rfl rfl ?_
  refine EV_get (j := 8) d_M_beginPiece_9 shM_0 rfl fI11 (by decide) k_962 rfl ?_
  obtain ⟨hi, H⟩ := H
  refine EV_iast d_M_beginPiece_12 shM_4 hi shM_4_s ?_
  refine EV_aload_n 0 d_M_beginPiece_13 rfl rfl ?_
  refine EV_get (j := 11) d_M_beginPiece_14 shM_0 rfl fI11 (by decide) k_965 rfl ?_
  refine EV_aload_n 0 d_M_beginPiece_17 rfl rfl ?_
  refine EV_get (j := 9) d_M_beginPiece_18 shM_0 rfl fI11 (by decide) k_963 rfl ?_
  refine EV_iconst d_M_beginPiece_21 ⟨by decide, by decide⟩ ?_
  obtain ⟨hi, H⟩ := H
  refine EV_iast d_M_beginPiece_22 shM_5 hi shM_5_s ?_
  refine EV_aload_n 0 d_M_beginPiece_23 rfl rfl ?_
  refine EV_iconst d_M_beginPiece_24 ⟨by decide, by decide⟩ ?_
  refine EV_put (j := 17) d_M_beginPiece_25 shM_0 rfl fI11 fO11 fN11 (by decide) k_971 rfl rfl (fun ad => nf_int ad _) (Nat.le_of_ble_eq_true rfl) shM_0_17 ?_
  exact EV_vret d_M_beginPiece_28 rfl (hK _ H)
theorem ct_M_at {l : Launch} {m : Ob} {x1 : Int} {K : Int → Prop} {K' : Option AV → List AC → Prop} (H : wp_M_at x1 m K) (hK : ∀ (r : Int), K r → K' (some (vI r)) (shM m)) : MT l ⟨"PrunedSearchModel", "at", "(I)I"⟩ prog_13_method_6_code 2 (some .int) 0 [vR 0, vI x1] (shM m) K' := by
  unfold wp_M_at at H
  refine MT_of (lv := [(0, vR 0), (1, vI x1)]) rfl rfl (Nat.le_of_ble_eq_true rfl) rfl ?_
  refine EV_iload_n 1 d_M_at_0 rfl rfl ?_
  refine EV_aload_n 0 d_M_at_1 rfl rfl ?_
  refine EV_get (j := 1) d_M_at_2 shM_0 rfl fI11 (by decide) k_955 rfl ?_
  refine EV_icmp_ge (tgt := 17) d_M_at_5 (by decide) (fun hc => ?_) (fun hc => ?_)
  · have H := H.1 hc
    refine EV_iconst d_M_at_17 ⟨by decide, by decide⟩ ?_
    exact EV_iret d_M_at_18 rfl (nw_int _) (hK _ H)
  · have H := H.2 hc
    refine EV_aload_n 0 d_M_at_8 rfl rfl ?_
    refine EV_get (j := 0) d_M_at_9 shM_0 rfl fI11 (by decide) k_954 rfl ?_
    refine EV_iload_n 1 d_M_at_12 rfl rfl ?_
    obtain ⟨hi, H⟩ := H
    refine EV_iald d_M_at_13 shM_1 hi ?_
    refine EV_goto (tgt := 18) d_M_at_14 (by decide) ?_
    exact EV_iret d_M_at_18 rfl (nw_int _) (hK _ H)
theorem ct_M_take_248 {l : Launch} {K : Ob → Prop} {K' : Option AV → List AC → Prop} {s0 : Int} {m : Ob} (H : M_take_248 s0 m K) (hK : ∀ (m' : Ob), K m' → K' none (shM m')) : EV l prog_13_method_7_code "PrunedSearchModel" 2 none 2 248 [(0, vR 0)] [vI s0, vR 0] (shM m) K' := by
  refine EV_put (j := 2) d_M_take_248 shM_0 rfl fI11 fO11 fN11 (by decide) k_956 rfl rfl (fun ad => nf_int ad _) (Nat.le_of_ble_eq_true rfl) shM_0_2 ?_
  refine EV_aload_n 0 d_M_take_251 rfl rfl ?_
  refine EV_aload_n 0 d_M_take_252 rfl rfl ?_
  refine EV_get (j := 3) d_M_take_253 shM_0 rfl fI11 (by decide) k_957 rfl ?_
  refine EV_iconst d_M_take_256 ⟨by decide, by decide⟩ ?_
  obtain ⟨hr, H⟩ := H
  refine EV_iadd d_M_take_257 hr ?_
  refine EV_put (j := 4) d_M_take_258 shM_0 rfl fI11 fO11 fN11 (by decide) k_958 rfl rfl (fun ad => nf_int ad _) (Nat.le_of_ble_eq_true rfl) shM_0_4 ?_
  refine EV_goto (tgt := 269) d_M_take_261 (by decide) ?_
  exact EV_vret d_M_take_269 rfl (hK _ H)
theorem ct_M_take_247 {l : Launch} {K : Ob → Prop} {K' : Option AV → List AC → Prop} {m : Ob} (H : M_take_247 m K) (hK : ∀ (m' : Ob), K m' → K' none (shM m')) : EV l prog_13_method_7_code "PrunedSearchModel" 2 none 2 247 [(0, vR 0)] [vR 0] (shM m) K' := by
  refine EV_iconst d_M_take_247 ⟨by decide, by decide⟩ ?_
  exact ct_M_take_248 H hK
theorem ct_M_take_221 {l : Launch} {K : Ob → Prop} {K' : Option AV → List AC → Prop} {x1 : Int} {m : Ob} (H : M_take_221 x1 m K) (hK : ∀ (m' : Ob), K m' → K' none (shM m')) : EV l prog_13_method_7_code "PrunedSearchModel" 2 none 2 221 [(0, vR 0), (1, vI x1)] [] (shM m) K' := by
  refine EV_aload_n 0 d_M_take_221 rfl rfl ?_
  refine EV_iload_n 1 d_M_take_222 rfl rfl ?_
  refine EV_bipush d_M_take_223 (by decide +kernel) ⟨by decide, by decide⟩ ?_
  refine EV_icmp_ne (tgt := 247) d_M_take_225 (by decide) (fun hc => ?_) (fun hc => ?_)
  · have H := H.1 hc
    refine EV_lv (lv' := [(0, vR 0)]) [0] rfl ?_
    exact ct_M_take_247 H hK
  · have H := H.2 hc
    refine EV_aload_n 0 d_M_take_228 rfl rfl ?_
    refine EV_aload_n 0 d_M_take_229 rfl rfl ?_
    refine EV_get (j := 3) d_M_take_230 shM_0 rfl fI11 (by decide) k_957 rfl ?_
    refine EV_iconst d_M_take_233 ⟨by decide, by decide⟩ ?_
    obtain ⟨hr, H⟩ := H
    refine EV_iadd d_M_take_234 hr ?_
    refine EV_callV (as := [vI ((m.1 2) + 1)]) (st := [vR 0]) d_M_take_235 k_1150 k_1152 kp_42 k_12 k_1153 shM_0 rfl pd_3 ⟨by decide, by decide, Nat.le_of_ble_eq_true rfl⟩ rfl (ct_M_at H (fun r_4 H => ?_))
    refine EV_bipush d_M_take_238 (by decide +kernel) ⟨by decide, by decide⟩ ?_
    refine EV_icmp_ne (tgt := 247) d_M_take_240 (by decide) (fun hc => ?_) (fun hc => ?_)
    · have H := H.1 hc
      refine EV_lv (lv' := [(0, vR 0)]) [0] rfl ?_
      exact ct_M_take_247 H hK
    · have H := H.2 hc
      refine EV_iconst d_M_take_243 ⟨by decide, by decide⟩ ?_
      refine EV_goto (tgt := 248) d_M_take_244 (by decide) ?_
      refine EV_lv (lv' := [(0, vR 0)]) [0] rfl ?_
      exact ct_M_take_248 H hK
theorem ct_M_take_203 {l : Launch} {K : Ob → Prop} {K' : Option AV → List AC → Prop} {s0 : Int} {m : Ob} (H : M_take_203 s0 m K) (hK : ∀ (m' : Ob), K m' → K' none (shM m')) : EV l prog_13_method_7_code "PrunedSearchModel" 2 none 2 203 [] [vI s0, vR 0] (shM m) K' := by
  refine EV_put (j := 2) d_M_take_203 shM_0 rfl fI11 fO11 fN11 (by decide) k_956 rfl rfl (fun ad => nf_int ad _) (Nat.le_of_ble_eq_true rfl) shM_0_2 ?_
  refine EV_goto (tgt := 269) d_M_take_206 (by decide) ?_
  exact EV_vret d_M_take_269 rfl (hK _ H)
theorem ct_M_take_172 {l : Launch} {K : Ob → Prop} {K' : Option AV → List AC → Prop} {x1 : Int} {m : Ob} (H : M_take_172 x1 m K) (hK : ∀ (m' : Ob), K m' → K' none (shM m')) : EV l prog_13_method_7_code "PrunedSearchModel" 2 none 2 172 [(0, vR 0), (1, vI x1)] [] (shM m) K' := by
  refine EV_aload_n 0 d_M_take_172 rfl rfl ?_
  refine EV_aload_n 0 d_M_take_173 rfl rfl ?_
  refine EV_get (j := 4) d_M_take_174 shM_0 rfl fI11 (by decide) k_958 rfl ?_
  refine EV_aload_n 0 d_M_take_177 rfl rfl ?_
  refine EV_get (j := 3) d_M_take_178 shM_0 rfl fI11 (by decide) k_957 rfl ?_
  obtain ⟨hr, H⟩ := H
  refine EV_isub d_M_take_181 hr ?_
  refine EV_bipush d_M_take_182 (by decide +kernel) ⟨by decide, by decide⟩ ?_
  refine EV_icmp_le (tgt := 191) d_M_take_184 (by decide) (fun hc => ?_) (fun hc => ?_)
  · have H := H.1 hc
    refine EV_iload_n 1 d_M_take_191 rfl rfl ?_
    refine EV_callT (as := [vI x1]) (st := [vR 0]) d_M_take_192 k_1128 k_1129 k_12 k_1130 pd_0 ⟨by decide, by decide, Nat.le_of_ble_eq_true rfl⟩ rfl (ct_M_isSmall H (fun r_7 H => ?_))
    refine EV_if_eq (tgt := 202) d_M_take_195 (by decide) (fun hc => ?_) (fun hc => ?_)
    · have H := H.1 hc
      refine EV_iconst d_M_take_202 ⟨by decide, by decide⟩ ?_
      refine EV_lv (lv' := []) [] rfl ?_
      exact ct_M_take_203 H hK
    · have H := H.2 hc
      refine EV_iconst d_M_take_198 ⟨by decide, by decide⟩ ?_
      refine EV_goto (tgt := 203) d_M_take_199 (by decide) ?_
      refine EV_lv (lv' := []) [] rfl ?_
      exact ct_M_take_203 H hK
  · have H := H.2 hc
    refine EV_iconst d_M_take_187 ⟨by decide, by decide⟩ ?_
    refine EV_goto (tgt := 203) d_M_take_188 (by decide) ?_
    refine EV_lv (lv' := []) [] rfl ?_
    exact ct_M_take_203 H hK
theorem ct_M_take_156 {l : Launch} {K : Ob → Prop} {K' : Option AV → List AC → Prop} {L93 : Int → Ob → Prop} {x1 : Int} {t0 : Nat} {m : Ob} (hL93 : ∀ (x1 : Int) (m : Ob), L93 x1 m → EV l prog_13_method_7_code "PrunedSearchModel" 2 none 2 93 [(0, vR 0), (1, vI x1)] [] (shM m) K') (H : M_take_156 L93 x1 t0 m K) (hK : ∀ (m' : Ob), K m' → K' none (shM m')) : EV l prog_13_method_7_code "PrunedSearchModel" 2 none 2 156 [(0, vR 0), (1, vI x1)] [vL t0, vR 0] (shM m) K' := by
  refine EV_put (j := 5) d_M_take_156 shM_0 rfl fI11 fO11 fN11 (by decide) k_959 rfl rfl (fun ad => nf_long ad _) (Nat.le_of_ble_eq_true rfl) shM_0_5 ?_
  refine EV_aload_n 0 d_M_take_159 rfl rfl ?_
  refine EV_aload_n 0 d_M_take_160 rfl rfl ?_
  refine EV_get (j := 4) d_M_take_161 shM_0 rfl fI11 (by decide) k_958 rfl ?_
  refine EV_iconst d_M_take_164 ⟨by decide, by decide⟩ ?_
  obtain ⟨hr, H⟩ := H
  refine EV_iadd d_M_take_165 hr ?_
  refine EV_put (j := 4) d_M_take_166 shM_0 rfl fI11 fO11 fN11 (by decide) k_958 rfl rfl (fun ad => nf_int ad _) (Nat.le_of_ble_eq_true rfl) shM_0_4 ?_
  refine EV_goto (tgt := 93) d_M_take_169 (by decide) ?_
  exact hL93 x1 (sI (sJ m 0 t0) 3 ((m.1 3) + 1)) H
theorem ct_M_take_93 {l : Launch} {K : Ob → Prop} {K' : Option AV → List AC → Prop} (hK : ∀ (m' : Ob), K m' → K' none (shM m')) : ∀ (n : Nat) (x1 : Int) (m : Ob), M_take_93 n x1 m K → EV l prog_13_method_7_code "PrunedSearchModel" 2 none 2 93 [(0, vR 0), (1, vI x1)] [] (shM m) K' := by
  intro n
  induction n with
  | zero =>
    intro x1 m H
    exact H.elim
  | succ n ih =>
    intro x1 m H
    refine EV_aload_n 0 d_M_take_93 rfl rfl ?_
    refine EV_aload_n 0 d_M_take_94 rfl rfl ?_
    refine EV_get (j := 4) d_M_take_95 shM_0 rfl fI11 (by decide) k_958 rfl ?_
    refine EV_callV (as := [vI (m.1 3)]) (st := []) d_M_take_98 k_1150 k_1152 kp_42 k_12 k_1153 shM_0 rfl pd_3 ⟨by decide, by decide, Nat.le_of_ble_eq_true rfl⟩ rfl (ct_M_at H (fun r_5 H => ?_))
    refine EV_callT (as := [vI r_5]) (st := []) d_M_take_101 k_1125 k_1126 k_12 k_1127 pd_2 ⟨by decide, by decide, Nat.le_of_ble_eq_true rfl⟩ rfl (ct_M_isWord H (fun r_6 H => ?_))
    refine EV_if_eq (tgt := 172) d_M_take_104 (by decide) (fun hc => ?_) (fun hc => ?_)
    · have H := H.1 hc
      exact ct_M_take_172 H hK
    · have H := H.2 hc
      refine EV_aload_n 0 d_M_take_107 rfl rfl ?_
      refine EV_aload_n 0 d_M_take_108 rfl rfl ?_
      refine EV_get (j := 4) d_M_take_109 shM_0 rfl fI11 (by decide) k_958 rfl ?_
      refine EV_aload_n 0 d_M_take_112 rfl rfl ?_
      refine EV_get (j := 3) d_M_take_113 shM_0 rfl fI11 (by decide) k_957 rfl ?_
      obtain ⟨hr, H⟩ := H
      refine EV_isub d_M_take_116 hr ?_
      refine EV_bipush d_M_take_117 (by decide +kernel) ⟨by decide, by decide⟩ ?_
      refine EV_icmp_ge (tgt := 152) d_M_take_119 (by decide) (fun hc => ?_) (fun hc => ?_)
      · have H := H.1 hc
        refine EV_aload_n 0 d_M_take_152 rfl rfl ?_
        refine EV_get (j := 5) d_M_take_153 shM_0 rfl fI11 (by decide) k_959 rfl ?_
        exact ct_M_take_156 (fun x1 m' H => ih x1 m' H) H hK
      · have H := H.2 hc
        refine EV_aload_n 0 d_M_take_122 rfl rfl ?_
        refine EV_get (j := 5) d_M_take_123 shM_0 rfl fI11 (by decide) k_959 rfl ?_
        refine EV_aload_n 0 d_M_take_126 rfl rfl ?_
        refine EV_aload_n 0 d_M_take_127 rfl rfl ?_
        refine EV_get (j := 4) d_M_take_128 shM_0 rfl fI11 (by decide) k_958 rfl ?_
        refine EV_callV (as := [vI (m.1 3)]) (st := [vL (m.2.2.1 0), vR 0]) d_M_take_131 k_1150 k_1152 kp_42 k_12 k_1153 shM_0 rfl pd_3 ⟨by decide, by decide, Nat.le_of_ble_eq_true rfl⟩ rfl (ct_M_at H (fun r_8 H => ?_))
        obtain ⟨h0, H⟩ := H
        refine EV_i2l d_M_take_134 h0 ?_
        refine EV_bipush d_M_take_135 (by decide +kernel) ⟨by decide, by decide⟩ ?_
        refine EV_aload_n 0 d_M_take_137 rfl rfl ?_
        refine EV_get (j := 4) d_M_take_138 shM_0 rfl fI11 (by decide) k_958 rfl ?_
        refine EV_aload_n 0 d_M_take_141 rfl rfl ?_
        refine EV_get (j := 3) d_M_take_142 shM_0 rfl fI11 (by decide) k_957 rfl ?_
        obtain ⟨hr, H⟩ := H
        refine EV_isub d_M_take_145 hr ?_
        obtain ⟨hr, H⟩ := H
        refine EV_imul d_M_take_146 hr ?_
        obtain ⟨h1, h2, H⟩ := H
        refine EV_lshl d_M_take_147 h1 h2 ?_
        refine EV_lor d_M_take_148 ?_
        refine EV_goto (tgt := 156) d_M_take_149 (by decide) ?_
        exact ct_M_take_156 (fun x1 m' H => ih x1 m' H) H hK
theorem ct_M_take_34 {l : Launch} {K : Ob → Prop} {K' : Option AV → List AC → Prop} {m : Ob} (H : M_take_34 m K) (hK : ∀ (m' : Ob), K m' → K' none (shM m')) : EV l prog_13_method_7_code "PrunedSearchModel" 2 none 2 34 [(0, vR 0)] [] (shM m) K' := by
  refine EV_aload_n 0 d_M_take_34 rfl rfl ?_
  refine EV_aload_n 0 d_M_take_35 rfl rfl ?_
  refine EV_get (j := 3) d_M_take_36 shM_0 rfl fI11 (by decide) k_957 rfl ?_
  refine EV_callV (as := [vI (m.1 2)]) (st := []) d_M_take_39 k_1150 k_1152 kp_42 k_12 k_1153 shM_0 rfl pd_3 ⟨by decide, by decide, Nat.le_of_ble_eq_true rfl⟩ rfl (ct_M_at H (fun r_2 H => ?_))
  refine EV_istore_n (lv' := [(0, vR 0), (1, vI r_2)]) [1, 0] d_M_take_42 rfl (by decide) rfl ?_
  refine EV_aload_n 0 d_M_take_43 rfl rfl ?_
  refine EV_aload_n 0 d_M_take_44 rfl rfl ?_
  refine EV_get (j := 3) d_M_take_45 shM_0 rfl fI11 (by decide) k_957 rfl ?_
  refine EV_iconst d_M_take_48 ⟨by decide, by decide⟩ ?_
  obtain ⟨hr, H⟩ := H
  refine EV_iadd d_M_take_49 hr ?_
  refine EV_put (j := 4) d_M_take_50 shM_0 rfl fI11 fO11 fN11 (by decide) k_958 rfl rfl (fun ad => nf_int ad _) (Nat.le_of_ble_eq_true rfl) shM_0_4 ?_
  refine EV_iload_n 1 d_M_take_53 rfl rfl ?_
  refine EV_if_ne (tgt := 73) d_M_take_54 (by decide) (fun hc => ?_) (fun hc => ?_)
  · have H := H.1 hc
    refine EV_iload_n 1 d_M_take_73 rfl rfl ?_
    refine EV_callT (as := [vI r_2]) (st := []) d_M_take_74 k_1125 k_1126 k_12 k_1127 pd_2 ⟨by decide, by decide, Nat.le_of_ble_eq_true rfl⟩ rfl (ct_M_isWord H (fun r_3 H => ?_))
    refine EV_if_eq (tgt := 209) d_M_take_77 (by decide) (fun hc => ?_) (fun hc => ?_)
    · have H := H.1 hc
      refine EV_iload_n 1 d_M_take_209 rfl rfl ?_
      refine EV_bipush d_M_take_210 (by decide +kernel) ⟨by decide, by decide⟩ ?_
      refine EV_icmp_eq (tgt := 221) d_M_take_212 (by decide) (fun hc => ?_) (fun hc => ?_)
      · have H := H.1 hc
        exact ct_M_take_221 H hK
      · have H := H.2 hc
        refine EV_iload_n 1 d_M_take_215 rfl rfl ?_
        refine EV_bipush d_M_take_216 (by decide +kernel) ⟨by decide, by decide⟩ ?_
        refine EV_icmp_ne (tgt := 264) d_M_take_218 (by decide) (fun hc => ?_) (fun hc => ?_)
        · have H := H.1 hc
          refine EV_aload_n 0 d_M_take_264 rfl rfl ?_
          refine EV_iload_n 1 d_M_take_265 rfl rfl ?_
          refine EV_put (j := 2) d_M_take_266 shM_0 rfl fI11 fO11 fN11 (by decide) k_956 rfl rfl (fun ad => nf_int ad _) (Nat.le_of_ble_eq_true rfl) shM_0_2 ?_
          exact EV_vret d_M_take_269 rfl (hK _ H)
        · have H := H.2 hc
          exact ct_M_take_221 H hK
    · have H := H.2 hc
      refine EV_aload_n 0 d_M_take_80 rfl rfl ?_
      refine EV_lconst (v := 0) d_M_take_81 rfl ?_
      refine EV_put (j := 5) d_M_take_82 shM_0 rfl fI11 fO11 fN11 (by decide) k_959 rfl rfl (fun ad => nf_long ad _) (Nat.le_of_ble_eq_true rfl) shM_0_5 ?_
      refine EV_aload_n 0 d_M_take_85 rfl rfl ?_
      refine EV_aload_n 0 d_M_take_86 rfl rfl ?_
      refine EV_get (j := 3) d_M_take_87 shM_0 rfl fI11 (by decide) k_957 rfl ?_
      refine EV_put (j := 4) d_M_take_90 shM_0 rfl fI11 fO11 fN11 (by decide) k_958 rfl rfl (fun ad => nf_int ad _) (Nat.le_of_ble_eq_true rfl) shM_0_4 ?_
      obtain ⟨n, H⟩ := H
      exact ct_M_take_93 hK n r_2 (sI (sJ (sI m 3 ((m.1 2) + 1)) 0 0) 3 (m.1 2)) H
  · have H := H.2 hc
    refine EV_aload_n 0 d_M_take_57 rfl rfl ?_
    refine EV_iconst d_M_take_58 ⟨by decide, by decide⟩ ?_
    refine EV_put (j := 2) d_M_take_59 shM_0 rfl fI11 fO11 fN11 (by decide) k_956 rfl rfl (fun ad => nf_int ad _) (Nat.le_of_ble_eq_true rfl) shM_0_2 ?_
    refine EV_aload_n 0 d_M_take_62 rfl rfl ?_
    refine EV_aload_n 0 d_M_take_63 rfl rfl ?_
    refine EV_get (j := 3) d_M_take_64 shM_0 rfl fI11 (by decide) k_957 rfl ?_
    refine EV_put (j := 4) d_M_take_67 shM_0 rfl fI11 fO11 fN11 (by decide) k_958 rfl rfl (fun ad => nf_int ad _) (Nat.le_of_ble_eq_true rfl) shM_0_4 ?_
    refine EV_goto (tgt := 269) d_M_take_70 (by decide) ?_
    exact EV_vret d_M_take_269 rfl (hK _ H)
theorem ct_M_take_8 {l : Launch} {K : Ob → Prop} {K' : Option AV → List AC → Prop} (hK : ∀ (m' : Ob), K m' → K' none (shM m')) : ∀ (n : Nat)  (m : Ob), M_take_8 n m K → EV l prog_13_method_7_code "PrunedSearchModel" 2 none 2 8 [(0, vR 0)] [] (shM m) K' := by
  intro n
  induction n with
  | zero =>
    intro m H
    exact H.elim
  | succ n ih =>
    intro m H
    refine EV_aload_n 0 d_M_take_8 rfl rfl ?_
    refine EV_aload_n 0 d_M_take_9 rfl rfl ?_
    refine EV_get (j := 3) d_M_take_10 shM_0 rfl fI11 (by decide) k_957 rfl ?_
    refine EV_callV (as := [vI (m.1 2)]) (st := []) d_M_take_13 k_1150 k_1152 kp_42 k_12 k_1153 shM_0 rfl pd_3 ⟨by decide, by decide, Nat.le_of_ble_eq_true rfl⟩ rfl (ct_M_at H (fun r_1 H => ?_))
    refine EV_bipush d_M_take_16 (by decide +kernel) ⟨by decide, by decide⟩ ?_
    refine EV_icmp_ne (tgt := 34) d_M_take_18 (by decide) (fun hc => ?_) (fun hc => ?_)
    · have H := H.1 hc
      exact ct_M_take_34 H hK
    · have H := H.2 hc
      refine EV_aload_n 0 d_M_take_21 rfl rfl ?_
      refine EV_aload_n 0 d_M_take_22 rfl rfl ?_
      refine EV_get (j := 3) d_M_take_23 shM_0 rfl fI11 (by decide) k_957 rfl ?_
      refine EV_iconst d_M_take_26 ⟨by decide, by decide⟩ ?_
      obtain ⟨hr, H⟩ := H
      refine EV_iadd d_M_take_27 hr ?_
      refine EV_put (j := 3) d_M_take_28 shM_0 rfl fI11 fO11 fN11 (by decide) k_957 rfl rfl (fun ad => nf_int ad _) (Nat.le_of_ble_eq_true rfl) shM_0_3 ?_
      refine EV_goto (tgt := 8) d_M_take_31 (by decide) ?_
      exact ih (sI m 2 ((m.1 2) + 1)) H
theorem ct_M_take {l : Launch} {m : Ob} {K : Ob → Prop} {K' : Option AV → List AC → Prop} (H : wp_M_take m K) (hK : ∀ (m' : Ob), K m' → K' none (shM m')) : MT l ⟨"PrunedSearchModel", "take", "()V"⟩ prog_13_method_7_code 2 none 2 [vR 0] (shM m) K' := by
  unfold wp_M_take at H
  refine MT_of (lv := [(0, vR 0)]) rfl rfl (Nat.le_of_ble_eq_true rfl) rfl ?_
  refine EV_aload_n 0 d_M_take_0 rfl rfl ?_
  refine EV_aload_n 0 d_M_take_1 rfl rfl ?_
  refine EV_get (j := 4) d_M_take_2 shM_0 rfl fI11 (by decide) k_958 rfl ?_
  refine EV_put (j := 3) d_M_take_5 shM_0 rfl fI11 fO11 fN11 (by decide) k_957 rfl rfl (fun ad => nf_int ad _) (Nat.le_of_ble_eq_true rfl) shM_0_3 ?_
  obtain ⟨n, H⟩ := H
  exact ct_M_take_8 hK n (sI m 2 (m.1 3)) H
theorem ct_M_push {l : Launch} {m : Ob} {x1 : Int} {K : Int → Ob → Prop} {K' : Option AV → List AC → Prop} (H : wp_M_push x1 m K) (hK : ∀ (r : Int) (m' : Ob), K r m' → K' (some (vI r)) (shM m')) : MT l ⟨"PrunedSearchModel", "push", "(I)Z"⟩ prog_13_method_13_code 2 (some .boolean) 0 [vR 0, vI x1] (shM m) K' := by
  unfold wp_M_push at H
  refine MT_of (lv := [(0, vR 0), (1, vI x1)]) rfl rfl (Nat.le_of_ble_eq_true rfl) rfl ?_
  refine EV_aload_n 0 d_M_push_0 rfl rfl ?_
  refine EV_get (j := 18) d_M_push_1 shM_0 rfl fI11 (by decide) k_972 rfl ?_
  refine EV_bipush d_M_push_4 (by decide +kernel) ⟨by decide, by decide⟩ ?_
  refine EV_icmp_ne (tgt := 11) d_M_push_6 (by decide) (fun hc => ?_) (fun hc => ?_)
  · have H := H.1 hc
    refine EV_aload_n 0 d_M_push_11 rfl rfl ?_
    refine EV_get (j := 19) d_M_push_12 shM_0 rfl fI11 (by decide) k_973 rfl ?_
    refine EV_aload_n 0 d_M_push_15 rfl rfl ?_
    refine EV_get (j := 18) d_M_push_16 shM_0 rfl fI11 (by decide) k_972 rfl ?_
    refine EV_iload_n 1 d_M_push_19 rfl rfl ?_
    obtain ⟨hi, H⟩ := H
    refine EV_iast d_M_push_20 shM_10 hi shM_10_s ?_
    refine EV_aload_n 0 d_M_push_21 rfl rfl ?_
    refine EV_get (j := 20) d_M_push_22 shM_0 rfl fI11 (by decide) k_974 rfl ?_
    refine EV_aload_n 0 d_M_push_25 rfl rfl ?_
    refine EV_get (j := 18) d_M_push_26 shM_0 rfl fI11 (by decide) k_972 rfl ?_
    refine EV_aload_n 0 d_M_push_29 rfl rfl ?_
    refine EV_get (j := 8) d_M_push_30 shM_0 rfl fI11 (by decide) k_962 rfl ?_
    refine EV_iconst d_M_push_33 ⟨by decide, by decide⟩ ?_
    obtain ⟨hr, H⟩ := H
    refine EV_isub d_M_push_34 hr ?_
    obtain ⟨hi, H⟩ := H
    refine EV_iast d_M_push_35 shM_11 hi shM_11_s ?_
    refine EV_aload_n 0 d_M_push_36 rfl rfl ?_
    refine EV_get (j := 21) d_M_push_37 shM_0 rfl fI11 (by decide) k_975 rfl ?_
    refine EV_aload_n 0 d_M_push_40 rfl rfl ?_
    refine EV_get (j := 18) d_M_push_41 shM_0 rfl fI11 (by decide) k_972 rfl ?_
    refine EV_iconst d_M_push_44 ⟨by decide, by decide⟩ ?_
    obtain ⟨hi, H⟩ := H
    refine EV_iast d_M_push_45 shM_12 hi shM_12_s ?_
    refine EV_aload_n 0 d_M_push_46 rfl rfl ?_
    refine EV_aload_n 0 d_M_push_47 rfl rfl ?_
    refine EV_get (j := 18) d_M_push_48 shM_0 rfl fI11 (by decide) k_972 rfl ?_
    refine EV_iconst d_M_push_51 ⟨by decide, by decide⟩ ?_
    obtain ⟨hr, H⟩ := H
    refine EV_iadd d_M_push_52 hr ?_
    refine EV_put (j := 18) d_M_push_53 shM_0 rfl fI11 fO11 fN11 (by decide) k_972 rfl rfl (fun ad => nf_int ad _) (Nat.le_of_ble_eq_true rfl) shM_0_18 ?_
    refine EV_iconst d_M_push_56 ⟨by decide, by decide⟩ ?_
    exact EV_iret d_M_push_57 rfl (nw_bool (by decide)) (hK _ _ H)
  · have H := H.2 hc
    refine EV_iconst d_M_push_9 ⟨by decide, by decide⟩ ?_
    exact EV_iret d_M_push_10 rfl (nw_bool (by decide)) (hK _ _ H)
theorem ct_M_emit {l : Launch} {m : Ob} {y1 : Nat} {x3 : Int} {K : Ob → Prop} {K' : Option AV → List AC → Prop} (H : wp_M_emit y1 x3 m K) (hK : ∀ (m' : Ob), K m' → K' none (shM m')) : MT l ⟨"PrunedSearchModel", "emit", "(JI)V"⟩ prog_13_method_8_code 4 none 0 [vR 0, vL y1, vI x3] (shM m) K' := by
  unfold wp_M_emit at H
  refine MT_of (lv := [(0, vR 0), (1, vL y1), (3, vI x3)]) rfl rfl (Nat.le_of_ble_eq_true rfl) rfl ?_
  refine EV_aload_n 0 d_M_emit_0 rfl rfl ?_
  refine EV_get (j := 6) d_M_emit_1 shM_0 rfl fI11 (by decide) k_960 rfl ?_
  refine EV_aload_n 0 d_M_emit_4 rfl rfl ?_
  refine EV_get (j := 8) d_M_emit_5 shM_0 rfl fI11 (by decide) k_962 rfl ?_
  refine EV_lload_n 1 d_M_emit_8 rfl rfl ?_
  obtain ⟨hi, H⟩ := H
  refine EV_last d_M_emit_9 shM_2 hi shM_2_s ?_
  refine EV_aload_n 0 d_M_emit_10 rfl rfl ?_
  refine EV_get (j := 7) d_M_emit_11 shM_0 rfl fI11 (by decide) k_961 rfl ?_
  refine EV_aload_n 0 d_M_emit_14 rfl rfl ?_
  refine EV_get (j := 8) d_M_emit_15 shM_0 rfl fI11 (by decide) k_962 rfl ?_
  refine EV_iload_n 2 d_M_emit_18 rfl rfl ?_
  obtain ⟨hi, H⟩ := H
  refine EV_iast d_M_emit_19 shM_3 hi shM_3_s ?_
  refine EV_aload_n 0 d_M_emit_20 rfl rfl ?_
  refine EV_aload_n 0 d_M_emit_21 rfl rfl ?_
  refine EV_get (j := 8) d_M_emit_22 shM_0 rfl fI11 (by decide) k_962 rfl ?_
  refine EV_iconst d_M_emit_25 ⟨by decide, by decide⟩ ?_
  obtain ⟨hr, H⟩ := H
  refine EV_iadd d_M_emit_26 hr ?_
  refine EV_put (j := 8) d_M_emit_27 shM_0 rfl fI11 fO11 fN11 (by decide) k_962 rfl rfl (fun ad => nf_int ad _) (Nat.le_of_ble_eq_true rfl) shM_0_8 ?_
  exact EV_vret d_M_emit_30 rfl (hK _ H)
theorem ct_M_beginGoal {l : Launch} {m : Ob} {K : Ob → Prop} {K' : Option AV → List AC → Prop} (H : wp_M_beginGoal m K) (hK : ∀ (m' : Ob), K m' → K' none (shM m')) : MT l ⟨"PrunedSearchModel", "beginGoal", "()V"⟩ prog_13_method_11_code 1 none 0 [vR 0] (shM m) K' := by
  unfold wp_M_beginGoal at H
  refine MT_of (lv := [(0, vR 0)]) rfl rfl (Nat.le_of_ble_eq_true rfl) rfl ?_
  refine EV_aload_n 0 d_M_beginGoal_0 rfl rfl ?_
  refine EV_get (j := 14) d_M_beginGoal_1 shM_0 rfl fI11 (by decide) k_968 rfl ?_
  refine EV_aload_n 0 d_M_beginGoal_4 rfl rfl ?_
  refine EV_get (j := 13) d_M_beginGoal_5 shM_0 rfl fI11 (by decide) k_967 rfl ?_
  refine EV_aload_n 0 d_M_beginGoal_8 rfl rfl ?_
  refine EV_get (j := 8) d_M_beginGoal_9 shM_0 rfl fI11 (by decide) k_962 rfl ?_
  obtain ⟨hi, H⟩ := H
  refine EV_iast d_M_beginGoal_12 shM_7 hi shM_7_s ?_
  refine EV_aload_n 0 d_M_beginGoal_13 rfl rfl ?_
  refine EV_aload_n 0 d_M_beginGoal_14 rfl rfl ?_
  refine EV_get (j := 13) d_M_beginGoal_15 shM_0 rfl fI11 (by decide) k_967 rfl ?_
  refine EV_iconst d_M_beginGoal_18 ⟨by decide, by decide⟩ ?_
  obtain ⟨hr, H⟩ := H
  refine EV_iadd d_M_beginGoal_19 hr ?_
  refine EV_put (j := 13) d_M_beginGoal_20 shM_0 rfl fI11 fO11 fN11 (by decide) k_967 rfl rfl (fun ad => nf_int ad _) (Nat.le_of_ble_eq_true rfl) shM_0_13 ?_
  refine EV_aload_n 0 d_M_beginGoal_23 rfl rfl ?_
  refine EV_get (j := 11) d_M_beginGoal_24 shM_0 rfl fI11 (by decide) k_965 rfl ?_
  refine EV_aload_n 0 d_M_beginGoal_27 rfl rfl ?_
  refine EV_get (j := 9) d_M_beginGoal_28 shM_0 rfl fI11 (by decide) k_963 rfl ?_
  refine EV_aload_n 0 d_M_beginGoal_31 rfl rfl ?_
  refine EV_get (j := 11) d_M_beginGoal_32 shM_0 rfl fI11 (by decide) k_965 rfl ?_
  refine EV_aload_n 0 d_M_beginGoal_35 rfl rfl ?_
  refine EV_get (j := 9) d_M_beginGoal_36 shM_0 rfl fI11 (by decide) k_963 rfl ?_
  obtain ⟨hi, H⟩ := H
  refine EV_iald d_M_beginGoal_39 shM_5 hi ?_
  refine EV_iconst d_M_beginGoal_40 ⟨by decide, by decide⟩ ?_
  obtain ⟨hr, H⟩ := H
  refine EV_iadd d_M_beginGoal_41 hr ?_
  obtain ⟨hi, H⟩ := H
  refine EV_iast d_M_beginGoal_42 shM_5 hi shM_5_s ?_
  exact EV_vret d_M_beginGoal_43 rfl (hK _ H)
theorem ct_M_endPiece {l : Launch} {m : Ob} {K : Ob → Prop} {K' : Option AV → List AC → Prop} (H : wp_M_endPiece m K) (hK : ∀ (m' : Ob), K m' → K' none (shM m')) : MT l ⟨"PrunedSearchModel", "endPiece", "()V"⟩ prog_13_method_12_code 1 none 0 [vR 0] (shM m) K' := by
  unfold wp_M_endPiece at H
  refine MT_of (lv := [(0, vR 0)]) rfl rfl (Nat.le_of_ble_eq_true rfl) rfl ?_
  refine EV_aload_n 0 d_M_endPiece_0 rfl rfl ?_
  refine EV_get (j := 12) d_M_endPiece_1 shM_0 rfl fI11 (by decide) k_966 rfl ?_
  refine EV_aload_n 0 d_M_endPiece_4 rfl rfl ?_
  refine EV_get (j := 9) d_M_endPiece_5 shM_0 rfl fI11 (by decide) k_963 rfl ?_
  refine EV_aload_n 0 d_M_endPiece_8 rfl rfl ?_
  refine EV_get (j := 17) d_M_endPiece_9 shM_0 rfl fI11 (by decide) k_971 rfl ?_
  obtain ⟨hi, H⟩ := H
  refine EV_iast d_M_endPiece_12 shM_6 hi shM_6_s ?_
  refine EV_aload_n 0 d_M_endPiece_13 rfl rfl ?_
  refine EV_aload_n 0 d_M_endPiece_14 rfl rfl ?_
  refine EV_get (j := 9) d_M_endPiece_15 shM_0 rfl fI11 (by decide) k_963 rfl ?_
  refine EV_iconst d_M_endPiece_18 ⟨by decide, by decide⟩ ?_
  obtain ⟨hr, H⟩ := H
  refine EV_iadd d_M_endPiece_19 hr ?_
  refine EV_put (j := 9) d_M_endPiece_20 shM_0 rfl fI11 fO11 fN11 (by decide) k_963 rfl rfl (fun ad => nf_int ad _) (Nat.le_of_ble_eq_true rfl) shM_0_9 ?_
  exact EV_vret d_M_endPiece_23 rfl (hK _ H)
theorem ct_M_outside_111 {l : Launch} {K : Int → Ob → Prop} {K' : Option AV → List AC → Prop} {x2 : Int} {m : Ob} (H : M_outside_111 x2 m K) (hK : ∀ (r : Int) (m' : Ob), K r m' → K' (some (vI r)) (shM m')) : EV l prog_13_method_16_code "PrunedSearchModel" 3 (some .int) 1 111 [(0, vR 0), (2, vI x2)] [] (shM m) K' := by
  refine EV_aload_n 0 d_M_outside_111 rfl rfl ?_
  refine EV_get (j := 2) d_M_outside_112 shM_0 rfl fI11 (by decide) k_956 rfl ?_
  refine EV_bipush d_M_outside_115 (by decide +kernel) ⟨by decide, by decide⟩ ?_
  refine EV_icmp_ne (tgt := 134) d_M_outside_117 (by decide) (fun hc => ?_) (fun hc => ?_)
  · have H := H.1 hc
    refine EV_iconst d_M_outside_134 ⟨by decide, by decide⟩ ?_
    exact EV_iret d_M_outside_135 rfl (nw_int _) (hK _ _ H)
  · have H := H.2 hc
    refine EV_aload_n 0 d_M_outside_120 rfl rfl ?_
    refine EV_callV (as := []) (st := []) d_M_outside_121 k_1170 k_1172 kp_47 k_12 k_1173 shM_0 rfl pd_4 ⟨by decide, by decide, Nat.le_of_ble_eq_true rfl⟩ rfl (ct_M_endPiece H (fun m_1 H => ?_))
    refine EV_iload_n 1 d_M_outside_124 rfl rfl ?_
    refine EV_if_eq (tgt := 132) d_M_outside_125 (by decide) (fun hc => ?_) (fun hc => ?_)
    · have H := H.1 hc
      refine EV_iconst d_M_outside_132 ⟨by decide, by decide⟩ ?_
      exact EV_iret d_M_outside_133 rfl (nw_int _) (hK _ _ H)
    · have H := H.2 hc
      refine EV_iconst d_M_outside_128 ⟨by decide, by decide⟩ ?_
      refine EV_goto (tgt := 133) d_M_outside_129 (by decide) ?_
      exact EV_iret d_M_outside_133 rfl (nw_int _) (hK _ _ H)
theorem ct_M_outside_101 {l : Launch} {K : Int → Ob → Prop} {K' : Option AV → List AC → Prop} {x1 : Int} {x2 : Int} {m : Ob} (H : M_outside_101 x1 x2 m K) (hK : ∀ (r : Int) (m' : Ob), K r m' → K' (some (vI r)) (shM m')) : EV l prog_13_method_16_code "PrunedSearchModel" 3 (some .int) 1 101 [(0, vR 0), (1, vI x1), (2, vI x2)] [] (shM m) K' := by
  refine EV_iload_n 1 d_M_outside_101 rfl rfl ?_
  refine EV_iconst d_M_outside_102 ⟨by decide, by decide⟩ ?_
  refine EV_icmp_eq (tgt := 111) d_M_outside_103 (by decide) (fun hc => ?_) (fun hc => ?_)
  · have H := H.1 hc
    refine EV_lv (lv' := [(0, vR 0), (2, vI x2)]) [0, 2] rfl ?_
    exact ct_M_outside_111 H hK
  · have H := H.2 hc
    refine EV_iload_n 1 d_M_outside_106 rfl rfl ?_
    refine EV_iconst d_M_outside_107 ⟨by decide, by decide⟩ ?_
    refine EV_icmp_ne (tgt := 134) d_M_outside_108 (by decide) (fun hc => ?_) (fun hc => ?_)
    · have H := H.1 hc
      refine EV_iconst d_M_outside_134 ⟨by decide, by decide⟩ ?_
      exact EV_iret d_M_outside_135 rfl (nw_int _) (hK _ _ H)
    · have H := H.2 hc
      refine EV_lv (lv' := [(0, vR 0), (2, vI x2)]) [0, 2] rfl ?_
      exact ct_M_outside_111 H hK
theorem ct_M_outside_85 {l : Launch} {K : Int → Ob → Prop} {K' : Option AV → List AC → Prop} {x1 : Int} {x2 : Int} {m : Ob} (H : M_outside_85 x1 x2 m K) (hK : ∀ (r : Int) (m' : Ob), K r m' → K' (some (vI r)) (shM m')) : EV l prog_13_method_16_code "PrunedSearchModel" 3 (some .int) 1 85 [(0, vR 0), (1, vI x1), (2, vI x2)] [] (shM m) K' := by
  refine EV_iload_n 1 d_M_outside_85 rfl rfl ?_
  refine EV_iconst d_M_outside_86 ⟨by decide, by decide⟩ ?_
  refine EV_icmp_ne (tgt := 101) d_M_outside_87 (by decide) (fun hc => ?_) (fun hc => ?_)
  · have H := H.1 hc
    exact ct_M_outside_101 H hK
  · have H := H.2 hc
    refine EV_aload_n 0 d_M_outside_90 rfl rfl ?_
    refine EV_get (j := 2) d_M_outside_91 shM_0 rfl fI11 (by decide) k_956 rfl ?_
    refine EV_bipush d_M_outside_94 (by decide +kernel) ⟨by decide, by decide⟩ ?_
    refine EV_icmp_ne (tgt := 101) d_M_outside_96 (by decide) (fun hc => ?_) (fun hc => ?_)
    · have H := H.1 hc
      exact ct_M_outside_101 H hK
    · have H := H.2 hc
      refine EV_iconst d_M_outside_99 ⟨by decide, by decide⟩ ?_
      exact EV_iret d_M_outside_100 rfl (nw_int _) (hK _ _ H)
theorem ct_M_outside_72 {l : Launch} {K : Int → Ob → Prop} {K' : Option AV → List AC → Prop} {x1 : Int} {x2 : Int} {m : Ob} (H : M_outside_72 x1 x2 m K) (hK : ∀ (r : Int) (m' : Ob), K r m' → K' (some (vI r)) (shM m')) : EV l prog_13_method_16_code "PrunedSearchModel" 3 (some .int) 1 72 [(0, vR 0), (1, vI x1), (2, vI x2)] [] (shM m) K' := by
  refine EV_iload_n 1 d_M_outside_72 rfl rfl ?_
  refine EV_iconst d_M_outside_73 ⟨by decide, by decide⟩ ?_
  refine EV_icmp_ne (tgt := 85) d_M_outside_74 (by decide) (fun hc => ?_) (fun hc => ?_)
  · have H := H.1 hc
    exact ct_M_outside_85 H hK
  · have H := H.2 hc
    refine EV_aload_n 0 d_M_outside_77 rfl rfl ?_
    refine EV_get (j := 2) d_M_outside_78 shM_0 rfl fI11 (by decide) k_956 rfl ?_
    refine EV_iconst d_M_outside_81 ⟨by decide, by decide⟩ ?_
    refine EV_icmp_eq (tgt := 99) d_M_outside_82 (by decide) (fun hc => ?_) (fun hc => ?_)
    · have H := H.1 hc
      refine EV_iconst d_M_outside_99 ⟨by decide, by decide⟩ ?_
      exact EV_iret d_M_outside_100 rfl (nw_int _) (hK _ _ H)
    · have H := H.2 hc
      exact ct_M_outside_85 H hK
theorem ct_M_outside_45 {l : Launch} {K : Int → Ob → Prop} {K' : Option AV → List AC → Prop} {x1 : Int} {x2 : Int} {m : Ob} (H : M_outside_45 x1 x2 m K) (hK : ∀ (r : Int) (m' : Ob), K r m' → K' (some (vI r)) (shM m')) : EV l prog_13_method_16_code "PrunedSearchModel" 3 (some .int) 1 45 [(0, vR 0), (1, vI x1), (2, vI x2)] [] (shM m) K' := by
  refine EV_iload_n 1 d_M_outside_45 rfl rfl ?_
  refine EV_iconst d_M_outside_46 ⟨by decide, by decide⟩ ?_
  refine EV_icmp_ne (tgt := 72) d_M_outside_47 (by decide) (fun hc => ?_) (fun hc => ?_)
  · have H := H.1 hc
    exact ct_M_outside_72 H hK
  · have H := H.2 hc
    refine EV_aload_n 0 d_M_outside_50 rfl rfl ?_
    refine EV_get (j := 2) d_M_outside_51 shM_0 rfl fI11 (by decide) k_956 rfl ?_
    refine EV_bipush d_M_outside_54 (by decide +kernel) ⟨by decide, by decide⟩ ?_
    refine EV_icmp_ne (tgt := 72) d_M_outside_56 (by decide) (fun hc => ?_) (fun hc => ?_)
    · have H := H.1 hc
      exact ct_M_outside_72 H hK
    · have H := H.2 hc
      refine EV_aload_n 0 d_M_outside_59 rfl rfl ?_
      refine EV_callV (as := []) (st := []) d_M_outside_60 k_1162 k_1164 kp_45 k_12 k_1165 shM_0 rfl pd_6 ⟨by decide, by decide, Nat.le_of_ble_eq_true rfl⟩ rfl (ct_M_beginGoal H (fun m_2 H => ?_))
      refine EV_aload_n 0 d_M_outside_63 rfl rfl ?_
      refine EV_lconst (v := 0) d_M_outside_64 rfl ?_
      refine EV_bipush d_M_outside_65 (by decide +kernel) ⟨by decide, by decide⟩ ?_
      refine EV_callV (as := [vL 0, vI (-2)]) (st := []) d_M_outside_67 k_1166 k_1168 kp_46 k_12 k_1169 shM_0 rfl pd_5 ⟨by decide, by decide, Nat.le_of_ble_eq_true rfl⟩ rfl (ct_M_emit H (fun m_3 H => ?_))
      refine EV_iconst d_M_outside_70 ⟨by decide, by decide⟩ ?_
      exact EV_iret d_M_outside_71 rfl (nw_int _) (hK _ _ H)
theorem ct_M_outside_32 {l : Launch} {K : Int → Ob → Prop} {K' : Option AV → List AC → Prop} {x1 : Int} {m : Ob} (H : M_outside_32 x1 m K) (hK : ∀ (r : Int) (m' : Ob), K r m' → K' (some (vI r)) (shM m')) : EV l prog_13_method_16_code "PrunedSearchModel" 3 (some .int) 1 32 [(0, vR 0), (1, vI x1)] [] (shM m) K' := by
  refine EV_aload_n 0 d_M_outside_32 rfl rfl ?_
  refine EV_aload_n 0 d_M_outside_33 rfl rfl ?_
  refine EV_get (j := 5) d_M_outside_34 shM_0 rfl fI11 (by decide) k_959 rfl ?_
  refine EV_iconst d_M_outside_37 ⟨by decide, by decide⟩ ?_
  refine EV_callV (as := [vL (m.2.2.1 0), vI 0]) (st := []) d_M_outside_38 k_1166 k_1168 kp_46 k_12 k_1169 shM_0 rfl pd_5 ⟨by decide, by decide, Nat.le_of_ble_eq_true rfl⟩ rfl (ct_M_emit H (fun m_5 H => ?_))
  refine EV_iload_n 1 d_M_outside_41 rfl rfl ?_
  refine EV_iconst d_M_outside_42 ⟨by decide, by decide⟩ ?_
  obtain ⟨hr, H⟩ := H
  refine EV_iadd d_M_outside_43 hr ?_
  exact EV_iret d_M_outside_44 rfl (nw_int _) (hK _ _ H)
theorem ct_M_outside_9 {l : Launch} {K : Int → Ob → Prop} {K' : Option AV → List AC → Prop} {x1 : Int} {x2 : Int} {m : Ob} (H : M_outside_9 x1 x2 m K) (hK : ∀ (r : Int) (m' : Ob), K r m' → K' (some (vI r)) (shM m')) : EV l prog_13_method_16_code "PrunedSearchModel" 3 (some .int) 1 9 [(0, vR 0), (1, vI x1), (2, vI x2)] [] (shM m) K' := by
  refine EV_aload_n 0 d_M_outside_9 rfl rfl ?_
  refine EV_get (j := 2) d_M_outside_10 shM_0 rfl fI11 (by decide) k_956 rfl ?_
  refine EV_iconst d_M_outside_13 ⟨by decide, by decide⟩ ?_
  refine EV_icmp_ne (tgt := 45) d_M_outside_14 (by decide) (fun hc => ?_) (fun hc => ?_)
  · have H := H.1 hc
    exact ct_M_outside_45 H hK
  · have H := H.2 hc
    refine EV_iload_n 1 d_M_outside_17 rfl rfl ?_
    refine EV_if_ne (tgt := 28) d_M_outside_18 (by decide) (fun hc => ?_) (fun hc => ?_)
    · have H := H.1 hc
      refine EV_aload_n 0 d_M_outside_28 rfl rfl ?_
      refine EV_callV (as := []) (st := []) d_M_outside_29 k_1162 k_1164 kp_45 k_12 k_1165 shM_0 rfl pd_6 ⟨by decide, by decide, Nat.le_of_ble_eq_true rfl⟩ rfl (ct_M_beginGoal H (fun m_4 H => ?_))
      refine EV_lv (lv' := [(0, vR 0), (1, vI x1)]) [0, 1] rfl ?_
      exact ct_M_outside_32 H hK
    · have H := H.2 hc
      refine EV_aload_n 0 d_M_outside_21 rfl rfl ?_
      refine EV_callV (as := []) (st := []) d_M_outside_22 k_1142 k_1144 kp_40 k_12 k_1145 shM_0 rfl pd_7 ⟨by decide, by decide, Nat.le_of_ble_eq_true rfl⟩ rfl (ct_M_beginPiece H (fun m_6 H => ?_))
      refine EV_goto (tgt := 32) d_M_outside_25 (by decide) ?_
      refine EV_lv (lv' := [(0, vR 0), (1, vI x1)]) [0, 1] rfl ?_
      exact ct_M_outside_32 H hK
theorem ct_M_outside {l : Launch} {m : Ob} {x1 : Int} {x2 : Int} {K : Int → Ob → Prop} {K' : Option AV → List AC → Prop} (H : wp_M_outside x1 x2 m K) (hK : ∀ (r : Int) (m' : Ob), K r m' → K' (some (vI r)) (shM m')) : MT l ⟨"PrunedSearchModel", "outside", "(IZ)I"⟩ prog_13_method_16_code 3 (some .int) 1 [vR 0, vI x1, vI x2] (shM m) K' := by
  unfold wp_M_outside at H
  refine MT_of (lv := [(0, vR 0), (1, vI x1), (2, vI x2)]) rfl rfl (Nat.le_of_ble_eq_true rfl) rfl ?_
  refine EV_iload_n 1 d_M_outside_0 rfl rfl ?_
  refine EV_if_eq (tgt := 9) d_M_outside_1 (by decide) (fun hc => ?_) (fun hc => ?_)
  · have H := H.1 hc
    exact ct_M_outside_9 H hK
  · have H := H.2 hc
    refine EV_iload_n 1 d_M_outside_4 rfl rfl ?_
    refine EV_iconst d_M_outside_5 ⟨by decide, by decide⟩ ?_
    refine EV_icmp_ne (tgt := 45) d_M_outside_6 (by decide) (fun hc => ?_) (fun hc => ?_)
    · have H := H.1 hc
      exact ct_M_outside_45 H hK
    · have H := H.2 hc
      exact ct_M_outside_9 H hK
theorem ct_M_emitVariable_94 {l : Launch} {K : Ob → Prop} {K' : Option AV → List AC → Prop} {x1 : Int} {m : Ob} (H : M_emitVariable_94 x1 m K) (hK : ∀ (m' : Ob), K m' → K' none (shM m')) : EV l prog_13_method_9_code "PrunedSearchModel" 3 none 1 94 [(0, vR 0), (1, vI x1)] [] (shM m) K' := by
  refine EV_aload_n 0 d_M_emitVariable_94 rfl rfl ?_
  refine EV_iload_n 1 d_M_emitVariable_95 rfl rfl ?_
  obtain ⟨h0, H⟩ := H
  refine EV_i2l d_M_emitVariable_96 h0 ?_
  refine EV_iconst d_M_emitVariable_97 ⟨by decide, by decide⟩ ?_
  refine EV_callV (as := [vL ((x1).toNat), vI (-1)]) (st := []) d_M_emitVariable_98 k_1166 k_1168 kp_46 k_12 k_1169 shM_0 rfl pd_5 ⟨by decide, by decide, Nat.le_of_ble_eq_true rfl⟩ rfl (ct_M_emit H (fun m_1 H => ?_))
  exact EV_vret d_M_emitVariable_101 rfl (hK _ H)
theorem ct_M_emitVariable_49 {l : Launch} {K : Ob → Prop} {K' : Option AV → List AC → Prop} {x1 : Int} {m : Ob} (H : M_emitVariable_49 x1 m K) (hK : ∀ (m' : Ob), K m' → K' none (shM m')) : EV l prog_13_method_9_code "PrunedSearchModel" 3 none 1 49 [(0, vR 0), (1, vI x1)] [] (shM m) K' := by
  refine EV_iload_n 1 d_M_emitVariable_49 rfl rfl ?_
  refine EV_if_ge (tgt := 94) d_M_emitVariable_50 (by decide) (fun hc => ?_) (fun hc => ?_)
  · have H := H.1 hc
    exact ct_M_emitVariable_94 H hK
  · have H := H.2 hc
    refine EV_aload_n 0 d_M_emitVariable_53 rfl rfl ?_
    refine EV_get (j := 17) d_M_emitVariable_54 shM_0 rfl fI11 (by decide) k_971 rfl ?_
    refine EV_istore_n (lv' := [(0, vR 0), (1, vI (m.1 7))]) [1, 0] d_M_emitVariable_57 rfl (by decide) rfl ?_
    refine EV_aload_n 0 d_M_emitVariable_58 rfl rfl ?_
    refine EV_get (j := 15) d_M_emitVariable_59 shM_0 rfl fI11 (by decide) k_969 rfl ?_
    refine EV_aload_n 0 d_M_emitVariable_62 rfl rfl ?_
    refine EV_get (j := 17) d_M_emitVariable_63 shM_0 rfl fI11 (by decide) k_971 rfl ?_
    refine EV_aload_n 0 d_M_emitVariable_66 rfl rfl ?_
    refine EV_get (j := 5) d_M_emitVariable_67 shM_0 rfl fI11 (by decide) k_959 rfl ?_
    obtain ⟨hi, H⟩ := H
    refine EV_last d_M_emitVariable_70 shM_8 hi shM_8_s ?_
    refine EV_aload_n 0 d_M_emitVariable_71 rfl rfl ?_
    refine EV_get (j := 16) d_M_emitVariable_72 shM_0 rfl fI11 (by decide) k_970 rfl ?_
    refine EV_aload_n 0 d_M_emitVariable_75 rfl rfl ?_
    refine EV_get (j := 17) d_M_emitVariable_76 shM_0 rfl fI11 (by decide) k_971 rfl ?_
    refine EV_aload_n 0 d_M_emitVariable_79 rfl rfl ?_
    refine EV_get (j := 8) d_M_emitVariable_80 shM_0 rfl fI11 (by decide) k_962 rfl ?_
    obtain ⟨hi, H⟩ := H
    refine EV_iast d_M_emitVariable_83 shM_9 hi shM_9_s ?_
    refine EV_aload_n 0 d_M_emitVariable_84 rfl rfl ?_
    refine EV_aload_n 0 d_M_emitVariable_85 rfl rfl ?_
    refine EV_get (j := 17) d_M_emitVariable_86 shM_0 rfl fI11 (by decide) k_971 rfl ?_
    refine EV_iconst d_M_emitVariable_89 ⟨by decide, by decide⟩ ?_
    obtain ⟨hr, H⟩ := H
    refine EV_iadd d_M_emitVariable_90 hr ?_
    refine EV_put (j := 17) d_M_emitVariable_91 shM_0 rfl fI11 fO11 fN11 (by decide) k_971 rfl rfl (fun ad => nf_int ad _) (Nat.le_of_ble_eq_true rfl) shM_0_17 ?_
    exact ct_M_emitVariable_94 H hK
theorem ct_M_emitVariable_42 {l : Launch} {K : Ob → Prop} {K' : Option AV → List AC → Prop} {L4 : Int → Int → Ob → Prop} {x2 : Int} {s0 : Int} {m : Ob} (hL4 : ∀ (x1 : Int) (x2 : Int) (m : Ob), L4 x1 x2 m → EV l prog_13_method_9_code "PrunedSearchModel" 3 none 1 4 [(0, vR 0), (1, vI x1), (2, vI x2)] [] (shM m) K') (H : M_emitVariable_42 L4 x2 s0 m K) (hK : ∀ (m' : Ob), K m' → K' none (shM m')) : EV l prog_13_method_9_code "PrunedSearchModel" 3 none 1 42 [(0, vR 0), (2, vI x2)] [vI s0] (shM m) K' := by
  refine EV_istore_n (lv' := [(0, vR 0), (1, vI s0), (2, vI x2)]) [1, 0, 2] d_M_emitVariable_42 rfl (by decide) rfl ?_
  obtain ⟨hr, H⟩ := H
  refine EV_iinc (lv' := [(0, vR 0), (1, vI s0), (2, vI (x2 + 1))]) 2 [1, 2, 0] d_M_emitVariable_43 rfl (by decide) hr rfl ?_
  refine EV_goto (tgt := 4) d_M_emitVariable_46 (by decide) ?_
  exact hL4 s0 (x2 + 1) m H
theorem ct_M_emitVariable_41 {l : Launch} {K : Ob → Prop} {K' : Option AV → List AC → Prop} {L4 : Int → Int → Ob → Prop} {x1 : Int} {x2 : Int} {m : Ob} (hL4 : ∀ (x1 : Int) (x2 : Int) (m : Ob), L4 x1 x2 m → EV l prog_13_method_9_code "PrunedSearchModel" 3 none 1 4 [(0, vR 0), (1, vI x1), (2, vI x2)] [] (shM m) K') (H : M_emitVariable_41 L4 x1 x2 m K) (hK : ∀ (m' : Ob), K m' → K' none (shM m')) : EV l prog_13_method_9_code "PrunedSearchModel" 3 none 1 41 [(0, vR 0), (1, vI x1), (2, vI x2)] [] (shM m) K' := by
  refine EV_iload_n 1 d_M_emitVariable_41 rfl rfl ?_
  refine EV_lv (lv' := [(0, vR 0), (2, vI x2)]) [0, 2] rfl ?_
  exact ct_M_emitVariable_42 hL4 H hK
theorem ct_M_emitVariable_4 {l : Launch} {K : Ob → Prop} {K' : Option AV → List AC → Prop} (hK : ∀ (m' : Ob), K m' → K' none (shM m')) : ∀ (n : Nat) (x1 : Int) (x2 : Int) (m : Ob), M_emitVariable_4 n x1 x2 m K → EV l prog_13_method_9_code "PrunedSearchModel" 3 none 1 4 [(0, vR 0), (1, vI x1), (2, vI x2)] [] (shM m) K' := by
  intro n
  induction n with
  | zero =>
    intro x1 x2 m H
    exact H.elim
  | succ n ih =>
    intro x1 x2 m H
    refine EV_iload_n 2 d_M_emitVariable_4 rfl rfl ?_
    refine EV_aload_n 0 d_M_emitVariable_5 rfl rfl ?_
    refine EV_get (j := 17) d_M_emitVariable_6 shM_0 rfl fI11 (by decide) k_971 rfl ?_
    refine EV_icmp_ge (tgt := 49) d_M_emitVariable_9 (by decide) (fun hc => ?_) (fun hc => ?_)
    · have H := H.1 hc
      refine EV_lv (lv' := [(0, vR 0), (1, vI x1)]) [0, 1] rfl ?_
      exact ct_M_emitVariable_49 H hK
    · have H := H.2 hc
      refine EV_aload_n 0 d_M_emitVariable_12 rfl rfl ?_
      refine EV_get (j := 5) d_M_emitVariable_13 shM_0 rfl fI11 (by decide) k_959 rfl ?_
      refine EV_ldc2 (n := 95) d_M_emitVariable_16 k_1183 (by decide +kernel) (by decide) ?_
      refine EV_lcmp_eq (tgt := 41) d_M_emitVariable_19 d_M_emitVariable_20 (by decide) (fun hc => ?_) (fun hc => ?_)
      · have H := H.1 hc
        exact ct_M_emitVariable_41 (fun x1 x2 m' H => ih x1 x2 m' H) H hK
      · have H := H.2 hc
        refine EV_aload_n 0 d_M_emitVariable_23 rfl rfl ?_
        refine EV_get (j := 15) d_M_emitVariable_24 shM_0 rfl fI11 (by decide) k_969 rfl ?_
        refine EV_iload_n 2 d_M_emitVariable_27 rfl rfl ?_
        obtain ⟨hi, H⟩ := H
        refine EV_lald d_M_emitVariable_28 shM_8 hi ?_
        refine EV_aload_n 0 d_M_emitVariable_29 rfl rfl ?_
        refine EV_get (j := 5) d_M_emitVariable_30 shM_0 rfl fI11 (by decide) k_959 rfl ?_
        refine EV_lcmp_ne (tgt := 41) d_M_emitVariable_33 d_M_emitVariable_34 (by decide) (fun hc => ?_) (fun hc => ?_)
        · have H := H.1 hc
          exact ct_M_emitVariable_41 (fun x1 x2 m' H => ih x1 x2 m' H) H hK
        · have H := H.2 hc
          refine EV_iload_n 2 d_M_emitVariable_37 rfl rfl ?_
          refine EV_goto (tgt := 42) d_M_emitVariable_38 (by decide) ?_
          refine EV_lv (lv' := [(0, vR 0), (2, vI x2)]) [0, 2] rfl ?_
          exact ct_M_emitVariable_42 (fun x1 x2 m' H => ih x1 x2 m' H) H hK
theorem ct_M_emitVariable {l : Launch} {m : Ob} {K : Ob → Prop} {K' : Option AV → List AC → Prop} (H : wp_M_emitVariable m K) (hK : ∀ (m' : Ob), K m' → K' none (shM m')) : MT l ⟨"PrunedSearchModel", "emitVariable", "()V"⟩ prog_13_method_9_code 3 none 1 [vR 0] (shM m) K' := by
  unfold wp_M_emitVariable at H
  refine MT_of (lv := [(0, vR 0)]) rfl rfl (Nat.le_of_ble_eq_true rfl) rfl ?_
  refine EV_iconst d_M_emitVariable_0 ⟨by decide, by decide⟩ ?_
  refine EV_istore_n (lv' := [(0, vR 0), (1, vI (-1))]) [1, 0] d_M_emitVariable_1 rfl (by decide) rfl ?_
  refine EV_iconst d_M_emitVariable_2 ⟨by decide, by decide⟩ ?_
  refine EV_istore_n (lv' := [(0, vR 0), (1, vI (-1)), (2, vI 0)]) [1, 2, 0] d_M_emitVariable_3 rfl (by decide) rfl ?_
  obtain ⟨n, H⟩ := H
  exact ct_M_emitVariable_4 hK n (-1) 0 m H
theorem ct_M_beginTerm_55 {l : Launch} {K : Int → Ob → Prop} {K' : Option AV → List AC → Prop} {m : Ob} (H : M_beginTerm_55 m K) (hK : ∀ (r : Int) (m' : Ob), K r m' → K' (some (vI r)) (shM m')) : EV l prog_13_method_14_code "PrunedSearchModel" 1 (some .boolean) 2 55 [(0, vR 0)] [] (shM m) K' := by
  refine EV_aload_n 0 d_M_beginTerm_55 rfl rfl ?_
  refine EV_iconst d_M_beginTerm_56 ⟨by decide, by decide⟩ ?_
  refine EV_put (j := 22) d_M_beginTerm_57 shM_0 rfl fI11 fO11 fN11 (by decide) k_976 rfl rfl (fun ad => nf_bool ad (by decide)) (Nat.le_of_ble_eq_true rfl) shM_0_22 ?_
  refine EV_aload_n 0 d_M_beginTerm_60 rfl rfl ?_
  refine EV_get (j := 2) d_M_beginTerm_61 shM_0 rfl fI11 (by decide) k_956 rfl ?_
  refine EV_iconst d_M_beginTerm_64 ⟨by decide, by decide⟩ ?_
  refine EV_icmp_ne (tgt := 80) d_M_beginTerm_65 (by decide) (fun hc => ?_) (fun hc => ?_)
  · have H := H.1 hc
    refine EV_aload_n 0 d_M_beginTerm_80 rfl rfl ?_
    refine EV_get (j := 2) d_M_beginTerm_81 shM_0 rfl fI11 (by decide) k_956 rfl ?_
    refine EV_iconst d_M_beginTerm_84 ⟨by decide, by decide⟩ ?_
    refine EV_icmp_ne (tgt := 95) d_M_beginTerm_85 (by decide) (fun hc => ?_) (fun hc => ?_)
    · have H := H.1 hc
      refine EV_aload_n 0 d_M_beginTerm_95 rfl rfl ?_
      refine EV_iconst d_M_beginTerm_96 ⟨by decide, by decide⟩ ?_
      refine EV_callV (as := [vI 1]) (st := []) d_M_beginTerm_97 k_1154 k_1156 kp_43 k_12 k_1157 shM_0 rfl pd_8 ⟨by decide, by decide, Nat.le_of_ble_eq_true rfl⟩ rfl (ct_M_push H (fun r_2 m_1 H => ?_))
      refine EV_if_ne (tgt := 105) d_M_beginTerm_100 (by decide) (fun hc => ?_) (fun hc => ?_)
      · have H := H.1 hc
        refine EV_aload_n 0 d_M_beginTerm_105 rfl rfl ?_
        refine EV_iconst d_M_beginTerm_106 ⟨by decide, by decide⟩ ?_
        refine EV_put (j := 22) d_M_beginTerm_107 shM_0 rfl fI11 fO11 fN11 (by decide) k_976 rfl rfl (fun ad => nf_bool ad (by decide)) (Nat.le_of_ble_eq_true rfl) shM_0_22 ?_
        refine EV_iconst d_M_beginTerm_110 ⟨by decide, by decide⟩ ?_
        exact EV_iret d_M_beginTerm_111 rfl (nw_bool (by decide)) (hK _ _ H)
      · have H := H.2 hc
        refine EV_iconst d_M_beginTerm_103 ⟨by decide, by decide⟩ ?_
        exact EV_iret d_M_beginTerm_104 rfl (nw_bool (by decide)) (hK _ _ H)
    · have H := H.2 hc
      refine EV_aload_n 0 d_M_beginTerm_88 rfl rfl ?_
      refine EV_callV (as := []) (st := []) d_M_beginTerm_89 k_1179 k_1181 kp_49 k_12 k_1182 shM_0 rfl pd_9 ⟨by decide, by decide, Nat.le_of_ble_eq_true rfl⟩ rfl (ct_M_emitVariable H (fun m_3 H => ?_))
      refine EV_goto (tgt := 110) d_M_beginTerm_92 (by decide) ?_
      refine EV_iconst d_M_beginTerm_110 ⟨by decide, by decide⟩ ?_
      exact EV_iret d_M_beginTerm_111 rfl (nw_bool (by decide)) (hK _ _ H)
  · have H := H.2 hc
    refine EV_aload_n 0 d_M_beginTerm_68 rfl rfl ?_
    refine EV_aload_n 0 d_M_beginTerm_69 rfl rfl ?_
    refine EV_get (j := 5) d_M_beginTerm_70 shM_0 rfl fI11 (by decide) k_959 rfl ?_
    refine EV_iconst d_M_beginTerm_73 ⟨by decide, by decide⟩ ?_
    refine EV_callV (as := [vL (m.2.2.1 0), vI 0]) (st := []) d_M_beginTerm_74 k_1166 k_1168 kp_46 k_12 k_1169 shM_0 rfl pd_5 ⟨by decide, by decide, Nat.le_of_ble_eq_true rfl⟩ rfl (ct_M_emit H (fun m_4 H => ?_))
    refine EV_goto (tgt := 110) d_M_beginTerm_77 (by decide) ?_
    refine EV_iconst d_M_beginTerm_110 ⟨by decide, by decide⟩ ?_
    exact EV_iret d_M_beginTerm_111 rfl (nw_bool (by decide)) (hK _ _ H)
theorem ct_M_beginTerm_27 {l : Launch} {K : Int → Ob → Prop} {K' : Option AV → List AC → Prop} {m : Ob} (H : M_beginTerm_27 m K) (hK : ∀ (r : Int) (m' : Ob), K r m' → K' (some (vI r)) (shM m')) : EV l prog_13_method_14_code "PrunedSearchModel" 1 (some .boolean) 2 27 [(0, vR 0)] [] (shM m) K' := by
  refine EV_aload_n 0 d_M_beginTerm_27 rfl rfl ?_
  refine EV_get (j := 19) d_M_beginTerm_28 shM_0 rfl fI11 (by decide) k_973 rfl ?_
  refine EV_aload_n 0 d_M_beginTerm_31 rfl rfl ?_
  refine EV_get (j := 18) d_M_beginTerm_32 shM_0 rfl fI11 (by decide) k_972 rfl ?_
  refine EV_iconst d_M_beginTerm_35 ⟨by decide, by decide⟩ ?_
  obtain ⟨hr, H⟩ := H
  refine EV_isub d_M_beginTerm_36 hr ?_
  obtain ⟨hi, H⟩ := H
  refine EV_iald d_M_beginTerm_37 shM_10 hi ?_
  refine EV_iconst d_M_beginTerm_38 ⟨by decide, by decide⟩ ?_
  refine EV_icmp_ne (tgt := 55) d_M_beginTerm_39 (by decide) (fun hc => ?_) (fun hc => ?_)
  · have H := H.1 hc
    exact ct_M_beginTerm_55 H hK
  · have H := H.2 hc
    refine EV_aload_n 0 d_M_beginTerm_42 rfl rfl ?_
    refine EV_get (j := 22) d_M_beginTerm_43 shM_0 rfl fI11 (by decide) k_976 rfl ?_
    refine EV_if_eq (tgt := 55) d_M_beginTerm_46 (by decide) (fun hc => ?_) (fun hc => ?_)
    · have H := H.1 hc
      exact ct_M_beginTerm_55 H hK
    · have H := H.2 hc
      refine EV_aload_n 0 d_M_beginTerm_49 rfl rfl ?_
      refine EV_lconst (v := 1) d_M_beginTerm_50 rfl ?_
      refine EV_iconst d_M_beginTerm_51 ⟨by decide, by decide⟩ ?_
      refine EV_callV (as := [vL 1, vI 2]) (st := []) d_M_beginTerm_52 k_1166 k_1168 kp_46 k_12 k_1169 shM_0 rfl pd_5 ⟨by decide, by decide, Nat.le_of_ble_eq_true rfl⟩ rfl (ct_M_emit H (fun m_5 H => ?_))
      exact ct_M_beginTerm_55 H hK
theorem ct_M_beginTerm {l : Launch} {m : Ob} {K : Int → Ob → Prop} {K' : Option AV → List AC → Prop} (H : wp_M_beginTerm m K) (hK : ∀ (r : Int) (m' : Ob), K r m' → K' (some (vI r)) (shM m')) : MT l ⟨"PrunedSearchModel", "beginTerm", "()Z"⟩ prog_13_method_14_code 1 (some .boolean) 2 [vR 0] (shM m) K' := by
  unfold wp_M_beginTerm at H
  refine MT_of (lv := [(0, vR 0)]) rfl rfl (Nat.le_of_ble_eq_true rfl) rfl ?_
  refine EV_aload_n 0 d_M_beginTerm_0 rfl rfl ?_
  refine EV_get (j := 2) d_M_beginTerm_1 shM_0 rfl fI11 (by decide) k_956 rfl ?_
  refine EV_iconst d_M_beginTerm_4 ⟨by decide, by decide⟩ ?_
  refine EV_icmp_eq (tgt := 27) d_M_beginTerm_5 (by decide) (fun hc => ?_) (fun hc => ?_)
  · have H := H.1 hc
    exact ct_M_beginTerm_27 H hK
  · have H := H.2 hc
    refine EV_aload_n 0 d_M_beginTerm_8 rfl rfl ?_
    refine EV_get (j := 2) d_M_beginTerm_9 shM_0 rfl fI11 (by decide) k_956 rfl ?_
    refine EV_iconst d_M_beginTerm_12 ⟨by decide, by decide⟩ ?_
    refine EV_icmp_eq (tgt := 27) d_M_beginTerm_13 (by decide) (fun hc => ?_) (fun hc => ?_)
    · have H := H.1 hc
      exact ct_M_beginTerm_27 H hK
    · have H := H.2 hc
      refine EV_aload_n 0 d_M_beginTerm_16 rfl rfl ?_
      refine EV_get (j := 2) d_M_beginTerm_17 shM_0 rfl fI11 (by decide) k_956 rfl ?_
      refine EV_bipush d_M_beginTerm_20 (by decide +kernel) ⟨by decide, by decide⟩ ?_
      refine EV_icmp_eq (tgt := 27) d_M_beginTerm_22 (by decide) (fun hc => ?_) (fun hc => ?_)
      · have H := H.1 hc
        exact ct_M_beginTerm_27 H hK
      · have H := H.2 hc
        refine EV_iconst d_M_beginTerm_25 ⟨by decide, by decide⟩ ?_
        exact EV_iret d_M_beginTerm_26 rfl (nw_bool (by decide)) (hK _ _ H)
theorem ct_M_goOn_146 {l : Launch} {K : Int → Ob → Prop} {K' : Option AV → List AC → Prop} {x1 : Int} {m : Ob} (H : M_goOn_146 x1 m K) (hK : ∀ (r : Int) (m' : Ob), K r m' → K' (some (vI r)) (shM m')) : EV l prog_13_method_15_code "PrunedSearchModel" 2 (some .boolean) 1 146 [(0, vR 0), (1, vI x1)] [] (shM m) K' := by
  refine EV_aload_n 0 d_M_goOn_146 rfl rfl ?_
  refine EV_get (j := 2) d_M_goOn_147 shM_0 rfl fI11 (by decide) k_956 rfl ?_
  refine EV_bipush d_M_goOn_150 (by decide +kernel) ⟨by decide, by decide⟩ ?_
  refine EV_icmp_ne (tgt := 174) d_M_goOn_152 (by decide) (fun hc => ?_) (fun hc => ?_)
  · have H := H.1 hc
    refine EV_iconst d_M_goOn_174 ⟨by decide, by decide⟩ ?_
    exact EV_iret d_M_goOn_175 rfl (nw_bool (by decide)) (hK _ _ H)
  · have H := H.2 hc
    refine EV_aload_n 0 d_M_goOn_155 rfl rfl ?_
    refine EV_get (j := 19) d_M_goOn_156 shM_0 rfl fI11 (by decide) k_973 rfl ?_
    refine EV_iload_n 1 d_M_goOn_159 rfl rfl ?_
    obtain ⟨hi, H⟩ := H
    refine EV_iald d_M_goOn_160 shM_10 hi ?_
    refine EV_iconst d_M_goOn_161 ⟨by decide, by decide⟩ ?_
    refine EV_icmp_ne (tgt := 174) d_M_goOn_162 (by decide) (fun hc => ?_) (fun hc => ?_)
    · have H := H.1 hc
      refine EV_iconst d_M_goOn_174 ⟨by decide, by decide⟩ ?_
      exact EV_iret d_M_goOn_175 rfl (nw_bool (by decide)) (hK _ _ H)
    · have H := H.2 hc
      refine EV_aload_n 0 d_M_goOn_165 rfl rfl ?_
      refine EV_get (j := 19) d_M_goOn_166 shM_0 rfl fI11 (by decide) k_973 rfl ?_
      refine EV_iload_n 1 d_M_goOn_169 rfl rfl ?_
      refine EV_iconst d_M_goOn_170 ⟨by decide, by decide⟩ ?_
      obtain ⟨hi, H⟩ := H
      refine EV_iast d_M_goOn_171 shM_10 hi shM_10_s ?_
      refine EV_iconst d_M_goOn_172 ⟨by decide, by decide⟩ ?_
      exact EV_iret d_M_goOn_173 rfl (nw_bool (by decide)) (hK _ _ H)
theorem ct_M_goOn_139 {l : Launch} {K : Int → Ob → Prop} {K' : Option AV → List AC → Prop} {x1 : Int} {m : Ob} (H : M_goOn_139 x1 m K) (hK : ∀ (r : Int) (m' : Ob), K r m' → K' (some (vI r)) (shM m')) : EV l prog_13_method_15_code "PrunedSearchModel" 2 (some .boolean) 1 139 [(0, vR 0), (1, vI x1)] [] (shM m) K' := by
  refine EV_aload_n 0 d_M_goOn_139 rfl rfl ?_
  refine EV_iload_n 1 d_M_goOn_140 rfl rfl ?_
  refine EV_put (j := 18) d_M_goOn_141 shM_0 rfl fI11 fO11 fN11 (by decide) k_972 rfl rfl (fun ad => nf_int ad _) (Nat.le_of_ble_eq_true rfl) shM_0_18 ?_
  refine EV_iconst d_M_goOn_144 ⟨by decide, by decide⟩ ?_
  exact EV_iret d_M_goOn_145 rfl (nw_bool (by decide)) (hK _ _ H)
theorem ct_M_goOn_103 {l : Launch} {K : Int → Ob → Prop} {K' : Option AV → List AC → Prop} {x1 : Int} {m : Ob} (H : M_goOn_103 x1 m K) (hK : ∀ (r : Int) (m' : Ob), K r m' → K' (some (vI r)) (shM m')) : EV l prog_13_method_15_code "PrunedSearchModel" 2 (some .boolean) 1 103 [(0, vR 0), (1, vI x1)] [] (shM m) K' := by
  refine EV_aload_n 0 d_M_goOn_103 rfl rfl ?_
  refine EV_get (j := 2) d_M_goOn_104 shM_0 rfl fI11 (by decide) k_956 rfl ?_
  refine EV_bipush d_M_goOn_107 (by decide +kernel) ⟨by decide, by decide⟩ ?_
  refine EV_icmp_ne (tgt := 146) d_M_goOn_109 (by decide) (fun hc => ?_) (fun hc => ?_)
  · have H := H.1 hc
    exact ct_M_goOn_146 H hK
  · have H := H.2 hc
    refine EV_aload_n 0 d_M_goOn_112 rfl rfl ?_
    refine EV_get (j := 19) d_M_goOn_113 shM_0 rfl fI11 (by decide) k_973 rfl ?_
    refine EV_iload_n 1 d_M_goOn_116 rfl rfl ?_
    obtain ⟨hi, H⟩ := H
    refine EV_iald d_M_goOn_117 shM_10 hi ?_
    refine EV_if_le (tgt := 146) d_M_goOn_118 (by decide) (fun hc => ?_) (fun hc => ?_)
    · have H := H.1 hc
      exact ct_M_goOn_146 H hK
    · have H := H.2 hc
      refine EV_aload_n 0 d_M_goOn_121 rfl rfl ?_
      refine EV_get (j := 19) d_M_goOn_122 shM_0 rfl fI11 (by decide) k_973 rfl ?_
      refine EV_iload_n 1 d_M_goOn_125 rfl rfl ?_
      obtain ⟨hi, H⟩ := H
      refine EV_iald d_M_goOn_126 shM_10 hi ?_
      refine EV_iconst d_M_goOn_127 ⟨by decide, by decide⟩ ?_
      refine EV_icmp_ne (tgt := 139) d_M_goOn_128 (by decide) (fun hc => ?_) (fun hc => ?_)
      · have H := H.1 hc
        exact ct_M_goOn_139 H hK
      · have H := H.2 hc
        refine EV_aload_n 0 d_M_goOn_131 rfl rfl ?_
        refine EV_ldc2 (n := 2) d_M_goOn_132 k_1174 (by decide +kernel) (by decide) ?_
        refine EV_iconst d_M_goOn_135 ⟨by decide, by decide⟩ ?_
        refine EV_callV (as := [vL 2, vI 0]) (st := []) d_M_goOn_136 k_1166 k_1168 kp_46 k_12 k_1169 shM_0 rfl pd_5 ⟨by decide, by decide, Nat.le_of_ble_eq_true rfl⟩ rfl (ct_M_emit H (fun m_1 H => ?_))
        exact ct_M_goOn_139 H hK
theorem ct_M_goOn_61 {l : Launch} {K : Int → Ob → Prop} {K' : Option AV → List AC → Prop} {x1 : Int} {m : Ob} (H : M_goOn_61 x1 m K) (hK : ∀ (r : Int) (m' : Ob), K r m' → K' (some (vI r)) (shM m')) : EV l prog_13_method_15_code "PrunedSearchModel" 2 (some .boolean) 1 61 [(0, vR 0), (1, vI x1)] [] (shM m) K' := by
  refine EV_aload_n 0 d_M_goOn_61 rfl rfl ?_
  refine EV_get (j := 2) d_M_goOn_62 shM_0 rfl fI11 (by decide) k_956 rfl ?_
  refine EV_bipush d_M_goOn_65 (by decide +kernel) ⟨by decide, by decide⟩ ?_
  refine EV_icmp_ne (tgt := 103) d_M_goOn_67 (by decide) (fun hc => ?_) (fun hc => ?_)
  · have H := H.1 hc
    exact ct_M_goOn_103 H hK
  · have H := H.2 hc
    refine EV_aload_n 0 d_M_goOn_70 rfl rfl ?_
    refine EV_get (j := 19) d_M_goOn_71 shM_0 rfl fI11 (by decide) k_973 rfl ?_
    refine EV_iload_n 1 d_M_goOn_74 rfl rfl ?_
    obtain ⟨hi, H⟩ := H
    refine EV_iald d_M_goOn_75 shM_10 hi ?_
    refine EV_if_ne (tgt := 103) d_M_goOn_76 (by decide) (fun hc => ?_) (fun hc => ?_)
    · have H := H.1 hc
      exact ct_M_goOn_103 H hK
    · have H := H.2 hc
      refine EV_aload_n 0 d_M_goOn_79 rfl rfl ?_
      refine EV_get (j := 7) d_M_goOn_80 shM_0 rfl fI11 (by decide) k_961 rfl ?_
      refine EV_aload_n 0 d_M_goOn_83 rfl rfl ?_
      refine EV_get (j := 20) d_M_goOn_84 shM_0 rfl fI11 (by decide) k_974 rfl ?_
      refine EV_iload_n 1 d_M_goOn_87 rfl rfl ?_
      obtain ⟨hi, H⟩ := H
      refine EV_iald d_M_goOn_88 shM_11 hi ?_
      refine EV_aload_n 0 d_M_goOn_89 rfl rfl ?_
      refine EV_get (j := 21) d_M_goOn_90 shM_0 rfl fI11 (by decide) k_975 rfl ?_
      refine EV_iload_n 1 d_M_goOn_93 rfl rfl ?_
      obtain ⟨hi, H⟩ := H
      refine EV_iald d_M_goOn_94 shM_12 hi ?_
      obtain ⟨hi, H⟩ := H
      refine EV_iast d_M_goOn_95 shM_3 hi shM_3_s ?_
      refine EV_aload_n 0 d_M_goOn_96 rfl rfl ?_
      refine EV_iload_n 1 d_M_goOn_97 rfl rfl ?_
      refine EV_put (j := 18) d_M_goOn_98 shM_0 rfl fI11 fO11 fN11 (by decide) k_972 rfl rfl (fun ad => nf_int ad _) (Nat.le_of_ble_eq_true rfl) shM_0_18 ?_
      refine EV_iconst d_M_goOn_101 ⟨by decide, by decide⟩ ?_
      exact EV_iret d_M_goOn_102 rfl (nw_bool (by decide)) (hK _ _ H)
theorem ct_M_goOn_56 {l : Launch} {K : Int → Ob → Prop} {K' : Option AV → List AC → Prop} {s0 : Int} {m : Ob} (H : M_goOn_56 s0 m K) (hK : ∀ (r : Int) (m' : Ob), K r m' → K' (some (vI r)) (shM m')) : EV l prog_13_method_15_code "PrunedSearchModel" 2 (some .boolean) 1 56 [] [vI s0, vR 0] (shM m) K' := by
  obtain ⟨hb, H⟩ := H
  refine EV_put (j := 22) d_M_goOn_56 shM_0 rfl fI11 fO11 fN11 (by decide) k_976 rfl rfl (fun ad => nf_bool ad hb) (Nat.le_of_ble_eq_true rfl) shM_0_22 ?_
  refine EV_iconst d_M_goOn_59 ⟨by decide, by decide⟩ ?_
  exact EV_iret d_M_goOn_60 rfl (nw_bool (by decide)) (hK _ _ H)
theorem ct_M_goOn {l : Launch} {m : Ob} {K : Int → Ob → Prop} {K' : Option AV → List AC → Prop} (H : wp_M_goOn m K) (hK : ∀ (r : Int) (m' : Ob), K r m' → K' (some (vI r)) (shM m')) : MT l ⟨"PrunedSearchModel", "goOn", "()Z"⟩ prog_13_method_15_code 2 (some .boolean) 1 [vR 0] (shM m) K' := by
  unfold wp_M_goOn at H
  refine MT_of (lv := [(0, vR 0)]) rfl rfl (Nat.le_of_ble_eq_true rfl) rfl ?_
  refine EV_aload_n 0 d_M_goOn_0 rfl rfl ?_
  refine EV_get (j := 18) d_M_goOn_1 shM_0 rfl fI11 (by decide) k_972 rfl ?_
  refine EV_iconst d_M_goOn_4 ⟨by decide, by decide⟩ ?_
  obtain ⟨hr, H⟩ := H
  refine EV_isub d_M_goOn_5 hr ?_
  refine EV_istore_n (lv' := [(0, vR 0), (1, vI ((m.1 8) - 1))]) [1, 0] d_M_goOn_6 rfl (by decide) rfl ?_
  refine EV_aload_n 0 d_M_goOn_7 rfl rfl ?_
  refine EV_get (j := 2) d_M_goOn_8 shM_0 rfl fI11 (by decide) k_956 rfl ?_
  refine EV_bipush d_M_goOn_11 (by decide +kernel) ⟨by decide, by decide⟩ ?_
  refine EV_icmp_ne (tgt := 61) d_M_goOn_13 (by decide) (fun hc => ?_) (fun hc => ?_)
  · have H := H.1 hc
    exact ct_M_goOn_61 H hK
  · have H := H.2 hc
    refine EV_aload_n 0 d_M_goOn_16 rfl rfl ?_
    refine EV_get (j := 19) d_M_goOn_17 shM_0 rfl fI11 (by decide) k_973 rfl ?_
    refine EV_iload_n 1 d_M_goOn_20 rfl rfl ?_
    obtain ⟨hi, H⟩ := H
    refine EV_iald d_M_goOn_21 shM_10 hi ?_
    refine EV_iconst d_M_goOn_22 ⟨by decide, by decide⟩ ?_
    refine EV_icmp_ge (tgt := 61) d_M_goOn_23 (by decide) (fun hc => ?_) (fun hc => ?_)
    · have H := H.1 hc
      exact ct_M_goOn_61 H hK
    · have H := H.2 hc
      refine EV_aload_n 0 d_M_goOn_26 rfl rfl ?_
      refine EV_get (j := 21) d_M_goOn_27 shM_0 rfl fI11 (by decide) k_975 rfl ?_
      refine EV_iload_n 1 d_M_goOn_30 rfl rfl ?_
      refine EV_aload_n 0 d_M_goOn_31 rfl rfl ?_
      refine EV_get (j := 21) d_M_goOn_32 shM_0 rfl fI11 (by decide) k_975 rfl ?_
      refine EV_iload_n 1 d_M_goOn_35 rfl rfl ?_
      obtain ⟨hi, H⟩ := H
      refine EV_iald d_M_goOn_36 shM_12 hi ?_
      refine EV_iconst d_M_goOn_37 ⟨by decide, by decide⟩ ?_
      obtain ⟨hr, H⟩ := H
      refine EV_iadd d_M_goOn_38 hr ?_
      obtain ⟨hi, H⟩ := H
      refine EV_iast d_M_goOn_39 shM_12 hi shM_12_s ?_
      refine EV_aload_n 0 d_M_goOn_40 rfl rfl ?_
      refine EV_aload_n 0 d_M_goOn_41 rfl rfl ?_
      refine EV_get (j := 19) d_M_goOn_42 shM_0 rfl fI11 (by decide) k_973 rfl ?_
      refine EV_iload_n 1 d_M_goOn_45 rfl rfl ?_
      obtain ⟨hi, H⟩ := H
      refine EV_iald d_M_goOn_46 shM_10 hi ?_
      refine EV_iconst d_M_goOn_47 ⟨by decide, by decide⟩ ?_
      refine EV_icmp_ne (tgt := 55) d_M_goOn_48 (by decide) (fun hc => ?_) (fun hc => ?_)
      · have H := H.1 hc
        refine EV_iconst d_M_goOn_55 ⟨by decide, by decide⟩ ?_
        refine EV_lv (lv' := []) [] rfl ?_
        exact ct_M_goOn_56 H hK
      · have H := H.2 hc
        refine EV_iconst d_M_goOn_51 ⟨by decide, by decide⟩ ?_
        refine EV_goto (tgt := 56) d_M_goOn_52 (by decide) ?_
        refine EV_lv (lv' := []) [] rfl ?_
        exact ct_M_goOn_56 H hK
theorem ct_M_read_344 {l : Launch} {K : Int → Ob → Prop} {K' : Option AV → List AC → Prop} {m : Ob} (H : M_read_344 m K) (hK : ∀ (r : Int) (m' : Ob), K r m' → K' (some (vI r)) (shM m')) : EV l prog_13_method_17_code "PrunedSearchModel" 6 (some .int) 3 344 [(0, vR 0)] [] (shM m) K' := by
  refine EV_aload_n 0 d_M_read_344 rfl rfl ?_
  refine EV_get (j := 1) d_M_read_345 shM_0 rfl fI11 (by decide) k_955 rfl ?_
  exact EV_iret d_M_read_348 rfl (nw_int _) (hK _ _ H)
theorem ct_M_read_338 {l : Launch} {K : Int → Ob → Prop} {K' : Option AV → List AC → Prop} {L52 : Int → Int → Int → Int → Int → Ob → Prop} {x1 : Int} {x2 : Int} {x3 : Int} {x4 : Int} {x5 : Int} {m : Ob} (hL52 : ∀ (x1 : Int) (x2 : Int) (x3 : Int) (x4 : Int) (x5 : Int) (m : Ob), L52 x1 x2 x3 x4 x5 m → EV l prog_13_method_17_code "PrunedSearchModel" 6 (some .int) 3 52 [(0, vR 0), (1, vI x1), (2, vI x2), (3, vI x3), (4, vI x4), (5, vI x5)] [] (shM m) K') (H : M_read_338 L52 x1 x2 x3 x4 x5 m K) (hK : ∀ (r : Int) (m' : Ob), K r m' → K' (some (vI r)) (shM m')) : EV l prog_13_method_17_code "PrunedSearchModel" 6 (some .int) 3 338 [(0, vR 0), (1, vI x1), (2, vI x2), (3, vI x3), (4, vI x4), (5, vI x5)] [] (shM m) K' := by
  obtain ⟨hr, H⟩ := H
  refine EV_iinc (lv' := [(0, vR 0), (1, vI x1), (2, vI x2), (3, vI x3), (4, vI x4), (5, vI (x5 + 1))]) 5 [1, 2, 3, 4, 5, 0] d_M_read_338 rfl (by decide) hr rfl ?_
  refine EV_goto (tgt := 52) d_M_read_341 (by decide) ?_
  exact hL52 x1 x2 x3 x4 (x5 + 1) m H
theorem ct_M_read_336 {l : Launch} {K : Int → Ob → Prop} {K' : Option AV → List AC → Prop} {L52 : Int → Int → Int → Int → Int → Ob → Prop} {x1 : Int} {x2 : Int} {x3 : Int} {x5 : Int} {s0 : Int} {m : Ob} (hL52 : ∀ (x1 : Int) (x2 : Int) (x3 : Int) (x4 : Int) (x5 : Int) (m : Ob), L52 x1 x2 x3 x4 x5 m → EV l prog_13_method_17_code "PrunedSearchModel" 6 (some .int) 3 52 [(0, vR 0), (1, vI x1), (2, vI x2), (3, vI x3), (4, vI x4), (5, vI x5)] [] (shM m) K') (H : M_read_336 L52 x1 x2 x3 x5 s0 m K) (hK : ∀ (r : Int) (m' : Ob), K r m' → K' (some (vI r)) (shM m')) : EV l prog_13_method_17_code "PrunedSearchModel" 6 (some .int) 3 336 [(0, vR 0), (1, vI x1), (2, vI x2), (3, vI x3), (5, vI x5)] [vI s0] (shM m) K' := by
  refine EV_istore (lv' := [(0, vR 0), (1, vI x1), (2, vI x2), (3, vI x3), (4, vI s0), (5, vI x5)]) [1, 2, 3, 4, 0, 5] d_M_read_336 (by decide) rfl ?_
  exact ct_M_read_338 hL52 H hK
theorem ct_M_read_331 {l : Launch} {K : Int → Ob → Prop} {K' : Option AV → List AC → Prop} {L52 : Int → Int → Int → Int → Int → Ob → Prop} {x1 : Int} {x2 : Int} {x3 : Int} {x5 : Int} {m : Ob} (hL52 : ∀ (x1 : Int) (x2 : Int) (x3 : Int) (x4 : Int) (x5 : Int) (m : Ob), L52 x1 x2 x3 x4 x5 m → EV l prog_13_method_17_code "PrunedSearchModel" 6 (some .int) 3 52 [(0, vR 0), (1, vI x1), (2, vI x2), (3, vI x3), (4, vI x4), (5, vI x5)] [] (shM m) K') (H : M_read_331 L52 x1 x2 x3 x5 m K) (hK : ∀ (r : Int) (m' : Ob), K r m' → K' (some (vI r)) (shM m')) : EV l prog_13_method_17_code "PrunedSearchModel" 6 (some .int) 3 331 [(0, vR 0), (1, vI x1), (2, vI x2), (3, vI x3), (5, vI x5)] [] (shM m) K' := by
  refine EV_iconst d_M_read_331 ⟨by decide, by decide⟩ ?_
  refine EV_goto (tgt := 336) d_M_read_332 (by decide) ?_
  exact ct_M_read_336 hL52 H hK
theorem ct_M_read_306 {l : Launch} {K : Int → Ob → Prop} {K' : Option AV → List AC → Prop} {m : Ob} (H : M_read_306 m K) (hK : ∀ (r : Int) (m' : Ob), K r m' → K' (some (vI r)) (shM m')) : EV l prog_13_method_17_code "PrunedSearchModel" 6 (some .int) 3 306 [(0, vR 0)] [] (shM m) K' := by
  refine EV_aload_n 0 d_M_read_306 rfl rfl ?_
  refine EV_get (j := 3) d_M_read_307 shM_0 rfl fI11 (by decide) k_957 rfl ?_
  exact EV_iret d_M_read_310 rfl (nw_int _) (hK _ _ H)
theorem ct_M_read_294 {l : Launch} {K : Int → Ob → Prop} {K' : Option AV → List AC → Prop} {L52 : Int → Int → Int → Int → Int → Ob → Prop} {x1 : Int} {x2 : Int} {x3 : Int} {x5 : Int} {s0 : Int} {m : Ob} (hL52 : ∀ (x1 : Int) (x2 : Int) (x3 : Int) (x4 : Int) (x5 : Int) (m : Ob), L52 x1 x2 x3 x4 x5 m → EV l prog_13_method_17_code "PrunedSearchModel" 6 (some .int) 3 52 [(0, vR 0), (1, vI x1), (2, vI x2), (3, vI x3), (4, vI x4), (5, vI x5)] [] (shM m) K') (H : M_read_294 L52 x1 x2 x3 x5 s0 m K) (hK : ∀ (r : Int) (m' : Ob), K r m' → K' (some (vI r)) (shM m')) : EV l prog_13_method_17_code "PrunedSearchModel" 6 (some .int) 3 294 [(0, vR 0), (1, vI x1), (2, vI x2), (3, vI x3), (5, vI x5)] [vI s0] (shM m) K' := by
  refine EV_istore (lv' := [(0, vR 0), (1, vI x1), (2, vI x2), (3, vI x3), (4, vI s0), (5, vI x5)]) [1, 2, 3, 4, 0, 5] d_M_read_294 (by decide) rfl ?_
  refine EV_goto (tgt := 338) d_M_read_296 (by decide) ?_
  exact ct_M_read_338 hL52 H hK
theorem ct_M_read_279 {l : Launch} {K : Int → Ob → Prop} {K' : Option AV → List AC → Prop} {L52 : Int → Int → Int → Int → Int → Ob → Prop} {x1 : Int} {x2 : Int} {x5 : Int} {s0 : Int} {m : Ob} (hL52 : ∀ (x1 : Int) (x2 : Int) (x3 : Int) (x4 : Int) (x5 : Int) (m : Ob), L52 x1 x2 x3 x4 x5 m → EV l prog_13_method_17_code "PrunedSearchModel" 6 (some .int) 3 52 [(0, vR 0), (1, vI x1), (2, vI x2), (3, vI x3), (4, vI x4), (5, vI x5)] [] (shM m) K') (H : M_read_279 L52 x1 x2 x5 s0 m K) (hK : ∀ (r : Int) (m' : Ob), K r m' → K' (some (vI r)) (shM m')) : EV l prog_13_method_17_code "PrunedSearchModel" 6 (some .int) 3 279 [(0, vR 0), (1, vI x1), (2, vI x2), (5, vI x5)] [vI s0] (shM m) K' := by
  refine EV_istore_n (lv' := [(0, vR 0), (1, vI x1), (2, vI x2), (3, vI s0), (5, vI x5)]) [1, 2, 3, 0, 4] d_M_read_279 rfl (by decide) rfl ?_
  refine EV_aload_n 0 d_M_read_280 rfl rfl ?_
  refine EV_get (j := 2) d_M_read_281 shM_0 rfl fI11 (by decide) k_956 rfl ?_
  refine EV_bipush d_M_read_284 (by decide +kernel) ⟨by decide, by decide⟩ ?_
  refine EV_icmp_ne (tgt := 293) d_M_read_286 (by decide) (fun hc => ?_) (fun hc => ?_)
  · have H := H.1 hc
    refine EV_iconst d_M_read_293 ⟨by decide, by decide⟩ ?_
    exact ct_M_read_294 hL52 H hK
  · have H := H.2 hc
    refine EV_iconst d_M_read_289 ⟨by decide, by decide⟩ ?_
    refine EV_goto (tgt := 294) d_M_read_290 (by decide) ?_
    exact ct_M_read_294 hL52 H hK
theorem ct_M_read_261 {l : Launch} {K : Int → Ob → Prop} {K' : Option AV → List AC → Prop} {m : Ob} (H : M_read_261 m K) (hK : ∀ (r : Int) (m' : Ob), K r m' → K' (some (vI r)) (shM m')) : EV l prog_13_method_17_code "PrunedSearchModel" 6 (some .int) 3 261 [(0, vR 0)] [] (shM m) K' := by
  refine EV_aload_n 0 d_M_read_261 rfl rfl ?_
  refine EV_get (j := 3) d_M_read_262 shM_0 rfl fI11 (by decide) k_957 rfl ?_
  exact EV_iret d_M_read_265 rfl (nw_int _) (hK _ _ H)
theorem ct_M_read_249 {l : Launch} {K : Int → Ob → Prop} {K' : Option AV → List AC → Prop} {L52 : Int → Int → Int → Int → Int → Ob → Prop} {x1 : Int} {x2 : Int} {x4 : Int} {x5 : Int} {m : Ob} (hL52 : ∀ (x1 : Int) (x2 : Int) (x3 : Int) (x4 : Int) (x5 : Int) (m : Ob), L52 x1 x2 x3 x4 x5 m → EV l prog_13_method_17_code "PrunedSearchModel" 6 (some .int) 3 52 [(0, vR 0), (1, vI x1), (2, vI x2), (3, vI x3), (4, vI x4), (5, vI x5)] [] (shM m) K') (H : M_read_249 L52 x1 x2 x4 x5 m K) (hK : ∀ (r : Int) (m' : Ob), K r m' → K' (some (vI r)) (shM m')) : EV l prog_13_method_17_code "PrunedSearchModel" 6 (some .int) 3 249 [(0, vR 0), (1, vI x1), (2, vI x2), (4, vI x4), (5, vI x5)] [] (shM m) K' := by
  refine EV_iload 3 d_M_read_249 rfl ?_
  refine EV_if_eq (tgt := 299) d_M_read_251 (by decide) (fun hc => ?_) (fun hc => ?_)
  · have H := H.1 hc
    refine EV_aload_n 0 d_M_read_299 rfl rfl ?_
    refine EV_callV (as := []) (st := []) d_M_read_300 k_1184 k_1186 kp_50 k_12 k_1187 shM_0 rfl pd_10 ⟨by decide, by decide, Nat.le_of_ble_eq_true rfl⟩ rfl (ct_M_goOn H (fun r_4 m_3 H => ?_))
    refine EV_if_ne (tgt := 311) d_M_read_303 (by decide) (fun hc => ?_) (fun hc => ?_)
    · have H := H.1 hc
      refine EV_iconst d_M_read_311 ⟨by decide, by decide⟩ ?_
      refine EV_istore_n (lv' := [(0, vR 0), (1, vI x1), (2, vI x2), (3, vI 0), (4, vI x4), (5, vI x5)]) [1, 2, 3, 0, 4, 5] d_M_read_312 rfl (by decide) rfl ?_
      refine EV_aload_n 0 d_M_read_313 rfl rfl ?_
      refine EV_get (j := 2) d_M_read_314 shM_0 rfl fI11 (by decide) k_956 rfl ?_
      refine EV_bipush d_M_read_317 (by decide +kernel) ⟨by decide, by decide⟩ ?_
      refine EV_icmp_eq (tgt := 331) d_M_read_319 (by decide) (fun hc => ?_) (fun hc => ?_)
      · have H := H.1 hc
        refine EV_lv (lv' := [(0, vR 0), (1, vI x1), (2, vI x2), (3, vI 0), (5, vI x5)]) [0, 1, 2, 3, 5] rfl ?_
        exact ct_M_read_331 hL52 H hK
      · have H := H.2 hc
        refine EV_aload_n 0 d_M_read_322 rfl rfl ?_
        refine EV_get (j := 2) d_M_read_323 shM_0 rfl fI11 (by decide) k_956 rfl ?_
        refine EV_bipush d_M_read_326 (by decide +kernel) ⟨by decide, by decide⟩ ?_
        refine EV_icmp_ne (tgt := 335) d_M_read_328 (by decide) (fun hc => ?_) (fun hc => ?_)
        · have H := H.1 hc
          refine EV_iconst d_M_read_335 ⟨by decide, by decide⟩ ?_
          refine EV_lv (lv' := [(0, vR 0), (1, vI x1), (2, vI x2), (3, vI 0), (5, vI x5)]) [0, 1, 2, 3, 5] rfl ?_
          exact ct_M_read_336 hL52 H hK
        · have H := H.2 hc
          refine EV_lv (lv' := [(0, vR 0), (1, vI x1), (2, vI x2), (3, vI 0), (5, vI x5)]) [0, 1, 2, 3, 5] rfl ?_
          exact ct_M_read_331 hL52 H hK
    · have H := H.2 hc
      refine EV_lv (lv' := [(0, vR 0)]) [0] rfl ?_
      exact ct_M_read_306 H hK
  · have H := H.2 hc
    refine EV_aload_n 0 d_M_read_254 rfl rfl ?_
    refine EV_callV (as := []) (st := []) d_M_read_255 k_1175 k_1177 kp_48 k_12 k_1178 shM_0 rfl pd_11 ⟨by decide, by decide, Nat.le_of_ble_eq_true rfl⟩ rfl (ct_M_beginTerm H (fun r_6 m_5 H => ?_))
    refine EV_if_ne (tgt := 266) d_M_read_258 (by decide) (fun hc => ?_) (fun hc => ?_)
    · have H := H.1 hc
      refine EV_aload_n 0 d_M_read_266 rfl rfl ?_
      refine EV_get (j := 2) d_M_read_267 shM_0 rfl fI11 (by decide) k_956 rfl ?_
      refine EV_iconst d_M_read_270 ⟨by decide, by decide⟩ ?_
      refine EV_icmp_ne (tgt := 278) d_M_read_271 (by decide) (fun hc => ?_) (fun hc => ?_)
      · have H := H.1 hc
        refine EV_iconst d_M_read_278 ⟨by decide, by decide⟩ ?_
        refine EV_lv (lv' := [(0, vR 0), (1, vI x1), (2, vI x2), (5, vI x5)]) [0, 1, 2, 4] rfl ?_
        exact ct_M_read_279 hL52 H hK
      · have H := H.2 hc
        refine EV_iconst d_M_read_274 ⟨by decide, by decide⟩ ?_
        refine EV_goto (tgt := 279) d_M_read_275 (by decide) ?_
        refine EV_lv (lv' := [(0, vR 0), (1, vI x1), (2, vI x2), (5, vI x5)]) [0, 1, 2, 4] rfl ?_
        exact ct_M_read_279 hL52 H hK
    · have H := H.2 hc
      refine EV_lv (lv' := [(0, vR 0)]) [0] rfl ?_
      exact ct_M_read_261 H hK
theorem ct_M_read_162 {l : Launch} {K : Int → Ob → Prop} {K' : Option AV → List AC → Prop} {m : Ob} (H : M_read_162 m K) (hK : ∀ (r : Int) (m' : Ob), K r m' → K' (some (vI r)) (shM m')) : EV l prog_13_method_17_code "PrunedSearchModel" 6 (some .int) 3 162 [(0, vR 0)] [] (shM m) K' := by
  refine EV_aload_n 0 d_M_read_162 rfl rfl ?_
  refine EV_get (j := 3) d_M_read_163 shM_0 rfl fI11 (by decide) k_957 rfl ?_
  exact EV_iret d_M_read_166 rfl (nw_int _) (hK _ _ H)
theorem ct_M_read_157 {l : Launch} {K : Int → Ob → Prop} {K' : Option AV → List AC → Prop} {L52 : Int → Int → Int → Int → Int → Ob → Prop} {x1 : Int} {x2 : Int} {x4 : Int} {x5 : Int} {s0 : Int} {m : Ob} (hL52 : ∀ (x1 : Int) (x2 : Int) (x3 : Int) (x4 : Int) (x5 : Int) (m : Ob), L52 x1 x2 x3 x4 x5 m → EV l prog_13_method_17_code "PrunedSearchModel" 6 (some .int) 3 52 [(0, vR 0), (1, vI x1), (2, vI x2), (3, vI x3), (4, vI x4), (5, vI x5)] [] (shM m) K') (H : M_read_157 L52 x1 x2 x4 x5 s0 m K) (hK : ∀ (r : Int) (m' : Ob), K r m' → K' (some (vI r)) (shM m')) : EV l prog_13_method_17_code "PrunedSearchModel" 6 (some .int) 3 157 [(0, vR 0), (1, vI x1), (2, vI x2), (4, vI x4), (5, vI x5)] [vI s0] (shM m) K' := by
  refine EV_istore_n (lv' := [(0, vR 0), (1, vI x1), (2, vI x2), (3, vI s0), (4, vI x4), (5, vI x5)]) [1, 2, 3, 0, 4, 5] d_M_read_157 rfl (by decide) rfl ?_
  refine EV_iload_n 2 d_M_read_158 rfl rfl ?_
  refine EV_if_ge (tgt := 338) d_M_read_159 (by decide) (fun hc => ?_) (fun hc => ?_)
  · have H := H.1 hc
    exact ct_M_read_338 hL52 H hK
  · have H := H.2 hc
    refine EV_lv (lv' := [(0, vR 0)]) [0] rfl ?_
    exact ct_M_read_162 H hK
theorem ct_M_read_130 {l : Launch} {K : Int → Ob → Prop} {K' : Option AV → List AC → Prop} {L52 : Int → Int → Int → Int → Int → Ob → Prop} {x1 : Int} {x2 : Int} {x4 : Int} {x5 : Int} {m : Ob} (hL52 : ∀ (x1 : Int) (x2 : Int) (x3 : Int) (x4 : Int) (x5 : Int) (m : Ob), L52 x1 x2 x3 x4 x5 m → EV l prog_13_method_17_code "PrunedSearchModel" 6 (some .int) 3 52 [(0, vR 0), (1, vI x1), (2, vI x2), (3, vI x3), (4, vI x4), (5, vI x5)] [] (shM m) K') (H : M_read_130 L52 x1 x2 x4 x5 m K) (hK : ∀ (r : Int) (m' : Ob), K r m' → K' (some (vI r)) (shM m')) : EV l prog_13_method_17_code "PrunedSearchModel" 6 (some .int) 3 130 [(0, vR 0), (1, vI x1), (2, vI x2), (4, vI x4), (5, vI x5)] [] (shM m) K' := by
  refine EV_aload_n 0 d_M_read_130 rfl rfl ?_
  refine EV_get (j := 18) d_M_read_131 shM_0 rfl fI11 (by decide) k_972 rfl ?_
  refine EV_if_ne (tgt := 167) d_M_read_134 (by decide) (fun hc => ?_) (fun hc => ?_)
  · have H := H.1 hc
    refine EV_iload 3 d_M_read_167 rfl ?_
    refine EV_if_eq (tgt := 249) d_M_read_169 (by decide) (fun hc => ?_) (fun hc => ?_)
    · have H := H.1 hc
      exact ct_M_read_249 hL52 H hK
    · have H := H.2 hc
      refine EV_aload_n 0 d_M_read_172 rfl rfl ?_
      refine EV_get (j := 2) d_M_read_173 shM_0 rfl fI11 (by decide) k_956 rfl ?_
      refine EV_bipush d_M_read_176 (by decide +kernel) ⟨by decide, by decide⟩ ?_
      refine EV_icmp_ne (tgt := 249) d_M_read_178 (by decide) (fun hc => ?_) (fun hc => ?_)
      · have H := H.1 hc
        exact ct_M_read_249 hL52 H hK
      · have H := H.2 hc
        refine EV_aload_n 0 d_M_read_181 rfl rfl ?_
        refine EV_get (j := 22) d_M_read_182 shM_0 rfl fI11 (by decide) k_976 rfl ?_
        refine EV_if_eq (tgt := 249) d_M_read_185 (by decide) (fun hc => ?_) (fun hc => ?_)
        · have H := H.1 hc
          exact ct_M_read_249 hL52 H hK
        · have H := H.2 hc
          refine EV_aload_n 0 d_M_read_188 rfl rfl ?_
          refine EV_get (j := 19) d_M_read_189 shM_0 rfl fI11 (by decide) k_973 rfl ?_
          refine EV_aload_n 0 d_M_read_192 rfl rfl ?_
          refine EV_get (j := 18) d_M_read_193 shM_0 rfl fI11 (by decide) k_972 rfl ?_
          refine EV_iconst d_M_read_196 ⟨by decide, by decide⟩ ?_
          obtain ⟨hr, H⟩ := H
          refine EV_isub d_M_read_197 hr ?_
          obtain ⟨hi, H⟩ := H
          refine EV_iald d_M_read_198 shM_10 hi ?_
          refine EV_iconst d_M_read_199 ⟨by decide, by decide⟩ ?_
          refine EV_icmp_ne (tgt := 249) d_M_read_200 (by decide) (fun hc => ?_) (fun hc => ?_)
          · have H := H.1 hc
            exact ct_M_read_249 hL52 H hK
          · have H := H.2 hc
            refine EV_aload_n 0 d_M_read_203 rfl rfl ?_
            refine EV_get (j := 21) d_M_read_204 shM_0 rfl fI11 (by decide) k_975 rfl ?_
            refine EV_aload_n 0 d_M_read_207 rfl rfl ?_
            refine EV_get (j := 18) d_M_read_208 shM_0 rfl fI11 (by decide) k_972 rfl ?_
            refine EV_iconst d_M_read_211 ⟨by decide, by decide⟩ ?_
            obtain ⟨hr, H⟩ := H
            refine EV_isub d_M_read_212 hr ?_
            obtain ⟨hi, H⟩ := H
            refine EV_iald d_M_read_213 shM_12 hi ?_
            refine EV_iconst d_M_read_214 ⟨by decide, by decide⟩ ?_
            refine EV_icmp_ne (tgt := 249) d_M_read_215 (by decide) (fun hc => ?_) (fun hc => ?_)
            · have H := H.1 hc
              exact ct_M_read_249 hL52 H hK
            · have H := H.2 hc
              refine EV_aload_n 0 d_M_read_218 rfl rfl ?_
              refine EV_ldc2 (n := 2) d_M_read_219 k_1174 (by decide +kernel) (by decide) ?_
              refine EV_iconst d_M_read_222 ⟨by decide, by decide⟩ ?_
              refine EV_callV (as := [vL 2, vI 0]) (st := []) d_M_read_223 k_1166 k_1168 kp_46 k_12 k_1169 shM_0 rfl pd_5 ⟨by decide, by decide, Nat.le_of_ble_eq_true rfl⟩ rfl (ct_M_emit H (fun m_7 H => ?_))
              refine EV_aload_n 0 d_M_read_226 rfl rfl ?_
              refine EV_aload_n 0 d_M_read_227 rfl rfl ?_
              refine EV_get (j := 18) d_M_read_228 shM_0 rfl fI11 (by decide) k_972 rfl ?_
              refine EV_iconst d_M_read_231 ⟨by decide, by decide⟩ ?_
              obtain ⟨hr, H⟩ := H
              refine EV_isub d_M_read_232 hr ?_
              refine EV_put (j := 18) d_M_read_233 shM_0 rfl fI11 fO11 fN11 (by decide) k_972 rfl rfl (fun ad => nf_int ad _) (Nat.le_of_ble_eq_true rfl) shM_0_18 ?_
              refine EV_aload_n 0 d_M_read_236 rfl rfl ?_
              refine EV_iconst d_M_read_237 ⟨by decide, by decide⟩ ?_
              refine EV_put (j := 22) d_M_read_238 shM_0 rfl fI11 fO11 fN11 (by decide) k_976 rfl rfl (fun ad => nf_bool ad (by decide)) (Nat.le_of_ble_eq_true rfl) shM_0_22 ?_
              refine EV_iconst d_M_read_241 ⟨by decide, by decide⟩ ?_
              refine EV_istore_n (lv' := [(0, vR 0), (1, vI x1), (2, vI x2), (3, vI 0), (4, vI x4), (5, vI x5)]) [1, 2, 3, 0, 4, 5] d_M_read_242 rfl (by decide) rfl ?_
              refine EV_iconst d_M_read_243 ⟨by decide, by decide⟩ ?_
              refine EV_istore (lv' := [(0, vR 0), (1, vI x1), (2, vI x2), (3, vI 0), (4, vI 0), (5, vI x5)]) [1, 2, 3, 4, 0, 5] d_M_read_244 (by decide) rfl ?_
              refine EV_goto (tgt := 338) d_M_read_246 (by decide) ?_
              exact ct_M_read_338 hL52 H hK
  · have H := H.2 hc
    refine EV_aload_n 0 d_M_read_137 rfl rfl ?_
    refine EV_iload_n 2 d_M_read_138 rfl rfl ?_
    refine EV_iload_n 1 d_M_read_139 rfl rfl ?_
    refine EV_callV (as := [vI x2, vI x1]) (st := []) d_M_read_140 k_1158 k_1160 kp_44 k_12 k_1161 shM_0 rfl pd_12 ⟨by decide, by decide, Nat.le_of_ble_eq_true rfl⟩ rfl (ct_M_outside H (fun r_9 m_8 H => ?_))
    refine EV_istore_n (lv' := [(0, vR 0), (1, vI x1), (2, vI r_9), (4, vI x4), (5, vI x5)]) [1, 2, 0, 3, 4] d_M_read_143 rfl (by decide) rfl ?_
    refine EV_aload_n 0 d_M_read_144 rfl rfl ?_
    refine EV_get (j := 2) d_M_read_145 shM_0 rfl fI11 (by decide) k_956 rfl ?_
    refine EV_iconst d_M_read_148 ⟨by decide, by decide⟩ ?_
    refine EV_icmp_ne (tgt := 156) d_M_read_149 (by decide) (fun hc => ?_) (fun hc => ?_)
    · have H := H.1 hc
      refine EV_iconst d_M_read_156 ⟨by decide, by decide⟩ ?_
      exact ct_M_read_157 hL52 H hK
    · have H := H.2 hc
      refine EV_iconst d_M_read_152 ⟨by decide, by decide⟩ ?_
      refine EV_goto (tgt := 157) d_M_read_153 (by decide) ?_
      exact ct_M_read_157 hL52 H hK
theorem ct_M_read_117 {l : Launch} {K : Int → Ob → Prop} {K' : Option AV → List AC → Prop} {m : Ob} (H : M_read_117 m K) (hK : ∀ (r : Int) (m' : Ob), K r m' → K' (some (vI r)) (shM m')) : EV l prog_13_method_17_code "PrunedSearchModel" 6 (some .int) 3 117 [(0, vR 0)] [] (shM m) K' := by
  refine EV_aload_n 0 d_M_read_117 rfl rfl ?_
  refine EV_get (j := 3) d_M_read_118 shM_0 rfl fI11 (by decide) k_957 rfl ?_
  exact EV_iret d_M_read_121 rfl (nw_int _) (hK _ _ H)
theorem ct_M_read_91 {l : Launch} {K : Int → Ob → Prop} {K' : Option AV → List AC → Prop} {m : Ob} (H : M_read_91 m K) (hK : ∀ (r : Int) (m' : Ob), K r m' → K' (some (vI r)) (shM m')) : EV l prog_13_method_17_code "PrunedSearchModel" 6 (some .int) 3 91 [(0, vR 0)] [] (shM m) K' := by
  refine EV_aload_n 0 d_M_read_91 rfl rfl ?_
  refine EV_get (j := 1) d_M_read_92 shM_0 rfl fI11 (by decide) k_955 rfl ?_
  exact EV_iret d_M_read_95 rfl (nw_int _) (hK _ _ H)
theorem ct_M_read_71 {l : Launch} {K : Int → Ob → Prop} {K' : Option AV → List AC → Prop} {x2 : Int} {m : Ob} (H : M_read_71 x2 m K) (hK : ∀ (r : Int) (m' : Ob), K r m' → K' (some (vI r)) (shM m')) : EV l prog_13_method_17_code "PrunedSearchModel" 6 (some .int) 3 71 [(0, vR 0), (2, vI x2)] [] (shM m) K' := by
  refine EV_aload_n 0 d_M_read_71 rfl rfl ?_
  refine EV_get (j := 18) d_M_read_72 shM_0 rfl fI11 (by decide) k_972 rfl ?_
  refine EV_if_ne (tgt := 91) d_M_read_75 (by decide) (fun hc => ?_) (fun hc => ?_)
  · have H := H.1 hc
    refine EV_lv (lv' := [(0, vR 0)]) [0] rfl ?_
    exact ct_M_read_91 H hK
  · have H := H.2 hc
    refine EV_iload_n 1 d_M_read_78 rfl rfl ?_
    refine EV_if_eq (tgt := 87) d_M_read_79 (by decide) (fun hc => ?_) (fun hc => ?_)
    · have H := H.1 hc
      refine EV_iconst d_M_read_87 ⟨by decide, by decide⟩ ?_
      refine EV_goto (tgt := 95) d_M_read_88 (by decide) ?_
      exact EV_iret d_M_read_95 rfl (nw_int _) (hK _ _ H)
    · have H := H.2 hc
      refine EV_iload_n 1 d_M_read_82 rfl rfl ?_
      refine EV_iconst d_M_read_83 ⟨by decide, by decide⟩ ?_
      refine EV_icmp_ne (tgt := 91) d_M_read_84 (by decide) (fun hc => ?_) (fun hc => ?_)
      · have H := H.1 hc
        refine EV_lv (lv' := [(0, vR 0)]) [0] rfl ?_
        exact ct_M_read_91 H hK
      · have H := H.2 hc
        refine EV_iconst d_M_read_87 ⟨by decide, by decide⟩ ?_
        refine EV_goto (tgt := 95) d_M_read_88 (by decide) ?_
        exact EV_iret d_M_read_95 rfl (nw_int _) (hK _ _ H)
theorem ct_M_read_52 {l : Launch} {K : Int → Ob → Prop} {K' : Option AV → List AC → Prop} (hK : ∀ (r : Int) (m' : Ob), K r m' → K' (some (vI r)) (shM m')) : ∀ (n : Nat) (x1 : Int) (x2 : Int) (x3 : Int) (x4 : Int) (x5 : Int) (m : Ob), M_read_52 n x1 x2 x3 x4 x5 m K → EV l prog_13_method_17_code "PrunedSearchModel" 6 (some .int) 3 52 [(0, vR 0), (1, vI x1), (2, vI x2), (3, vI x3), (4, vI x4), (5, vI x5)] [] (shM m) K' := by
  intro n
  induction n with
  | zero =>
    intro x1 x2 x3 x4 x5 m H
    exact H.elim
  | succ n ih =>
    intro x1 x2 x3 x4 x5 m H
    refine EV_iload 5 d_M_read_52 rfl ?_
    refine EV_sipush d_M_read_54 (by decide +kernel) ⟨by decide, by decide⟩ ?_
    refine EV_icmp_ge (tgt := 344) d_M_read_57 (by decide) (fun hc => ?_) (fun hc => ?_)
    · have H := H.1 hc
      refine EV_lv (lv' := [(0, vR 0)]) [0] rfl ?_
      exact ct_M_read_344 H hK
    · have H := H.2 hc
      refine EV_aload_n 0 d_M_read_60 rfl rfl ?_
      refine EV_callV (as := []) (st := []) d_M_read_61 k_1146 k_1148 kp_41 k_12 k_1149 shM_0 rfl pd_13 ⟨by decide, by decide, Nat.le_of_ble_eq_true rfl⟩ rfl (ct_M_take H (fun m_2 H => ?_))
      refine EV_aload_n 0 d_M_read_64 rfl rfl ?_
      refine EV_get (j := 2) d_M_read_65 shM_0 rfl fI11 (by decide) k_956 rfl ?_
      refine EV_if_ne (tgt := 96) d_M_read_68 (by decide) (fun hc => ?_) (fun hc => ?_)
      · have H := H.1 hc
        refine EV_iload_n 3 d_M_read_96 rfl rfl ?_
        refine EV_if_eq (tgt := 130) d_M_read_97 (by decide) (fun hc => ?_) (fun hc => ?_)
        · have H := H.1 hc
          refine EV_lv (lv' := [(0, vR 0), (1, vI x1), (2, vI x2), (4, vI x4), (5, vI x5)]) [0, 1, 2, 4, 5] rfl ?_
          exact ct_M_read_130 (fun x1 x2 x3 x4 x5 m' H => ih x1 x2 x3 x4 x5 m' H) H hK
        · have H := H.2 hc
          refine EV_aload_n 0 d_M_read_100 rfl rfl ?_
          refine EV_get (j := 2) d_M_read_101 shM_0 rfl fI11 (by decide) k_956 rfl ?_
          refine EV_bipush d_M_read_104 (by decide +kernel) ⟨by decide, by decide⟩ ?_
          refine EV_icmp_ne (tgt := 130) d_M_read_106 (by decide) (fun hc => ?_) (fun hc => ?_)
          · have H := H.1 hc
            refine EV_lv (lv' := [(0, vR 0), (1, vI x1), (2, vI x2), (4, vI x4), (5, vI x5)]) [0, 1, 2, 4, 5] rfl ?_
            exact ct_M_read_130 (fun x1 x2 x3 x4 x5 m' H => ih x1 x2 x3 x4 x5 m' H) H hK
          · have H := H.2 hc
            refine EV_aload_n 0 d_M_read_109 rfl rfl ?_
            refine EV_iconst d_M_read_110 ⟨by decide, by decide⟩ ?_
            refine EV_callV (as := [vI 0]) (st := []) d_M_read_111 k_1154 k_1156 kp_43 k_12 k_1157 shM_0 rfl pd_8 ⟨by decide, by decide, Nat.le_of_ble_eq_true rfl⟩ rfl (ct_M_push H (fun r_11 m_10 H => ?_))
            refine EV_if_ne (tgt := 122) d_M_read_114 (by decide) (fun hc => ?_) (fun hc => ?_)
            · have H := H.1 hc
              refine EV_iconst d_M_read_122 ⟨by decide, by decide⟩ ?_
              refine EV_istore_n (lv' := [(0, vR 0), (1, vI x1), (2, vI x2), (3, vI 0), (4, vI x4), (5, vI x5)]) [1, 2, 3, 0, 4, 5] d_M_read_123 rfl (by decide) rfl ?_
              refine EV_iconst d_M_read_124 ⟨by decide, by decide⟩ ?_
              refine EV_istore (lv' := [(0, vR 0), (1, vI x1), (2, vI x2), (3, vI 0), (4, vI 1), (5, vI x5)]) [1, 2, 3, 4, 0, 5] d_M_read_125 (by decide) rfl ?_
              refine EV_goto (tgt := 338) d_M_read_127 (by decide) ?_
              exact ct_M_read_338 (fun x1 x2 x3 x4 x5 m' H => ih x1 x2 x3 x4 x5 m' H) H hK
            · have H := H.2 hc
              refine EV_lv (lv' := [(0, vR 0)]) [0] rfl ?_
              exact ct_M_read_117 H hK
      · have H := H.2 hc
        refine EV_lv (lv' := [(0, vR 0), (2, vI x2)]) [0, 2] rfl ?_
        exact ct_M_read_71 H hK
theorem ct_M_read_9 {l : Launch} {K : Int → Ob → Prop} {K' : Option AV → List AC → Prop} {x1 : Int} {s0 : Int} {m : Ob} (H : M_read_9 x1 s0 m K) (hK : ∀ (r : Int) (m' : Ob), K r m' → K' (some (vI r)) (shM m')) : EV l prog_13_method_17_code "PrunedSearchModel" 6 (some .int) 3 9 [(0, vR 0), (1, vI x1)] [vI s0] (shM m) K' := by
  refine EV_istore_n (lv' := [(0, vR 0), (1, vI x1), (2, vI s0)]) [1, 2, 0] d_M_read_9 rfl (by decide) rfl ?_
  refine EV_iconst d_M_read_10 ⟨by decide, by decide⟩ ?_
  refine EV_istore_n (lv' := [(0, vR 0), (1, vI x1), (2, vI s0), (3, vI 0)]) [1, 2, 3, 0] d_M_read_11 rfl (by decide) rfl ?_
  refine EV_iconst d_M_read_12 ⟨by decide, by decide⟩ ?_
  refine EV_istore (lv' := [(0, vR 0), (1, vI x1), (2, vI s0), (3, vI 0), (4, vI 0)]) [1, 2, 3, 4, 0] d_M_read_13 (by decide) rfl ?_
  refine EV_aload_n 0 d_M_read_15 rfl rfl ?_
  refine EV_iconst d_M_read_16 ⟨by decide, by decide⟩ ?_
  refine EV_put (j := 4) d_M_read_17 shM_0 rfl fI11 fO11 fN11 (by decide) k_958 rfl rfl (fun ad => nf_int ad _) (Nat.le_of_ble_eq_true rfl) shM_0_4 ?_
  refine EV_aload_n 0 d_M_read_20 rfl rfl ?_
  refine EV_iconst d_M_read_21 ⟨by decide, by decide⟩ ?_
  refine EV_put (j := 8) d_M_read_22 shM_0 rfl fI11 fO11 fN11 (by decide) k_962 rfl rfl (fun ad => nf_int ad _) (Nat.le_of_ble_eq_true rfl) shM_0_8 ?_
  refine EV_aload_n 0 d_M_read_25 rfl rfl ?_
  refine EV_iconst d_M_read_26 ⟨by decide, by decide⟩ ?_
  refine EV_put (j := 9) d_M_read_27 shM_0 rfl fI11 fO11 fN11 (by decide) k_963 rfl rfl (fun ad => nf_int ad _) (Nat.le_of_ble_eq_true rfl) shM_0_9 ?_
  refine EV_aload_n 0 d_M_read_30 rfl rfl ?_
  refine EV_iconst d_M_read_31 ⟨by decide, by decide⟩ ?_
  refine EV_put (j := 13) d_M_read_32 shM_0 rfl fI11 fO11 fN11 (by decide) k_967 rfl rfl (fun ad => nf_int ad _) (Nat.le_of_ble_eq_true rfl) shM_0_13 ?_
  refine EV_aload_n 0 d_M_read_35 rfl rfl ?_
  refine EV_iconst d_M_read_36 ⟨by decide, by decide⟩ ?_
  refine EV_put (j := 18) d_M_read_37 shM_0 rfl fI11 fO11 fN11 (by decide) k_972 rfl rfl (fun ad => nf_int ad _) (Nat.le_of_ble_eq_true rfl) shM_0_18 ?_
  refine EV_aload_n 0 d_M_read_40 rfl rfl ?_
  refine EV_iconst d_M_read_41 ⟨by decide, by decide⟩ ?_
  refine EV_put (j := 22) d_M_read_42 shM_0 rfl fI11 fO11 fN11 (by decide) k_976 rfl rfl (fun ad => nf_bool ad (by decide)) (Nat.le_of_ble_eq_true rfl) shM_0_22 ?_
  refine EV_aload_n 0 d_M_read_45 rfl rfl ?_
  refine EV_callV (as := []) (st := []) d_M_read_46 k_1142 k_1144 kp_40 k_12 k_1145 shM_0 rfl pd_7 ⟨by decide, by decide, Nat.le_of_ble_eq_true rfl⟩ rfl (ct_M_beginPiece H (fun m_1 H => ?_))
  refine EV_iconst d_M_read_49 ⟨by decide, by decide⟩ ?_
  refine EV_istore (lv' := [(0, vR 0), (1, vI x1), (2, vI s0), (3, vI 0), (4, vI 0), (5, vI 0)]) [1, 2, 3, 4, 5, 0] d_M_read_50 (by decide) rfl ?_
  obtain ⟨n, H⟩ := H
  exact ct_M_read_52 hK n x1 s0 0 0 0 m_1 H
theorem ct_M_read {l : Launch} {m : Ob} {x1 : Int} {K : Int → Ob → Prop} {K' : Option AV → List AC → Prop} (H : wp_M_read x1 m K) (hK : ∀ (r : Int) (m' : Ob), K r m' → K' (some (vI r)) (shM m')) : MT l ⟨"PrunedSearchModel", "read", "(Z)I"⟩ prog_13_method_17_code 6 (some .int) 3 [vR 0, vI x1] (shM m) K' := by
  unfold wp_M_read at H
  refine MT_of (lv := [(0, vR 0), (1, vI x1)]) rfl rfl (Nat.le_of_ble_eq_true rfl) rfl ?_
  refine EV_iload_n 1 d_M_read_0 rfl rfl ?_
  refine EV_if_eq (tgt := 8) d_M_read_1 (by decide) (fun hc => ?_) (fun hc => ?_)
  · have H := H.1 hc
    refine EV_iconst d_M_read_8 ⟨by decide, by decide⟩ ?_
    exact ct_M_read_9 H hK
  · have H := H.2 hc
    refine EV_iconst d_M_read_4 ⟨by decide, by decide⟩ ?_
    refine EV_goto (tgt := 9) d_M_read_5 (by decide) ?_
    exact ct_M_read_9 H hK
theorem ct_M_noSearch {l : Launch} {m : Ob} {K : Ob → Prop} {K' : Option AV → List AC → Prop} (H : wp_M_noSearch m K) (hK : ∀ (m' : Ob), K m' → K' none (shM m')) : MT l ⟨"PrunedSearchModel", "noSearch", "()V"⟩ prog_13_method_22_code 1 none 0 [vR 0] (shM m) K' := by
  unfold wp_M_noSearch at H
  refine MT_of (lv := [(0, vR 0)]) rfl rfl (Nat.le_of_ble_eq_true rfl) rfl ?_
  refine EV_aload_n 0 d_M_noSearch_0 rfl rfl ?_
  refine EV_iconst d_M_noSearch_1 ⟨by decide, by decide⟩ ?_
  refine EV_put (j := 33) d_M_noSearch_2 shM_0 rfl fI11 fO11 fN11 (by decide) k_987 rfl rfl (fun ad => nf_int ad _) (Nat.le_of_ble_eq_true rfl) shM_0_33 ?_
  refine EV_aload_n 0 d_M_noSearch_5 rfl rfl ?_
  refine EV_iconst d_M_noSearch_6 ⟨by decide, by decide⟩ ?_
  refine EV_put (j := 35) d_M_noSearch_7 shM_0 rfl fI11 fO11 fN11 (by decide) k_989 rfl rfl (fun ad => nf_int ad _) (Nat.le_of_ble_eq_true rfl) shM_0_35 ?_
  refine EV_aload_n 0 d_M_noSearch_10 rfl rfl ?_
  refine EV_iconst d_M_noSearch_11 ⟨by decide, by decide⟩ ?_
  refine EV_put (j := 36) d_M_noSearch_12 shM_0 rfl fI11 fO11 fN11 (by decide) k_990 rfl rfl (fun ad => nf_int ad _) (Nat.le_of_ble_eq_true rfl) shM_0_36 ?_
  refine EV_aload_n 0 d_M_noSearch_15 rfl rfl ?_
  refine EV_iconst d_M_noSearch_16 ⟨by decide, by decide⟩ ?_
  refine EV_put (j := 39) d_M_noSearch_17 shM_0 rfl fI11 fO11 fN11 (by decide) k_993 rfl rfl (fun ad => nf_int ad _) (Nat.le_of_ble_eq_true rfl) shM_0_39 ?_
  refine EV_aload_n 0 d_M_noSearch_20 rfl rfl ?_
  refine EV_iconst d_M_noSearch_21 ⟨by decide, by decide⟩ ?_
  refine EV_put (j := 42) d_M_noSearch_22 shM_0 rfl fI11 fO11 fN11 (by decide) k_996 rfl rfl (fun ad => nf_int ad _) (Nat.le_of_ble_eq_true rfl) shM_0_42 ?_
  exact EV_vret d_M_noSearch_25 rfl (hK _ H)
theorem ct_M_endOf {l : Launch} {m : Ob} {x1 : Int} {K : Int → Prop} {K' : Option AV → List AC → Prop} (H : wp_M_endOf x1 m K) (hK : ∀ (r : Int), K r → K' (some (vI r)) (shM m)) : MT l ⟨"PrunedSearchModel", "endOf", "(I)I"⟩ prog_13_method_18_code 2 (some .int) 0 [vR 0, vI x1] (shM m) K' := by
  unfold wp_M_endOf at H
  refine MT_of (lv := [(0, vR 0), (1, vI x1)]) rfl rfl (Nat.le_of_ble_eq_true rfl) rfl ?_
  refine EV_iload_n 1 d_M_endOf_0 rfl rfl ?_
  refine EV_iconst d_M_endOf_1 ⟨by decide, by decide⟩ ?_
  obtain ⟨hr, H⟩ := H
  refine EV_iadd d_M_endOf_2 hr ?_
  refine EV_aload_n 0 d_M_endOf_3 rfl rfl ?_
  refine EV_get (j := 9) d_M_endOf_4 shM_0 rfl fI11 (by decide) k_963 rfl ?_
  refine EV_icmp_ge (tgt := 21) d_M_endOf_7 (by decide) (fun hc => ?_) (fun hc => ?_)
  · have H := H.1 hc
    refine EV_aload_n 0 d_M_endOf_21 rfl rfl ?_
    refine EV_get (j := 8) d_M_endOf_22 shM_0 rfl fI11 (by decide) k_962 rfl ?_
    exact EV_iret d_M_endOf_25 rfl (nw_int _) (hK _ H)
  · have H := H.2 hc
    refine EV_aload_n 0 d_M_endOf_10 rfl rfl ?_
    refine EV_get (j := 10) d_M_endOf_11 shM_0 rfl fI11 (by decide) k_964 rfl ?_
    refine EV_iload_n 1 d_M_endOf_14 rfl rfl ?_
    refine EV_iconst d_M_endOf_15 ⟨by decide, by decide⟩ ?_
    obtain ⟨hr, H⟩ := H
    refine EV_iadd d_M_endOf_16 hr ?_
    obtain ⟨hi, H⟩ := H
    refine EV_iald d_M_endOf_17 shM_4 hi ?_
    refine EV_goto (tgt := 25) d_M_endOf_18 (by decide) ?_
    exact EV_iret d_M_endOf_25 rfl (nw_int _) (hK _ H)
theorem ct_M_tooMuch_80 {l : Launch} {m : Ob} {K : Int → Prop} {K' : Option AV → List AC → Prop} {L52 : Int → Int → Int → Prop} {x1 : Int} {x3 : Int} {s0 : Int} (hL52 : ∀ (x1 : Int) (x2 : Int) (x3 : Int), L52 x1 x2 x3 → EV l prog_13_method_19_code "PrunedSearchModel" 4 (some .boolean) 1 52 [(0, vR 0), (1, vI x1), (2, vI x2), (3, vI x3)] [] (shM m) K') (H : M_tooMuch_80 L52 x1 x3 s0 m K) (hK : ∀ (r : Int), K r → K' (some (vI r)) (shM m)) : EV l prog_13_method_19_code "PrunedSearchModel" 4 (some .boolean) 1 80 [(0, vR 0), (1, vI x1), (3, vI x3)] [vI s0] (shM m) K' := by
  refine EV_istore_n (lv' := [(0, vR 0), (1, vI x1), (2, vI s0), (3, vI x3)]) [1, 2, 0, 3] d_M_tooMuch_80 rfl (by decide) rfl ?_
  obtain ⟨hr, H⟩ := H
  refine EV_iinc (lv' := [(0, vR 0), (1, vI x1), (2, vI s0), (3, vI (x3 + 1))]) 3 [1, 2, 3, 0] d_M_tooMuch_81 rfl (by decide) hr rfl ?_
  refine EV_goto (tgt := 52) d_M_tooMuch_84 (by decide) ?_
  exact hL52 x1 s0 (x3 + 1) H
theorem ct_M_tooMuch_75 {l : Launch} {m : Ob} {K : Int → Prop} {K' : Option AV → List AC → Prop} {L52 : Int → Int → Int → Prop} {x1 : Int} {x3 : Int} (hL52 : ∀ (x1 : Int) (x2 : Int) (x3 : Int), L52 x1 x2 x3 → EV l prog_13_method_19_code "PrunedSearchModel" 4 (some .boolean) 1 52 [(0, vR 0), (1, vI x1), (2, vI x2), (3, vI x3)] [] (shM m) K') (H : M_tooMuch_75 L52 x1 x3 m K) (hK : ∀ (r : Int), K r → K' (some (vI r)) (shM m)) : EV l prog_13_method_19_code "PrunedSearchModel" 4 (some .boolean) 1 75 [(0, vR 0), (1, vI x1), (3, vI x3)] [] (shM m) K' := by
  refine EV_iconst d_M_tooMuch_75 ⟨by decide, by decide⟩ ?_
  refine EV_goto (tgt := 80) d_M_tooMuch_76 (by decide) ?_
  exact ct_M_tooMuch_80 hL52 H hK
theorem ct_M_tooMuch_52 {l : Launch} {m : Ob} {K : Int → Prop} {K' : Option AV → List AC → Prop} (hK : ∀ (r : Int), K r → K' (some (vI r)) (shM m)) : ∀ (n : Nat) (x1 : Int) (x2 : Int) (x3 : Int), M_tooMuch_52 n x1 x2 x3 m K → EV l prog_13_method_19_code "PrunedSearchModel" 4 (some .boolean) 1 52 [(0, vR 0), (1, vI x1), (2, vI x2), (3, vI x3)] [] (shM m) K' := by
  intro n
  induction n with
  | zero =>
    intro x1 x2 x3 H
    exact H.elim
  | succ n ih =>
    intro x1 x2 x3 H
    refine EV_iload_n 3 d_M_tooMuch_52 rfl rfl ?_
    refine EV_aload_n 0 d_M_tooMuch_53 rfl rfl ?_
    refine EV_iload_n 1 d_M_tooMuch_54 rfl rfl ?_
    refine EV_callV (as := [vI x1]) (st := [vI x3]) d_M_tooMuch_55 k_1196 k_1198 kp_53 k_12 k_1199 shM_0 rfl pd_14 ⟨by decide, by decide, Nat.le_of_ble_eq_true rfl⟩ rfl (ct_M_endOf H (fun r_2 H => ?_))
    refine EV_icmp_ge (tgt := 87) d_M_tooMuch_58 (by decide) (fun hc => ?_) (fun hc => ?_)
    · have H := H.1 hc
      refine EV_iload_n 2 d_M_tooMuch_87 rfl rfl ?_
      obtain ⟨hb, H⟩ := H
      exact EV_iret d_M_tooMuch_88 rfl (nw_bool hb) (hK _ H)
    · have H := H.2 hc
      refine EV_iload_n 2 d_M_tooMuch_61 rfl rfl ?_
      refine EV_if_ne (tgt := 75) d_M_tooMuch_62 (by decide) (fun hc => ?_) (fun hc => ?_)
      · have H := H.1 hc
        refine EV_lv (lv' := [(0, vR 0), (1, vI x1), (3, vI x3)]) [0, 1, 3] rfl ?_
        exact ct_M_tooMuch_75 (fun x1 x2 x3 H => ih x1 x2 x3 H) H hK
      · have H := H.2 hc
        refine EV_aload_n 0 d_M_tooMuch_65 rfl rfl ?_
        refine EV_get (j := 7) d_M_tooMuch_66 shM_0 rfl fI11 (by decide) k_961 rfl ?_
        refine EV_iload_n 3 d_M_tooMuch_69 rfl rfl ?_
        obtain ⟨hi, H⟩ := H
        refine EV_iald d_M_tooMuch_70 shM_3 hi ?_
        refine EV_iconst d_M_tooMuch_71 ⟨by decide, by decide⟩ ?_
        refine EV_icmp_le (tgt := 79) d_M_tooMuch_72 (by decide) (fun hc => ?_) (fun hc => ?_)
        · have H := H.1 hc
          refine EV_iconst d_M_tooMuch_79 ⟨by decide, by decide⟩ ?_
          refine EV_lv (lv' := [(0, vR 0), (1, vI x1), (3, vI x3)]) [0, 1, 3] rfl ?_
          exact ct_M_tooMuch_80 (fun x1 x2 x3 H => ih x1 x2 x3 H) H hK
        · have H := H.2 hc
          refine EV_lv (lv' := [(0, vR 0), (1, vI x1), (3, vI x3)]) [0, 1, 3] rfl ?_
          exact ct_M_tooMuch_75 (fun x1 x2 x3 H => ih x1 x2 x3 H) H hK
theorem ct_M_tooMuch_44 {l : Launch} {m : Ob} {K : Int → Prop} {K' : Option AV → List AC → Prop} {x1 : Int} {s0 : Int} (H : M_tooMuch_44 x1 s0 m K) (hK : ∀ (r : Int), K r → K' (some (vI r)) (shM m)) : EV l prog_13_method_19_code "PrunedSearchModel" 4 (some .boolean) 1 44 [(0, vR 0), (1, vI x1)] [vI s0] (shM m) K' := by
  refine EV_istore_n (lv' := [(0, vR 0), (1, vI x1), (2, vI s0)]) [1, 2, 0] d_M_tooMuch_44 rfl (by decide) rfl ?_
  refine EV_aload_n 0 d_M_tooMuch_45 rfl rfl ?_
  refine EV_get (j := 10) d_M_tooMuch_46 shM_0 rfl fI11 (by decide) k_964 rfl ?_
  refine EV_iload_n 1 d_M_tooMuch_49 rfl rfl ?_
  obtain ⟨hi, H⟩ := H
  refine EV_iald d_M_tooMuch_50 shM_4 hi ?_
  refine EV_istore_n (lv' := [(0, vR 0), (1, vI x1), (2, vI s0), (3, vI (m.2.1 2 x1))]) [1, 2, 3, 0] d_M_tooMuch_51 rfl (by decide) rfl ?_
  obtain ⟨n, H⟩ := H
  exact ct_M_tooMuch_52 hK n x1 s0 (m.2.1 2 x1) H
theorem ct_M_tooMuch_39 {l : Launch} {m : Ob} {K : Int → Prop} {K' : Option AV → List AC → Prop} {x1 : Int} (H : M_tooMuch_39 x1 m K) (hK : ∀ (r : Int), K r → K' (some (vI r)) (shM m)) : EV l prog_13_method_19_code "PrunedSearchModel" 4 (some .boolean) 1 39 [(0, vR 0), (1, vI x1)] [] (shM m) K' := by
  refine EV_iconst d_M_tooMuch_39 ⟨by decide, by decide⟩ ?_
  refine EV_goto (tgt := 44) d_M_tooMuch_40 (by decide) ?_
  exact ct_M_tooMuch_44 H hK
theorem ct_M_tooMuch {l : Launch} {m : Ob} {x1 : Int} {K : Int → Prop} {K' : Option AV → List AC → Prop} (H : wp_M_tooMuch x1 m K) (hK : ∀ (r : Int), K r → K' (some (vI r)) (shM m)) : MT l ⟨"PrunedSearchModel", "tooMuch", "(I)Z"⟩ prog_13_method_19_code 4 (some .boolean) 1 [vR 0, vI x1] (shM m) K' := by
  unfold wp_M_tooMuch at H
  refine MT_of (lv := [(0, vR 0), (1, vI x1)]) rfl rfl (Nat.le_of_ble_eq_true rfl) rfl ?_
  refine EV_aload_n 0 d_M_tooMuch_0 rfl rfl ?_
  refine EV_iload_n 1 d_M_tooMuch_1 rfl rfl ?_
  refine EV_callV (as := [vI x1]) (st := []) d_M_tooMuch_2 k_1196 k_1198 kp_53 k_12 k_1199 shM_0 rfl pd_14 ⟨by decide, by decide, Nat.le_of_ble_eq_true rfl⟩ rfl (ct_M_endOf H (fun r_1 H => ?_))
  refine EV_aload_n 0 d_M_tooMuch_5 rfl rfl ?_
  refine EV_get (j := 10) d_M_tooMuch_6 shM_0 rfl fI11 (by decide) k_964 rfl ?_
  refine EV_iload_n 1 d_M_tooMuch_9 rfl rfl ?_
  obtain ⟨hi, H⟩ := H
  refine EV_iald d_M_tooMuch_10 shM_4 hi ?_
  obtain ⟨hr, H⟩ := H
  refine EV_isub d_M_tooMuch_11 hr ?_
  refine EV_bipush d_M_tooMuch_12 (by decide +kernel) ⟨by decide, by decide⟩ ?_
  refine EV_icmp_gt (tgt := 39) d_M_tooMuch_14 (by decide) (fun hc => ?_) (fun hc => ?_)
  · have H := H.1 hc
    exact ct_M_tooMuch_39 H hK
  · have H := H.2 hc
    refine EV_aload_n 0 d_M_tooMuch_17 rfl rfl ?_
    refine EV_get (j := 12) d_M_tooMuch_18 shM_0 rfl fI11 (by decide) k_966 rfl ?_
    refine EV_iload_n 1 d_M_tooMuch_21 rfl rfl ?_
    obtain ⟨hi, H⟩ := H
    refine EV_iald d_M_tooMuch_22 shM_6 hi ?_
    refine EV_bipush d_M_tooMuch_23 (by decide +kernel) ⟨by decide, by decide⟩ ?_
    refine EV_icmp_gt (tgt := 39) d_M_tooMuch_25 (by decide) (fun hc => ?_) (fun hc => ?_)
    · have H := H.1 hc
      exact ct_M_tooMuch_39 H hK
    · have H := H.2 hc
      refine EV_aload_n 0 d_M_tooMuch_28 rfl rfl ?_
      refine EV_get (j := 11) d_M_tooMuch_29 shM_0 rfl fI11 (by decide) k_965 rfl ?_
      refine EV_iload_n 1 d_M_tooMuch_32 rfl rfl ?_
      obtain ⟨hi, H⟩ := H
      refine EV_iald d_M_tooMuch_33 shM_5 hi ?_
      refine EV_bipush d_M_tooMuch_34 (by decide +kernel) ⟨by decide, by decide⟩ ?_
      refine EV_icmp_le (tgt := 43) d_M_tooMuch_36 (by decide) (fun hc => ?_) (fun hc => ?_)
      · have H := H.1 hc
        refine EV_iconst d_M_tooMuch_43 ⟨by decide, by decide⟩ ?_
        exact ct_M_tooMuch_44 H hK
      · have H := H.2 hc
        exact ct_M_tooMuch_39 H hK
end
section
/-! printed by wip/gen/drive.py -/
theorem ct_M_addNames_116 {l : Launch} {K : Int → Ob → Prop} {K' : Option AV → List AC → Prop} {L7 : Int → Int → Ob → Prop} {x1 : Int} {x2 : Int} {m : Ob} (hL7 : ∀ (x1 : Int) (x2 : Int) (m : Ob), L7 x1 x2 m → EV l prog_13_method_20_code "PrunedSearchModel" 5 (some .int) 0 7 [(0, vR 0), (1, vI x1), (2, vI x2)] [] (shM m) K') (H : M_addNames_116 L7 x1 x2 m K) (hK : ∀ (r : Int) (m' : Ob), K r m' → K' (some (vI r)) (shM m')) : EV l prog_13_method_20_code "PrunedSearchModel" 5 (some .int) 0 116 [(0, vR 0), (1, vI x1), (2, vI x2)] [] (shM m) K' := by
  obtain ⟨hr, H⟩ := H
  refine EV_iinc (lv' := [(0, vR 0), (1, vI x1), (2, vI (x2 + 1))]) 2 [1, 2, 0] d_M_addNames_116 rfl (by decide) hr rfl ?_
  refine EV_goto (tgt := 7) d_M_addNames_119 (by decide) ?_
  exact hL7 x1 (x2 + 1) m H
theorem ct_M_addNames_96 {l : Launch} {K : Int → Ob → Prop} {K' : Option AV → List AC → Prop} {L7 : Int → Int → Ob → Prop} {x1 : Int} {x2 : Int} {x3 : Int} {m : Ob} (hL7 : ∀ (x1 : Int) (x2 : Int) (m : Ob), L7 x1 x2 m → EV l prog_13_method_20_code "PrunedSearchModel" 5 (some .int) 0 7 [(0, vR 0), (1, vI x1), (2, vI x2)] [] (shM m) K') (H : M_addNames_96 L7 x1 x2 x3 m K) (hK : ∀ (r : Int) (m' : Ob), K r m' → K' (some (vI r)) (shM m')) : EV l prog_13_method_20_code "PrunedSearchModel" 5 (some .int) 0 96 [(0, vR 0), (1, vI x1), (2, vI x2), (3, vI x3)] [] (shM m) K' := by
  refine EV_iload_n 3 d_M_addNames_96 rfl rfl ?_
  refine EV_if_ne (tgt := 116) d_M_addNames_97 (by decide) (fun hc => ?_) (fun hc => ?_)
  · have H := H.1 hc
    refine EV_lv (lv' := [(0, vR 0), (1, vI x1), (2, vI x2)]) [0, 1, 2] rfl ?_
    exact ct_M_addNames_116 hL7 H hK
  · have H := H.2 hc
    refine EV_aload_n 0 d_M_addNames_100 rfl rfl ?_
    refine EV_get (j := 30) d_M_addNames_101 shM_0 rfl fI11 (by decide) k_984 rfl ?_
    refine EV_iload_n 1 d_M_addNames_104 rfl rfl ?_
    refine EV_aload_n 0 d_M_addNames_105 rfl rfl ?_
    refine EV_get (j := 6) d_M_addNames_106 shM_0 rfl fI11 (by decide) k_960 rfl ?_
    refine EV_iload_n 2 d_M_addNames_109 rfl rfl ?_
    obtain ⟨hi, H⟩ := H
    refine EV_lald d_M_addNames_110 shM_2 hi ?_
    obtain ⟨hi, H⟩ := H
    refine EV_last d_M_addNames_111 shM_18 hi shM_18_s ?_
    refine EV_iload_n 1 d_M_addNames_112 rfl rfl ?_
    refine EV_iconst d_M_addNames_113 ⟨by decide, by decide⟩ ?_
    obtain ⟨hr, H⟩ := H
    refine EV_iadd d_M_addNames_114 hr ?_
    refine EV_istore_n (lv' := [(0, vR 0), (1, vI (x1 + 1)), (2, vI x2), (3, vI x3)]) [1, 0, 2, 3] d_M_addNames_115 rfl (by decide) rfl ?_
    refine EV_lv (lv' := [(0, vR 0), (1, vI (x1 + 1)), (2, vI x2)]) [0, 1, 2] rfl ?_
    exact ct_M_addNames_116 hL7 H hK
theorem ct_M_addNames_89 {l : Launch} {K : Int → Ob → Prop} {K' : Option AV → List AC → Prop} {L7 : Int → Int → Ob → Prop} {L57 : Int → Int → Int → Int → Ob → Prop} {x1 : Int} {x2 : Int} {x4 : Int} {s0 : Int} {m : Ob} (hL7 : ∀ (x1 : Int) (x2 : Int) (m : Ob), L7 x1 x2 m → EV l prog_13_method_20_code "PrunedSearchModel" 5 (some .int) 0 7 [(0, vR 0), (1, vI x1), (2, vI x2)] [] (shM m) K') (hL57 : ∀ (x1 : Int) (x2 : Int) (x3 : Int) (x4 : Int) (m : Ob), L57 x1 x2 x3 x4 m → EV l prog_13_method_20_code "PrunedSearchModel" 5 (some .int) 0 57 [(0, vR 0), (1, vI x1), (2, vI x2), (3, vI x3), (4, vI x4)] [] (shM m) K') (H : M_addNames_89 L7 L57 x1 x2 x4 s0 m K) (hK : ∀ (r : Int) (m' : Ob), K r m' → K' (some (vI r)) (shM m')) : EV l prog_13_method_20_code "PrunedSearchModel" 5 (some .int) 0 89 [(0, vR 0), (1, vI x1), (2, vI x2), (4, vI x4)] [vI s0] (shM m) K' := by
  refine EV_istore_n (lv' := [(0, vR 0), (1, vI x1), (2, vI x2), (3, vI s0), (4, vI x4)]) [1, 2, 3, 0, 4] d_M_addNames_89 rfl (by decide) rfl ?_
  obtain ⟨hr, H⟩ := H
  refine EV_iinc (lv' := [(0, vR 0), (1, vI x1), (2, vI x2), (3, vI s0), (4, vI (x4 + 1))]) 4 [1, 2, 3, 4, 0] d_M_addNames_90 rfl (by decide) hr rfl ?_
  refine EV_goto (tgt := 57) d_M_addNames_93 (by decide) ?_
  exact hL57 x1 x2 s0 (x4 + 1) m H
theorem ct_M_addNames_57 {l : Launch} {K : Int → Ob → Prop} {K' : Option AV → List AC → Prop} {L7 : Int → Int → Ob → Prop} (hL7 : ∀ (x1 : Int) (x2 : Int) (m : Ob), L7 x1 x2 m → EV l prog_13_method_20_code "PrunedSearchModel" 5 (some .int) 0 7 [(0, vR 0), (1, vI x1), (2, vI x2)] [] (shM m) K') (hK : ∀ (r : Int) (m' : Ob), K r m' → K' (some (vI r)) (shM m')) : ∀ (n : Nat) (x1 : Int) (x2 : Int) (x3 : Int) (x4 : Int) (m : Ob), M_addNames_57 L7 n x1 x2 x3 x4 m K → EV l prog_13_method_20_code "PrunedSearchModel" 5 (some .int) 0 57 [(0, vR 0), (1, vI x1), (2, vI x2), (3, vI x3), (4, vI x4)] [] (shM m) K' := by
  intro n
  induction n with
  | zero =>
    intro x1 x2 x3 x4 m H
    exact H.elim
  | succ n ih =>
    intro x1 x2 x3 x4 m H
    refine EV_iload 4 d_M_addNames_57 rfl ?_
    refine EV_iload_n 1 d_M_addNames_59 rfl rfl ?_
    refine EV_icmp_ge (tgt := 96) d_M_addNames_60 (by decide) (fun hc => ?_) (fun hc => ?_)
    · have H := H.1 hc
      refine EV_lv (lv' := [(0, vR 0), (1, vI x1), (2, vI x2), (3, vI x3)]) [0, 1, 2, 3] rfl ?_
      exact ct_M_addNames_96 hL7 H hK
    · have H := H.2 hc
      refine EV_iload_n 3 d_M_addNames_63 rfl rfl ?_
      refine EV_if_ne (tgt := 96) d_M_addNames_64 (by decide) (fun hc => ?_) (fun hc => ?_)
      · have H := H.1 hc
        refine EV_lv (lv' := [(0, vR 0), (1, vI x1), (2, vI x2), (3, vI x3)]) [0, 1, 2, 3] rfl ?_
        exact ct_M_addNames_96 hL7 H hK
      · have H := H.2 hc
        refine EV_aload_n 0 d_M_addNames_67 rfl rfl ?_
        refine EV_get (j := 30) d_M_addNames_68 shM_0 rfl fI11 (by decide) k_984 rfl ?_
        refine EV_iload 4 d_M_addNames_71 rfl ?_
        obtain ⟨hi, H⟩ := H
        refine EV_lald d_M_addNames_73 shM_18 hi ?_
        refine EV_aload_n 0 d_M_addNames_74 rfl rfl ?_
        refine EV_get (j := 6) d_M_addNames_75 shM_0 rfl fI11 (by decide) k_960 rfl ?_
        refine EV_iload_n 2 d_M_addNames_78 rfl rfl ?_
        obtain ⟨hi, H⟩ := H
        refine EV_lald d_M_addNames_79 shM_2 hi ?_
        refine EV_lcmp_ne (tgt := 88) d_M_addNames_80 d_M_addNames_81 (by decide) (fun hc => ?_) (fun hc => ?_)
        · have H := H.1 hc
          refine EV_iconst d_M_addNames_88 ⟨by decide, by decide⟩ ?_
          refine EV_lv (lv' := [(0, vR 0), (1, vI x1), (2, vI x2), (4, vI x4)]) [0, 1, 2, 4] rfl ?_
          exact ct_M_addNames_89 hL7 (fun x1 x2 x3 x4 m' H => ih x1 x2 x3 x4 m' H) H hK
        · have H := H.2 hc
          refine EV_iconst d_M_addNames_84 ⟨by decide, by decide⟩ ?_
          refine EV_goto (tgt := 89) d_M_addNames_85 (by decide) ?_
          refine EV_lv (lv' := [(0, vR 0), (1, vI x1), (2, vI x2), (4, vI x4)]) [0, 1, 2, 4] rfl ?_
          exact ct_M_addNames_89 hL7 (fun x1 x2 x3 x4 m' H => ih x1 x2 x3 x4 m' H) H hK
theorem ct_M_addNames_53 {l : Launch} {K : Int → Ob → Prop} {K' : Option AV → List AC → Prop} {L7 : Int → Int → Ob → Prop} {x1 : Int} {x2 : Int} {s0 : Int} {m : Ob} (hL7 : ∀ (x1 : Int) (x2 : Int) (m : Ob), L7 x1 x2 m → EV l prog_13_method_20_code "PrunedSearchModel" 5 (some .int) 0 7 [(0, vR 0), (1, vI x1), (2, vI x2)] [] (shM m) K') (H : M_addNames_53 L7 x1 x2 s0 m K) (hK : ∀ (r : Int) (m' : Ob), K r m' → K' (some (vI r)) (shM m')) : EV l prog_13_method_20_code "PrunedSearchModel" 5 (some .int) 0 53 [(0, vR 0), (1, vI x1), (2, vI x2)] [vI s0] (shM m) K' := by
  refine EV_istore_n (lv' := [(0, vR 0), (1, vI x1), (2, vI x2), (3, vI s0)]) [1, 2, 3, 0] d_M_addNames_53 rfl (by decide) rfl ?_
  refine EV_iconst d_M_addNames_54 ⟨by decide, by decide⟩ ?_
  refine EV_istore (lv' := [(0, vR 0), (1, vI x1), (2, vI x2), (3, vI s0), (4, vI 0)]) [1, 2, 3, 4, 0] d_M_addNames_55 (by decide) rfl ?_
  obtain ⟨n, H⟩ := H
  exact ct_M_addNames_57 hL7 hK n x1 x2 s0 0 m H
theorem ct_M_addNames_48 {l : Launch} {K : Int → Ob → Prop} {K' : Option AV → List AC → Prop} {L7 : Int → Int → Ob → Prop} {x1 : Int} {x2 : Int} {m : Ob} (hL7 : ∀ (x1 : Int) (x2 : Int) (m : Ob), L7 x1 x2 m → EV l prog_13_method_20_code "PrunedSearchModel" 5 (some .int) 0 7 [(0, vR 0), (1, vI x1), (2, vI x2)] [] (shM m) K') (H : M_addNames_48 L7 x1 x2 m K) (hK : ∀ (r : Int) (m' : Ob), K r m' → K' (some (vI r)) (shM m')) : EV l prog_13_method_20_code "PrunedSearchModel" 5 (some .int) 0 48 [(0, vR 0), (1, vI x1), (2, vI x2)] [] (shM m) K' := by
  refine EV_iconst d_M_addNames_48 ⟨by decide, by decide⟩ ?_
  refine EV_goto (tgt := 53) d_M_addNames_49 (by decide) ?_
  exact ct_M_addNames_53 hL7 H hK
theorem ct_M_addNames_7 {l : Launch} {K : Int → Ob → Prop} {K' : Option AV → List AC → Prop} (hK : ∀ (r : Int) (m' : Ob), K r m' → K' (some (vI r)) (shM m')) : ∀ (n : Nat) (x1 : Int) (x2 : Int) (m : Ob), M_addNames_7 n x1 x2 m K → EV l prog_13_method_20_code "PrunedSearchModel" 5 (some .int) 0 7 [(0, vR 0), (1, vI x1), (2, vI x2)] [] (shM m) K' := by
  intro n
  induction n with
  | zero =>
    intro x1 x2 m H
    exact H.elim
  | succ n ih =>
    intro x1 x2 m H
    refine EV_iload_n 2 d_M_addNames_7 rfl rfl ?_
    refine EV_aload_n 0 d_M_addNames_8 rfl rfl ?_
    refine EV_get (j := 8) d_M_addNames_9 shM_0 rfl fI11 (by decide) k_962 rfl ?_
    refine EV_icmp_ge (tgt := 122) d_M_addNames_12 (by decide) (fun hc => ?_) (fun hc => ?_)
    · have H := H.1 hc
      refine EV_iload_n 1 d_M_addNames_122 rfl rfl ?_
      exact EV_iret d_M_addNames_123 rfl (nw_int _) (hK _ _ H)
    · have H := H.2 hc
      refine EV_aload_n 0 d_M_addNames_15 rfl rfl ?_
      refine EV_get (j := 7) d_M_addNames_16 shM_0 rfl fI11 (by decide) k_961 rfl ?_
      refine EV_iload_n 2 d_M_addNames_19 rfl rfl ?_
      obtain ⟨hi, H⟩ := H
      refine EV_iald d_M_addNames_20 shM_3 hi ?_
      refine EV_if_lt (tgt := 48) d_M_addNames_21 (by decide) (fun hc => ?_) (fun hc => ?_)
      · have H := H.1 hc
        exact ct_M_addNames_48 (fun x1 x2 m' H => ih x1 x2 m' H) H hK
      · have H := H.2 hc
        refine EV_aload_n 0 d_M_addNames_24 rfl rfl ?_
        refine EV_get (j := 6) d_M_addNames_25 shM_0 rfl fI11 (by decide) k_960 rfl ?_
        refine EV_iload_n 2 d_M_addNames_28 rfl rfl ?_
        obtain ⟨hi, H⟩ := H
        refine EV_lald d_M_addNames_29 shM_2 hi ?_
        refine EV_lconst (v := 1) d_M_addNames_30 rfl ?_
        refine EV_lcmp_eq (tgt := 48) d_M_addNames_31 d_M_addNames_32 (by decide) (fun hc => ?_) (fun hc => ?_)
        · have H := H.1 hc
          exact ct_M_addNames_48 (fun x1 x2 m' H => ih x1 x2 m' H) H hK
        · have H := H.2 hc
          refine EV_aload_n 0 d_M_addNames_35 rfl rfl ?_
          refine EV_get (j := 6) d_M_addNames_36 shM_0 rfl fI11 (by decide) k_960 rfl ?_
          refine EV_iload_n 2 d_M_addNames_39 rfl rfl ?_
          obtain ⟨hi, H⟩ := H
          refine EV_lald d_M_addNames_40 shM_2 hi ?_
          refine EV_ldc2 (n := 2) d_M_addNames_41 k_1174 (by decide +kernel) (by decide) ?_
          refine EV_lcmp_ne (tgt := 52) d_M_addNames_44 d_M_addNames_45 (by decide) (fun hc => ?_) (fun hc => ?_)
          · have H := H.1 hc
            refine EV_iconst d_M_addNames_52 ⟨by decide, by decide⟩ ?_
            exact ct_M_addNames_53 (fun x1 x2 m' H => ih x1 x2 m' H) H hK
          · have H := H.2 hc
            exact ct_M_addNames_48 (fun x1 x2 m' H => ih x1 x2 m' H) H hK
theorem ct_M_addNames {l : Launch} {m : Ob} {K : Int → Ob → Prop} {K' : Option AV → List AC → Prop} (H : wp_M_addNames m K) (hK : ∀ (r : Int) (m' : Ob), K r m' → K' (some (vI r)) (shM m')) : MT l ⟨"PrunedSearchModel", "addNames", "()I"⟩ prog_13_method_20_code 5 (some .int) 0 [vR 0] (shM m) K' := by
  unfold wp_M_addNames at H
  refine MT_of (lv := [(0, vR 0)]) rfl rfl (Nat.le_of_ble_eq_true rfl) rfl ?_
  refine EV_aload_n 0 d_M_addNames_0 rfl rfl ?_
  refine EV_get (j := 29) d_M_addNames_1 shM_0 rfl fI11 (by decide) k_983 rfl ?_
  refine EV_istore_n (lv' := [(0, vR 0), (1, vI (m.1 11))]) [1, 0] d_M_addNames_4 rfl (by decide) rfl ?_
  refine EV_iconst d_M_addNames_5 ⟨by decide, by decide⟩ ?_
  refine EV_istore_n (lv' := [(0, vR 0), (1, vI (m.1 11)), (2, vI 0)]) [1, 2, 0] d_M_addNames_6 rfl (by decide) rfl ?_
  obtain ⟨n, H⟩ := H
  exact ct_M_addNames_7 hK n (m.1 11) 0 m H
theorem ct_M_keep_105 {l : Launch} {K : Ob → Prop} {K' : Option AV → List AC → Prop} (hK : ∀ (m' : Ob), K m' → K' none (shM m')) : ∀ (n : Nat) (x1 : Int) (x2 : Int) (x3 : Int) (x4 : Int) (m : Ob), M_keep_105 n x1 x2 x3 x4 m K → EV l prog_13_method_21_code "PrunedSearchModel" 5 none 1 105 [(0, vR 0), (1, vI x1), (2, vI x2), (3, vI x3), (4, vI x4)] [] (shM m) K' := by
  intro n
  induction n with
  | zero =>
    intro x1 x2 x3 x4 m H
    exact H.elim
  | succ n ih =>
    intro x1 x2 x3 x4 m H
    refine EV_iload 4 d_M_keep_105 rfl ?_
    refine EV_aload_n 0 d_M_keep_107 rfl rfl ?_
    refine EV_get (j := 27) d_M_keep_108 shM_0 rfl fI11 (by decide) k_981 rfl ?_
    refine EV_iload_n 3 d_M_keep_111 rfl rfl ?_
    obtain ⟨hi, H⟩ := H
    refine EV_iald d_M_keep_112 shM_16 hi ?_
    refine EV_icmp_ge (tgt := 155) d_M_keep_113 (by decide) (fun hc => ?_) (fun hc => ?_)
    · have H := H.1 hc
      exact EV_vret d_M_keep_155 rfl (hK _ H)
    · have H := H.2 hc
      refine EV_aload_n 0 d_M_keep_116 rfl rfl ?_
      refine EV_get (j := 28) d_M_keep_117 shM_0 rfl fI11 (by decide) k_982 rfl ?_
      refine EV_bipush d_M_keep_120 (by decide +kernel) ⟨by decide, by decide⟩ ?_
      refine EV_iload_n 3 d_M_keep_122 rfl rfl ?_
      obtain ⟨hr, H⟩ := H
      refine EV_imul d_M_keep_123 hr ?_
      refine EV_iload 4 d_M_keep_124 rfl ?_
      obtain ⟨hr, H⟩ := H
      refine EV_iadd d_M_keep_126 hr ?_
      refine EV_bipush d_M_keep_127 (by decide +kernel) ⟨by decide, by decide⟩ ?_
      refine EV_iload_n 3 d_M_keep_129 rfl rfl ?_
      obtain ⟨hr, H⟩ := H
      refine EV_imul d_M_keep_130 hr ?_
      refine EV_aload_n 0 d_M_keep_131 rfl rfl ?_
      refine EV_get (j := 14) d_M_keep_132 shM_0 rfl fI11 (by decide) k_968 rfl ?_
      refine EV_iload_n 2 d_M_keep_135 rfl rfl ?_
      refine EV_iload 4 d_M_keep_136 rfl ?_
      obtain ⟨hr, H⟩ := H
      refine EV_iadd d_M_keep_138 hr ?_
      obtain ⟨hi, H⟩ := H
      refine EV_iald d_M_keep_139 shM_7 hi ?_
      obtain ⟨hr, H⟩ := H
      refine EV_iadd d_M_keep_140 hr ?_
      refine EV_aload_n 0 d_M_keep_141 rfl rfl ?_
      refine EV_get (j := 10) d_M_keep_142 shM_0 rfl fI11 (by decide) k_964 rfl ?_
      refine EV_iload_n 1 d_M_keep_145 rfl rfl ?_
      obtain ⟨hi, H⟩ := H
      refine EV_iald d_M_keep_146 shM_4 hi ?_
      obtain ⟨hr, H⟩ := H
      refine EV_isub d_M_keep_147 hr ?_
      obtain ⟨hi, H⟩ := H
      refine EV_iast d_M_keep_148 shM_17 hi shM_17_s ?_
      obtain ⟨hr, H⟩ := H
      refine EV_iinc (lv' := [(0, vR 0), (1, vI x1), (2, vI x2), (3, vI x3), (4, vI (x4 + 1))]) 4 [1, 2, 3, 4, 0] d_M_keep_149 rfl (by decide) hr rfl ?_
      refine EV_goto (tgt := 105) d_M_keep_152 (by decide) ?_
      exact ih x1 x2 x3 (x4 + 1) (sA m 13 ((8 * x3) + x4) (((40 * x3) + (m.2.1 5 (x2 + x4))) - (m.2.1 2 x1))) H
theorem ct_M_keep_90 {l : Launch} {K : Ob → Prop} {K' : Option AV → List AC → Prop} {x1 : Int} {x2 : Int} {x3 : Int} {m : Ob} (H : M_keep_90 x1 x2 x3 m K) (hK : ∀ (m' : Ob), K m' → K' none (shM m')) : EV l prog_13_method_21_code "PrunedSearchModel" 5 none 1 90 [(0, vR 0), (1, vI x1), (2, vI x2), (3, vI x3)] [] (shM m) K' := by
  refine EV_aload_n 0 d_M_keep_90 rfl rfl ?_
  refine EV_get (j := 27) d_M_keep_91 shM_0 rfl fI11 (by decide) k_981 rfl ?_
  refine EV_iload_n 3 d_M_keep_94 rfl rfl ?_
  refine EV_aload_n 0 d_M_keep_95 rfl rfl ?_
  refine EV_get (j := 11) d_M_keep_96 shM_0 rfl fI11 (by decide) k_965 rfl ?_
  refine EV_iload_n 1 d_M_keep_99 rfl rfl ?_
  obtain ⟨hi, H⟩ := H
  refine EV_iald d_M_keep_100 shM_5 hi ?_
  obtain ⟨hi, H⟩ := H
  refine EV_iast d_M_keep_101 shM_16 hi shM_16_s ?_
  refine EV_iconst d_M_keep_102 ⟨by decide, by decide⟩ ?_
  refine EV_istore (lv' := [(0, vR 0), (1, vI x1), (2, vI x2), (3, vI x3), (4, vI 0)]) [1, 2, 3, 4, 0] d_M_keep_103 (by decide) rfl ?_
  obtain ⟨n, H⟩ := H
  exact ct_M_keep_105 hK n x1 x2 x3 0 (sA m 12 x3 (m.2.1 3 x1)) H
theorem ct_M_keep_21 {l : Launch} {K : Ob → Prop} {K' : Option AV → List AC → Prop} (hK : ∀ (m' : Ob), K m' → K' none (shM m')) : ∀ (n : Nat) (x1 : Int) (x2 : Int) (x3 : Int) (x4 : Int) (m : Ob), M_keep_21 n x1 x2 x3 x4 m K → EV l prog_13_method_21_code "PrunedSearchModel" 5 none 1 21 [(0, vR 0), (1, vI x1), (2, vI x2), (3, vI x3), (4, vI x4)] [] (shM m) K' := by
  intro n
  induction n with
  | zero =>
    intro x1 x2 x3 x4 m H
    exact H.elim
  | succ n ih =>
    intro x1 x2 x3 x4 m H
    refine EV_iload 4 d_M_keep_21 rfl ?_
    refine EV_aload_n 0 d_M_keep_23 rfl rfl ?_
    refine EV_get (j := 26) d_M_keep_24 shM_0 rfl fI11 (by decide) k_980 rfl ?_
    refine EV_iload_n 3 d_M_keep_27 rfl rfl ?_
    obtain ⟨hi, H⟩ := H
    refine EV_iald d_M_keep_28 shM_15 hi ?_
    refine EV_icmp_ge (tgt := 90) d_M_keep_29 (by decide) (fun hc => ?_) (fun hc => ?_)
    · have H := H.1 hc
      refine EV_lv (lv' := [(0, vR 0), (1, vI x1), (2, vI x2), (3, vI x3)]) [0, 1, 2, 3] rfl ?_
      exact ct_M_keep_90 H hK
    · have H := H.2 hc
      refine EV_aload_n 0 d_M_keep_32 rfl rfl ?_
      refine EV_get (j := 23) d_M_keep_33 shM_0 rfl fI11 (by decide) k_977 rfl ?_
      refine EV_bipush d_M_keep_36 (by decide +kernel) ⟨by decide, by decide⟩ ?_
      refine EV_iload_n 3 d_M_keep_38 rfl rfl ?_
      obtain ⟨hr, H⟩ := H
      refine EV_imul d_M_keep_39 hr ?_
      refine EV_iload 4 d_M_keep_40 rfl ?_
      obtain ⟨hr, H⟩ := H
      refine EV_iadd d_M_keep_42 hr ?_
      refine EV_aload_n 0 d_M_keep_43 rfl rfl ?_
      refine EV_get (j := 6) d_M_keep_44 shM_0 rfl fI11 (by decide) k_960 rfl ?_
      refine EV_aload_n 0 d_M_keep_47 rfl rfl ?_
      refine EV_get (j := 10) d_M_keep_48 shM_0 rfl fI11 (by decide) k_964 rfl ?_
      refine EV_iload_n 1 d_M_keep_51 rfl rfl ?_
      obtain ⟨hi, H⟩ := H
      refine EV_iald d_M_keep_52 shM_4 hi ?_
      refine EV_iload 4 d_M_keep_53 rfl ?_
      obtain ⟨hr, H⟩ := H
      refine EV_iadd d_M_keep_55 hr ?_
      obtain ⟨hi, H⟩ := H
      refine EV_lald d_M_keep_56 shM_2 hi ?_
      obtain ⟨hi, H⟩ := H
      refine EV_last d_M_keep_57 shM_13 hi shM_13_s ?_
      refine EV_aload_n 0 d_M_keep_58 rfl rfl ?_
      refine EV_get (j := 24) d_M_keep_59 shM_0 rfl fI11 (by decide) k_978 rfl ?_
      refine EV_bipush d_M_keep_62 (by decide +kernel) ⟨by decide, by decide⟩ ?_
      refine EV_iload_n 3 d_M_keep_64 rfl rfl ?_
      obtain ⟨hr, H⟩ := H
      refine EV_imul d_M_keep_65 hr ?_
      refine EV_iload 4 d_M_keep_66 rfl ?_
      obtain ⟨hr, H⟩ := H
      refine EV_iadd d_M_keep_68 hr ?_
      refine EV_aload_n 0 d_M_keep_69 rfl rfl ?_
      refine EV_get (j := 7) d_M_keep_70 shM_0 rfl fI11 (by decide) k_961 rfl ?_
      refine EV_aload_n 0 d_M_keep_73 rfl rfl ?_
      refine EV_get (j := 10) d_M_keep_74 shM_0 rfl fI11 (by decide) k_964 rfl ?_
      refine EV_iload_n 1 d_M_keep_77 rfl rfl ?_
      obtain ⟨hi, H⟩ := H
      refine EV_iald d_M_keep_78 shM_4 hi ?_
      refine EV_iload 4 d_M_keep_79 rfl ?_
      obtain ⟨hr, H⟩ := H
      refine EV_iadd d_M_keep_81 hr ?_
      obtain ⟨hi, H⟩ := H
      refine EV_iald d_M_keep_82 shM_3 hi ?_
      obtain ⟨hi, H⟩ := H
      refine EV_iast d_M_keep_83 shM_14 hi shM_14_s ?_
      obtain ⟨hr, H⟩ := H
      refine EV_iinc (lv' := [(0, vR 0), (1, vI x1), (2, vI x2), (3, vI x3), (4, vI (x4 + 1))]) 4 [1, 2, 3, 4, 0] d_M_keep_84 rfl (by decide) hr rfl ?_
      refine EV_goto (tgt := 21) d_M_keep_87 (by decide) ?_
      exact ih x1 x2 x3 (x4 + 1) (sA (sL m 2 ((40 * x3) + x4) (m.2.2.2 0 ((m.2.1 2 x1) + x4))) 10 ((40 * x3) + x4) (m.2.1 1 ((m.2.1 2 x1) + x4))) H
theorem ct_M_keep {l : Launch} {m : Ob} {x1 : Int} {x2 : Int} {x3 : Int} {K : Ob → Prop} {K' : Option AV → List AC → Prop} (H : wp_M_keep x1 x2 x3 m K) (hK : ∀ (m' : Ob), K m' → K' none (shM m')) : MT l ⟨"PrunedSearchModel", "keep", "(III)V"⟩ prog_13_method_21_code 5 none 1 [vR 0, vI x1, vI x2, vI x3] (shM m) K' := by
  unfold wp_M_keep at H
  refine MT_of (lv := [(0, vR 0), (1, vI x1), (2, vI x2), (3, vI x3)]) rfl rfl (Nat.le_of_ble_eq_true rfl) rfl ?_
  refine EV_aload_n 0 d_M_keep_0 rfl rfl ?_
  refine EV_get (j := 26) d_M_keep_1 shM_0 rfl fI11 (by decide) k_980 rfl ?_
  refine EV_iload_n 3 d_M_keep_4 rfl rfl ?_
  refine EV_aload_n 0 d_M_keep_5 rfl rfl ?_
  refine EV_iload_n 1 d_M_keep_6 rfl rfl ?_
  refine EV_callV (as := [vI x1]) (st := [vI x3, vR 15]) d_M_keep_7 k_1196 k_1198 kp_53 k_12 k_1199 shM_0 rfl pd_14 ⟨by decide, by decide, Nat.le_of_ble_eq_true rfl⟩ rfl (ct_M_endOf H (fun r_1 H => ?_))
  refine EV_aload_n 0 d_M_keep_10 rfl rfl ?_
  refine EV_get (j := 10) d_M_keep_11 shM_0 rfl fI11 (by decide) k_964 rfl ?_
  refine EV_iload_n 1 d_M_keep_14 rfl rfl ?_
  obtain ⟨hi, H⟩ := H
  refine EV_iald d_M_keep_15 shM_4 hi ?_
  obtain ⟨hr, H⟩ := H
  refine EV_isub d_M_keep_16 hr ?_
  obtain ⟨hi, H⟩ := H
  refine EV_iast d_M_keep_17 shM_15 hi shM_15_s ?_
  refine EV_iconst d_M_keep_18 ⟨by decide, by decide⟩ ?_
  refine EV_istore (lv' := [(0, vR 0), (1, vI x1), (2, vI x2), (3, vI x3), (4, vI 0)]) [1, 2, 3, 4, 0] d_M_keep_19 (by decide) rfl ?_
  obtain ⟨n, H⟩ := H
  exact ct_M_keep_21 hK n x1 x2 x3 0 (sA m 11 x3 (r_1 - (m.2.1 2 x1))) H
theorem ct_M_consult_156 {l : Launch} {K : Int → Ob → Prop} {K' : Option AV → List AC → Prop} {m : Ob} (H : M_consult_156 m K) (hK : ∀ (r : Int) (m' : Ob), K r m' → K' (some (vI r)) (shM m')) : EV l prog_13_method_23_code "PrunedSearchModel" 6 (some .int) 4 156 [(0, vR 0)] [] (shM m) K' := by
  refine EV_aload_n 0 d_M_consult_156 rfl rfl ?_
  refine EV_get (j := 9) d_M_consult_157 shM_0 rfl fI11 (by decide) k_963 rfl ?_
  exact EV_iret d_M_consult_160 rfl (nw_int _) (hK _ _ H)
theorem ct_M_consult_107 {l : Launch} {K : Int → Ob → Prop} {K' : Option AV → List AC → Prop} (hK : ∀ (r : Int) (m' : Ob), K r m' → K' (some (vI r)) (shM m')) : ∀ (n : Nat) (x4 : Int) (x5 : Int) (m : Ob), M_consult_107 n x4 x5 m K → EV l prog_13_method_23_code "PrunedSearchModel" 6 (some .int) 4 107 [(0, vR 0), (4, vI x4), (5, vI x5)] [] (shM m) K' := by
  intro n
  induction n with
  | zero =>
    intro x4 x5 m H
    exact H.elim
  | succ n ih =>
    intro x4 x5 m H
    refine EV_iload 2 d_M_consult_107 rfl ?_
    refine EV_aload_n 0 d_M_consult_109 rfl rfl ?_
    refine EV_get (j := 9) d_M_consult_110 shM_0 rfl fI11 (by decide) k_963 rfl ?_
    refine EV_icmp_ge (tgt := 156) d_M_consult_113 (by decide) (fun hc => ?_) (fun hc => ?_)
    · have H := H.1 hc
      refine EV_lv (lv' := [(0, vR 0)]) [0] rfl ?_
      exact ct_M_consult_156 H hK
    · have H := H.2 hc
      refine EV_aload_n 0 d_M_consult_116 rfl rfl ?_
      refine EV_iload 2 d_M_consult_117 rfl ?_
      refine EV_iload 1 d_M_consult_119 rfl ?_
      refine EV_aload_n 0 d_M_consult_121 rfl rfl ?_
      refine EV_get (j := 25) d_M_consult_122 shM_0 rfl fI11 (by decide) k_979 rfl ?_
      refine EV_callV (as := [vI x5, vI x4, vI (m.1 10)]) (st := []) d_M_consult_125 k_1204 k_1206 kp_55 k_12 k_1207 shM_0 rfl pd_15 ⟨by decide, by decide, Nat.le_of_ble_eq_true rfl⟩ rfl (ct_M_keep H (fun m_6 H => ?_))
      refine EV_iload 1 d_M_consult_128 rfl ?_
      refine EV_aload_n 0 d_M_consult_130 rfl rfl ?_
      refine EV_get (j := 11) d_M_consult_131 shM_0 rfl fI11 (by decide) k_965 rfl ?_
      refine EV_iload 2 d_M_consult_134 rfl ?_
      obtain ⟨hi, H⟩ := H
      refine EV_iald d_M_consult_136 shM_5 hi ?_
      obtain ⟨hr, H⟩ := H
      refine EV_iadd d_M_consult_137 hr ?_
      refine EV_istore (lv' := [(0, vR 0), (4, vI (x4 + (m_6.2.1 3 x5))), (5, vI x5)]) [1, 0, 2] d_M_consult_138 (by decide) rfl ?_
      refine EV_aload_n 0 d_M_consult_140 rfl rfl ?_
      refine EV_aload_n 0 d_M_consult_141 rfl rfl ?_
      refine EV_get (j := 25) d_M_consult_142 shM_0 rfl fI11 (by decide) k_979 rfl ?_
      refine EV_iconst d_M_consult_145 ⟨by decide, by decide⟩ ?_
      obtain ⟨hr, H⟩ := H
      refine EV_iadd d_M_consult_146 hr ?_
      refine EV_put (j := 25) d_M_consult_147 shM_0 rfl fI11 fO11 fN11 (by decide) k_979 rfl rfl (fun ad => nf_int ad _) (Nat.le_of_ble_eq_true rfl) shM_0_25 ?_
      obtain ⟨hr, H⟩ := H
      refine EV_iinc (lv' := [(0, vR 0), (4, vI (x4 + (m_6.2.1 3 x5))), (5, vI (x5 + 1))]) 2 [1, 2, 0] d_M_consult_150 rfl (by decide) hr rfl ?_
      refine EV_goto (tgt := 107) d_M_consult_153 (by decide) ?_
      exact ih (x4 + (m_6.2.1 3 x5)) (x5 + 1) (sI m_6 10 ((m_6.1 10) + 1)) H
theorem ct_M_consult_77 {l : Launch} {K : Int → Ob → Prop} {K' : Option AV → List AC → Prop} {x2 : Int} {m : Ob} (H : M_consult_77 x2 m K) (hK : ∀ (r : Int) (m' : Ob), K r m' → K' (some (vI r)) (shM m')) : EV l prog_13_method_23_code "PrunedSearchModel" 6 (some .int) 4 77 [(0, vR 0), (2, vI x2)] [] (shM m) K' := by
  refine EV_aload_n 0 d_M_consult_77 rfl rfl ?_
  refine EV_callV (as := []) (st := []) d_M_consult_78 k_1200 k_1202 kp_54 k_12 k_1203 shM_0 rfl pd_16 ⟨by decide, by decide, Nat.le_of_ble_eq_true rfl⟩ rfl (ct_M_addNames H (fun r_5 m_4 H => ?_))
  refine EV_istore_n (lv' := [(0, vR 0), (2, vI x2), (3, vI r_5)]) [1, 2, 0] d_M_consult_81 rfl (by decide) rfl ?_
  refine EV_iload_n 1 d_M_consult_82 rfl rfl ?_
  refine EV_if_ne (tgt := 92) d_M_consult_83 (by decide) (fun hc => ?_) (fun hc => ?_)
  · have H := H.1 hc
    refine EV_sipush d_M_consult_92 (by decide +kernel) ⟨by decide, by decide⟩ ?_
    exact EV_iret d_M_consult_95 rfl (nw_int _) (hK _ _ H)
  · have H := H.2 hc
    refine EV_iload_n 2 d_M_consult_86 rfl rfl ?_
    refine EV_bipush d_M_consult_87 (by decide +kernel) ⟨by decide, by decide⟩ ?_
    refine EV_icmp_le (tgt := 96) d_M_consult_89 (by decide) (fun hc => ?_) (fun hc => ?_)
    · have H := H.1 hc
      refine EV_aload_n 0 d_M_consult_96 rfl rfl ?_
      refine EV_iload_n 2 d_M_consult_97 rfl rfl ?_
      refine EV_put (j := 29) d_M_consult_98 shM_0 rfl fI11 fO11 fN11 (by decide) k_983 rfl rfl (fun ad => nf_int ad _) (Nat.le_of_ble_eq_true rfl) shM_0_29 ?_
      refine EV_iconst d_M_consult_101 ⟨by decide, by decide⟩ ?_
      refine EV_istore (lv' := [(0, vR 0), (2, vI x2), (3, vI r_5), (4, vI 0)]) [1, 2, 3, 0] d_M_consult_102 (by decide) rfl ?_
      refine EV_iconst d_M_consult_104 ⟨by decide, by decide⟩ ?_
      refine EV_istore (lv' := [(0, vR 0), (2, vI x2), (3, vI r_5), (4, vI 0), (5, vI 0)]) [1, 2, 3, 4, 0] d_M_consult_105 (by decide) rfl ?_
      refine EV_lv (lv' := [(0, vR 0), (4, vI 0), (5, vI 0)]) [0, 3, 4] rfl ?_
      obtain ⟨n, H⟩ := H
      exact ct_M_consult_107 hK n 0 0 (sI m_4 11 r_5) H
    · have H := H.2 hc
      refine EV_sipush d_M_consult_92 (by decide +kernel) ⟨by decide, by decide⟩ ?_
      exact EV_iret d_M_consult_95 rfl (nw_int _) (hK _ _ H)
theorem ct_M_consult_70 {l : Launch} {K : Int → Ob → Prop} {K' : Option AV → List AC → Prop} {L45 : Int → Int → Ob → Prop} {x3 : Int} {s0 : Int} {m : Ob} (hL45 : ∀ (x2 : Int) (x3 : Int) (m : Ob), L45 x2 x3 m → EV l prog_13_method_23_code "PrunedSearchModel" 6 (some .int) 4 45 [(0, vR 0), (2, vI x2), (3, vI x3)] [] (shM m) K') (H : M_consult_70 L45 x3 s0 m K) (hK : ∀ (r : Int) (m' : Ob), K r m' → K' (some (vI r)) (shM m')) : EV l prog_13_method_23_code "PrunedSearchModel" 6 (some .int) 4 70 [(0, vR 0), (3, vI x3)] [vI s0] (shM m) K' := by
  refine EV_istore_n (lv' := [(0, vR 0), (2, vI s0), (3, vI x3)]) [1, 0, 2] d_M_consult_70 rfl (by decide) rfl ?_
  obtain ⟨hr, H⟩ := H
  refine EV_iinc (lv' := [(0, vR 0), (2, vI s0), (3, vI (x3 + 1))]) 2 [1, 2, 0] d_M_consult_71 rfl (by decide) hr rfl ?_
  refine EV_goto (tgt := 45) d_M_consult_74 (by decide) ?_
  exact hL45 s0 (x3 + 1) m H
theorem ct_M_consult_65 {l : Launch} {K : Int → Ob → Prop} {K' : Option AV → List AC → Prop} {L45 : Int → Int → Ob → Prop} {x3 : Int} {m : Ob} (hL45 : ∀ (x2 : Int) (x3 : Int) (m : Ob), L45 x2 x3 m → EV l prog_13_method_23_code "PrunedSearchModel" 6 (some .int) 4 45 [(0, vR 0), (2, vI x2), (3, vI x3)] [] (shM m) K') (H : M_consult_65 L45 x3 m K) (hK : ∀ (r : Int) (m' : Ob), K r m' → K' (some (vI r)) (shM m')) : EV l prog_13_method_23_code "PrunedSearchModel" 6 (some .int) 4 65 [(0, vR 0), (3, vI x3)] [] (shM m) K' := by
  refine EV_iconst d_M_consult_65 ⟨by decide, by decide⟩ ?_
  refine EV_goto (tgt := 70) d_M_consult_66 (by decide) ?_
  exact ct_M_consult_70 hL45 H hK
theorem ct_M_consult_45 {l : Launch} {K : Int → Ob → Prop} {K' : Option AV → List AC → Prop} (hK : ∀ (r : Int) (m' : Ob), K r m' → K' (some (vI r)) (shM m')) : ∀ (n : Nat) (x2 : Int) (x3 : Int) (m : Ob), M_consult_45 n x2 x3 m K → EV l prog_13_method_23_code "PrunedSearchModel" 6 (some .int) 4 45 [(0, vR 0), (2, vI x2), (3, vI x3)] [] (shM m) K' := by
  intro n
  induction n with
  | zero =>
    intro x2 x3 m H
    exact H.elim
  | succ n ih =>
    intro x2 x3 m H
    refine EV_iload_n 2 d_M_consult_45 rfl rfl ?_
    refine EV_aload_n 0 d_M_consult_46 rfl rfl ?_
    refine EV_get (j := 9) d_M_consult_47 shM_0 rfl fI11 (by decide) k_963 rfl ?_
    refine EV_icmp_ge (tgt := 77) d_M_consult_50 (by decide) (fun hc => ?_) (fun hc => ?_)
    · have H := H.1 hc
      refine EV_lv (lv' := [(0, vR 0), (2, vI x2)]) [0, 1] rfl ?_
      exact ct_M_consult_77 H hK
    · have H := H.2 hc
      refine EV_iload_n 1 d_M_consult_53 rfl rfl ?_
      refine EV_if_ne (tgt := 65) d_M_consult_54 (by decide) (fun hc => ?_) (fun hc => ?_)
      · have H := H.1 hc
        refine EV_lv (lv' := [(0, vR 0), (3, vI x3)]) [0, 2] rfl ?_
        exact ct_M_consult_65 (fun x2 x3 m' H => ih x2 x3 m' H) H hK
      · have H := H.2 hc
        refine EV_aload_n 0 d_M_consult_57 rfl rfl ?_
        refine EV_iload_n 2 d_M_consult_58 rfl rfl ?_
        refine EV_callV (as := [vI x3]) (st := []) d_M_consult_59 k_1192 k_1194 kp_52 k_12 k_1195 shM_0 rfl pd_17 ⟨by decide, by decide, Nat.le_of_ble_eq_true rfl⟩ rfl (ct_M_tooMuch H (fun r_7 H => ?_))
        refine EV_if_eq (tgt := 69) d_M_consult_62 (by decide) (fun hc => ?_) (fun hc => ?_)
        · have H := H.1 hc
          refine EV_iconst d_M_consult_69 ⟨by decide, by decide⟩ ?_
          refine EV_lv (lv' := [(0, vR 0), (3, vI x3)]) [0, 2] rfl ?_
          exact ct_M_consult_70 (fun x2 x3 m' H => ih x2 x3 m' H) H hK
        · have H := H.2 hc
          refine EV_lv (lv' := [(0, vR 0), (3, vI x3)]) [0, 2] rfl ?_
          exact ct_M_consult_65 (fun x2 x3 m' H => ih x2 x3 m' H) H hK
theorem ct_M_consult_42 {l : Launch} {K : Int → Ob → Prop} {K' : Option AV → List AC → Prop} {s0 : Int} {m : Ob} (H : M_consult_42 s0 m K) (hK : ∀ (r : Int) (m' : Ob), K r m' → K' (some (vI r)) (shM m')) : EV l prog_13_method_23_code "PrunedSearchModel" 6 (some .int) 4 42 [(0, vR 0)] [vI s0] (shM m) K' := by
  refine EV_istore_n (lv' := [(0, vR 0), (2, vI s0)]) [1, 0] d_M_consult_42 rfl (by decide) rfl ?_
  refine EV_iconst d_M_consult_43 ⟨by decide, by decide⟩ ?_
  refine EV_istore_n (lv' := [(0, vR 0), (2, vI s0), (3, vI 0)]) [1, 2, 0] d_M_consult_44 rfl (by decide) rfl ?_
  obtain ⟨n, H⟩ := H
  exact ct_M_consult_45 hK n s0 0 m H
theorem ct_M_consult {l : Launch} {m : Ob} {K : Int → Ob → Prop} {K' : Option AV → List AC → Prop} (H : wp_M_consult m K) (hK : ∀ (r : Int) (m' : Ob), K r m' → K' (some (vI r)) (shM m')) : MT l ⟨"PrunedSearchModel", "consult", "()I"⟩ prog_13_method_23_code 6 (some .int) 4 [vR 0] (shM m) K' := by
  unfold wp_M_consult at H
  refine MT_of (lv := [(0, vR 0)]) rfl rfl (Nat.le_of_ble_eq_true rfl) rfl ?_
  refine EV_aload_n 0 d_M_consult_0 rfl rfl ?_
  refine EV_iconst d_M_consult_1 ⟨by decide, by decide⟩ ?_
  refine EV_callV (as := [vI 0]) (st := []) d_M_consult_2 k_1138 k_1140 kp_39 k_12 k_1141 shM_0 rfl pd_19 ⟨by decide, by decide, Nat.le_of_ble_eq_true rfl⟩ rfl (ct_M_read H (fun r_2 m_1 H => ?_))
  refine EV_istore_n (lv' := [(0, vR 0), (1, vI r_2)]) [1, 0] d_M_consult_5 rfl (by decide) rfl ?_
  refine EV_aload_n 0 d_M_consult_6 rfl rfl ?_
  refine EV_iconst d_M_consult_7 ⟨by decide, by decide⟩ ?_
  refine EV_put (j := 1) d_M_consult_8 shM_0 rfl fI11 fO11 fN11 (by decide) k_955 rfl rfl (fun ad => nf_int ad _) (Nat.le_of_ble_eq_true rfl) shM_0_1 ?_
  refine EV_aload_n 0 d_M_consult_11 rfl rfl ?_
  refine EV_callV (as := []) (st := []) d_M_consult_12 k_1188 k_1190 kp_51 k_12 k_1191 shM_0 rfl pd_18 ⟨by decide, by decide, Nat.le_of_ble_eq_true rfl⟩ rfl (ct_M_noSearch H (fun m_3 H => ?_))
  refine EV_iload_n 1 d_M_consult_15 rfl rfl ?_
  refine EV_if_lt (tgt := 23) d_M_consult_16 (by decide) (fun hc => ?_) (fun hc => ?_)
  · have H := H.1 hc
    refine EV_aload_n 0 d_M_consult_23 rfl rfl ?_
    refine EV_get (j := 25) d_M_consult_24 shM_0 rfl fI11 (by decide) k_979 rfl ?_
    refine EV_aload_n 0 d_M_consult_27 rfl rfl ?_
    refine EV_get (j := 9) d_M_consult_28 shM_0 rfl fI11 (by decide) k_963 rfl ?_
    obtain ⟨hr, H⟩ := H
    refine EV_iadd d_M_consult_31 hr ?_
    refine EV_bipush d_M_consult_32 (by decide +kernel) ⟨by decide, by decide⟩ ?_
    refine EV_icmp_le (tgt := 41) d_M_consult_34 (by decide) (fun hc => ?_) (fun hc => ?_)
    · have H := H.1 hc
      refine EV_iconst d_M_consult_41 ⟨by decide, by decide⟩ ?_
      refine EV_lv (lv' := [(0, vR 0)]) [0] rfl ?_
      exact ct_M_consult_42 H hK
    · have H := H.2 hc
      refine EV_iconst d_M_consult_37 ⟨by decide, by decide⟩ ?_
      refine EV_goto (tgt := 42) d_M_consult_38 (by decide) ?_
      refine EV_lv (lv' := [(0, vR 0)]) [0] rfl ?_
      exact ct_M_consult_42 H hK
  · have H := H.2 hc
    refine EV_iconst d_M_consult_19 ⟨by decide, by decide⟩ ?_
    refine EV_iload_n 1 d_M_consult_20 rfl rfl ?_
    obtain ⟨hr, H⟩ := H
    refine EV_isub d_M_consult_21 hr ?_
    exact EV_iret d_M_consult_22 rfl (nw_int _) (hK _ _ H)
theorem ct_M_clearFrame_2 {l : Launch} {K : Ob → Prop} {K' : Option AV → List AC → Prop} (hK : ∀ (m' : Ob), K m' → K' none (shM m')) : ∀ (n : Nat) (x1 : Int) (x2 : Int) (m : Ob), M_clearFrame_2 n x1 x2 m K → EV l prog_13_method_32_code "PrunedSearchModel" 3 none 0 2 [(0, vR 0), (1, vI x1), (2, vI x2)] [] (shM m) K' := by
  intro n
  induction n with
  | zero =>
    intro x1 x2 m H
    exact H.elim
  | succ n ih =>
    intro x1 x2 m H
    refine EV_iload_n 2 d_M_clearFrame_2 rfl rfl ?_
    refine EV_bipush d_M_clearFrame_3 (by decide +kernel) ⟨by decide, by decide⟩ ?_
    refine EV_icmp_ge (tgt := 26) d_M_clearFrame_5 (by decide) (fun hc => ?_) (fun hc => ?_)
    · have H := H.1 hc
      exact EV_vret d_M_clearFrame_26 rfl (hK _ H)
    · have H := H.2 hc
      refine EV_aload_n 0 d_M_clearFrame_8 rfl rfl ?_
      refine EV_get (j := 46) d_M_clearFrame_9 shM_0 rfl fI11 (by decide) k_1000 rfl ?_
      refine EV_bipush d_M_clearFrame_12 (by decide +kernel) ⟨by decide, by decide⟩ ?_
      refine EV_iload_n 1 d_M_clearFrame_14 rfl rfl ?_
      obtain ⟨hr, H⟩ := H
      refine EV_imul d_M_clearFrame_15 hr ?_
      refine EV_iload_n 2 d_M_clearFrame_16 rfl rfl ?_
      obtain ⟨hr, H⟩ := H
      refine EV_iadd d_M_clearFrame_17 hr ?_
      refine EV_iconst d_M_clearFrame_18 ⟨by decide, by decide⟩ ?_
      obtain ⟨hi, H⟩ := H
      refine EV_iast d_M_clearFrame_19 shM_27 hi shM_27_s ?_
      obtain ⟨hr, H⟩ := H
      refine EV_iinc (lv' := [(0, vR 0), (1, vI x1), (2, vI (x2 + 1))]) 2 [1, 2, 0] d_M_clearFrame_20 rfl (by decide) hr rfl ?_
      refine EV_goto (tgt := 2) d_M_clearFrame_23 (by decide) ?_
      exact ih x1 (x2 + 1) (sA m 22 ((8 * x1) + x2) (-1)) H
theorem ct_M_clearFrame {l : Launch} {m : Ob} {x1 : Int} {K : Ob → Prop} {K' : Option AV → List AC → Prop} (H : wp_M_clearFrame x1 m K) (hK : ∀ (m' : Ob), K m' → K' none (shM m')) : MT l ⟨"PrunedSearchModel", "clearFrame", "(I)V"⟩ prog_13_method_32_code 3 none 0 [vR 0, vI x1] (shM m) K' := by
  unfold wp_M_clearFrame at H
  refine MT_of (lv := [(0, vR 0), (1, vI x1)]) rfl rfl (Nat.le_of_ble_eq_true rfl) rfl ?_
  refine EV_iconst d_M_clearFrame_0 ⟨by decide, by decide⟩ ?_
  refine EV_istore_n (lv' := [(0, vR 0), (1, vI x1), (2, vI 0)]) [1, 2, 0] d_M_clearFrame_1 rfl (by decide) rfl ?_
  obtain ⟨n, H⟩ := H
  exact ct_M_clearFrame_2 hK n x1 0 m H
theorem ct_M_prepend_10 {l : Launch} {K : Ob → Prop} {K' : Option AV → List AC → Prop} (hK : ∀ (m' : Ob), K m' → K' none (shM m')) : ∀ (n : Nat) (x1 : Int) (x2 : Int) (x3 : Int) (x4 : Int) (m : Ob), M_prepend_10 n x1 x2 x3 x4 m K → EV l prog_13_method_33_code "PrunedSearchModel" 5 none 0 10 [(0, vR 0), (1, vI x1), (2, vI x2), (3, vI x3), (4, vI x4)] [] (shM m) K' := by
  intro n
  induction n with
  | zero =>
    intro x1 x2 x3 x4 m H
    exact H.elim
  | succ n ih =>
    intro x1 x2 x3 x4 m H
    refine EV_iload 4 d_M_prepend_10 rfl ?_
    refine EV_if_lt (tgt := 72) d_M_prepend_12 (by decide) (fun hc => ?_) (fun hc => ?_)
    · have H := H.1 hc
      exact EV_vret d_M_prepend_72 rfl (hK _ H)
    · have H := H.2 hc
      refine EV_aload_n 0 d_M_prepend_15 rfl rfl ?_
      refine EV_get (j := 43) d_M_prepend_16 shM_0 rfl fI11 (by decide) k_997 rfl ?_
      refine EV_aload_n 0 d_M_prepend_19 rfl rfl ?_
      refine EV_get (j := 42) d_M_prepend_20 shM_0 rfl fI11 (by decide) k_996 rfl ?_
      refine EV_aload_n 0 d_M_prepend_23 rfl rfl ?_
      refine EV_get (j := 28) d_M_prepend_24 shM_0 rfl fI11 (by decide) k_982 rfl ?_
      refine EV_bipush d_M_prepend_27 (by decide +kernel) ⟨by decide, by decide⟩ ?_
      refine EV_iload_n 1 d_M_prepend_29 rfl rfl ?_
      obtain ⟨hr, H⟩ := H
      refine EV_imul d_M_prepend_30 hr ?_
      refine EV_iload 4 d_M_prepend_31 rfl ?_
      obtain ⟨hr, H⟩ := H
      refine EV_iadd d_M_prepend_33 hr ?_
      obtain ⟨hi, H⟩ := H
      refine EV_iald d_M_prepend_34 shM_17 hi ?_
      obtain ⟨hi, H⟩ := H
      refine EV_iast d_M_prepend_35 shM_24 hi shM_24_s ?_
      refine EV_aload_n 0 d_M_prepend_36 rfl rfl ?_
      refine EV_get (j := 44) d_M_prepend_37 shM_0 rfl fI11 (by decide) k_998 rfl ?_
      refine EV_aload_n 0 d_M_prepend_40 rfl rfl ?_
      refine EV_get (j := 42) d_M_prepend_41 shM_0 rfl fI11 (by decide) k_996 rfl ?_
      refine EV_iload_n 2 d_M_prepend_44 rfl rfl ?_
      obtain ⟨hi, H⟩ := H
      refine EV_iast d_M_prepend_45 shM_25 hi shM_25_s ?_
      refine EV_aload_n 0 d_M_prepend_46 rfl rfl ?_
      refine EV_get (j := 45) d_M_prepend_47 shM_0 rfl fI11 (by decide) k_999 rfl ?_
      refine EV_aload_n 0 d_M_prepend_50 rfl rfl ?_
      refine EV_get (j := 42) d_M_prepend_51 shM_0 rfl fI11 (by decide) k_996 rfl ?_
      refine EV_iload_n 3 d_M_prepend_54 rfl rfl ?_
      obtain ⟨hi, H⟩ := H
      refine EV_iast d_M_prepend_55 shM_26 hi shM_26_s ?_
      refine EV_aload_n 0 d_M_prepend_56 rfl rfl ?_
      refine EV_aload_n 0 d_M_prepend_57 rfl rfl ?_
      refine EV_get (j := 42) d_M_prepend_58 shM_0 rfl fI11 (by decide) k_996 rfl ?_
      refine EV_iconst d_M_prepend_61 ⟨by decide, by decide⟩ ?_
      obtain ⟨hr, H⟩ := H
      refine EV_iadd d_M_prepend_62 hr ?_
      refine EV_put (j := 42) d_M_prepend_63 shM_0 rfl fI11 fO11 fN11 (by decide) k_996 rfl rfl (fun ad => nf_int ad _) (Nat.le_of_ble_eq_true rfl) shM_0_42 ?_
      obtain ⟨hr, H⟩ := H
      refine EV_iinc (lv' := [(0, vR 0), (1, vI x1), (2, vI x2), (3, vI x3), (4, vI (x4 + (-1)))]) 4 [1, 2, 3, 4, 0] d_M_prepend_66 rfl (by decide) hr rfl ?_
      refine EV_goto (tgt := 10) d_M_prepend_69 (by decide) ?_
      exact ih x1 x2 x3 (x4 + (-1)) (sI (sA (sA (sA m 19 (m.1 18) (m.2.1 13 ((8 * x1) + x4))) 20 (m.1 18) x2) 21 (m.1 18) x3) 18 ((m.1 18) + 1)) H
theorem ct_M_prepend {l : Launch} {m : Ob} {x1 : Int} {x2 : Int} {x3 : Int} {K : Ob → Prop} {K' : Option AV → List AC → Prop} (H : wp_M_prepend x1 x2 x3 m K) (hK : ∀ (m' : Ob), K m' → K' none (shM m')) : MT l ⟨"PrunedSearchModel", "prepend", "(III)V"⟩ prog_13_method_33_code 5 none 0 [vR 0, vI x1, vI x2, vI x3] (shM m) K' := by
  unfold wp_M_prepend at H
  refine MT_of (lv := [(0, vR 0), (1, vI x1), (2, vI x2), (3, vI x3)]) rfl rfl (Nat.le_of_ble_eq_true rfl) rfl ?_
  refine EV_aload_n 0 d_M_prepend_0 rfl rfl ?_
  refine EV_get (j := 27) d_M_prepend_1 shM_0 rfl fI11 (by decide) k_981 rfl ?_
  refine EV_iload_n 1 d_M_prepend_4 rfl rfl ?_
  obtain ⟨hi, H⟩ := H
  refine EV_iald d_M_prepend_5 shM_16 hi ?_
  refine EV_iconst d_M_prepend_6 ⟨by decide, by decide⟩ ?_
  obtain ⟨hr, H⟩ := H
  refine EV_isub d_M_prepend_7 hr ?_
  refine EV_istore (lv' := [(0, vR 0), (1, vI x1), (2, vI x2), (3, vI x3), (4, vI ((m.2.1 12 x1) - 1))]) [1, 2, 3, 4, 0] d_M_prepend_8 (by decide) rfl ?_
  obtain ⟨n, H⟩ := H
  exact ct_M_prepend_10 hK n x1 x2 x3 ((m.2.1 12 x1) - 1) m H
theorem ct_M_begin {l : Launch} {m : Ob} {K : Ob → Prop} {K' : Option AV → List AC → Prop} (H : wp_M_begin m K) (hK : ∀ (m' : Ob), K m' → K' none (shM m')) : MT l ⟨"PrunedSearchModel", "begin", "()V"⟩ prog_13_method_34_code 1 none 1 [vR 0] (shM m) K' := by
  unfold wp_M_begin at H
  refine MT_of (lv := [(0, vR 0)]) rfl rfl (Nat.le_of_ble_eq_true rfl) rfl ?_
  refine EV_aload_n 0 d_M_begin_0 rfl rfl ?_
  refine EV_iconst d_M_begin_1 ⟨by decide, by decide⟩ ?_
  refine EV_put (j := 42) d_M_begin_2 shM_0 rfl fI11 fO11 fN11 (by decide) k_996 rfl rfl (fun ad => nf_int ad _) (Nat.le_of_ble_eq_true rfl) shM_0_42 ?_
  refine EV_aload_n 0 d_M_begin_5 rfl rfl ?_
  refine EV_iconst d_M_begin_6 ⟨by decide, by decide⟩ ?_
  refine EV_put (j := 36) d_M_begin_7 shM_0 rfl fI11 fO11 fN11 (by decide) k_990 rfl rfl (fun ad => nf_int ad _) (Nat.le_of_ble_eq_true rfl) shM_0_36 ?_
  refine EV_aload_n 0 d_M_begin_10 rfl rfl ?_
  refine EV_iconst d_M_begin_11 ⟨by decide, by decide⟩ ?_
  refine EV_callV (as := [vI 0]) (st := []) d_M_begin_12 k_1216 k_1218 kp_57 k_12 k_1219 shM_0 rfl pd_21 ⟨by decide, by decide, Nat.le_of_ble_eq_true rfl⟩ rfl (ct_M_clearFrame H (fun m_1 H => ?_))
  refine EV_aload_n 0 d_M_begin_15 rfl rfl ?_
  refine EV_bipush d_M_begin_16 (by decide +kernel) ⟨by decide, by decide⟩ ?_
  refine EV_iconst d_M_begin_18 ⟨by decide, by decide⟩ ?_
  refine EV_iconst d_M_begin_19 ⟨by decide, by decide⟩ ?_
  refine EV_callV (as := [vI 24, vI 0, vI 0]) (st := []) d_M_begin_20 k_1220 k_1222 kp_58 k_12 k_1223 shM_0 rfl pd_20 ⟨by decide, by decide, Nat.le_of_ble_eq_true rfl⟩ rfl (ct_M_prepend H (fun m_2 H => ?_))
  exact EV_vret d_M_begin_23 rfl (hK _ H)
theorem ct_M_ask_122 {l : Launch} {K : Int → Ob → Prop} {K' : Option AV → List AC → Prop} {m : Ob} (H : M_ask_122 m K) (hK : ∀ (r : Int) (m' : Ob), K r m' → K' (some (vI r)) (shM m')) : EV l prog_13_method_24_code "PrunedSearchModel" 4 (some .int) 4 122 [(0, vR 0)] [] (shM m) K' := by
  refine EV_aload_n 0 d_M_ask_122 rfl rfl ?_
  refine EV_iconst d_M_ask_123 ⟨by decide, by decide⟩ ?_
  refine EV_put (j := 33) d_M_ask_124 shM_0 rfl fI11 fO11 fN11 (by decide) k_987 rfl rfl (fun ad => nf_int ad _) (Nat.le_of_ble_eq_true rfl) shM_0_33 ?_
  refine EV_aload_n 0 d_M_ask_127 rfl rfl ?_
  refine EV_callV (as := []) (st := []) d_M_ask_128 k_1212 k_1214 kp_56 k_12 k_1215 shM_0 rfl pd_22 ⟨by decide, by decide, Nat.le_of_ble_eq_true rfl⟩ rfl (ct_M_begin H (fun m_8 H => ?_))
  refine EV_aload_n 0 d_M_ask_131 rfl rfl ?_
  refine EV_get (j := 31) d_M_ask_132 shM_0 rfl fI11 (by decide) k_985 rfl ?_
  exact EV_iret d_M_ask_135 rfl (nw_int _) (hK _ _ H)
theorem ct_M_ask_116 {l : Launch} {K : Int → Ob → Prop} {K' : Option AV → List AC → Prop} {L66 : Int → Ob → Prop} {x3 : Int} {m : Ob} (hL66 : ∀ (x3 : Int) (m : Ob), L66 x3 m → EV l prog_13_method_24_code "PrunedSearchModel" 4 (some .int) 4 66 [(0, vR 0), (3, vI x3)] [] (shM m) K') (H : M_ask_116 L66 x3 m K) (hK : ∀ (r : Int) (m' : Ob), K r m' → K' (some (vI r)) (shM m')) : EV l prog_13_method_24_code "PrunedSearchModel" 4 (some .int) 4 116 [(0, vR 0), (3, vI x3)] [] (shM m) K' := by
  obtain ⟨hr, H⟩ := H
  refine EV_iinc (lv' := [(0, vR 0), (3, vI (x3 + 1))]) 1 [1, 0] d_M_ask_116 rfl (by decide) hr rfl ?_
  refine EV_goto (tgt := 66) d_M_ask_119 (by decide) ?_
  exact hL66 (x3 + 1) m H
theorem ct_M_ask_66 {l : Launch} {K : Int → Ob → Prop} {K' : Option AV → List AC → Prop} (hK : ∀ (r : Int) (m' : Ob), K r m' → K' (some (vI r)) (shM m')) : ∀ (n : Nat) (x3 : Int) (m : Ob), M_ask_66 n x3 m K → EV l prog_13_method_24_code "PrunedSearchModel" 4 (some .int) 4 66 [(0, vR 0), (3, vI x3)] [] (shM m) K' := by
  intro n
  induction n with
  | zero =>
    intro x3 m H
    exact H.elim
  | succ n ih =>
    intro x3 m H
    refine EV_iload_n 1 d_M_ask_66 rfl rfl ?_
    refine EV_aload_n 0 d_M_ask_67 rfl rfl ?_
    refine EV_get (j := 17) d_M_ask_68 shM_0 rfl fI11 (by decide) k_971 rfl ?_
    refine EV_icmp_ge (tgt := 122) d_M_ask_71 (by decide) (fun hc => ?_) (fun hc => ?_)
    · have H := H.1 hc
      refine EV_lv (lv' := [(0, vR 0)]) [0] rfl ?_
      exact ct_M_ask_122 H hK
    · have H := H.2 hc
      refine EV_aload_n 0 d_M_ask_74 rfl rfl ?_
      refine EV_get (j := 15) d_M_ask_75 shM_0 rfl fI11 (by decide) k_969 rfl ?_
      refine EV_iload_n 1 d_M_ask_78 rfl rfl ?_
      obtain ⟨hi, H⟩ := H
      refine EV_lald d_M_ask_79 shM_8 hi ?_
      refine EV_ldc2 (n := 95) d_M_ask_80 k_1183 (by decide +kernel) (by decide) ?_
      refine EV_lcmp_eq (tgt := 116) d_M_ask_83 d_M_ask_84 (by decide) (fun hc => ?_) (fun hc => ?_)
      · have H := H.1 hc
        exact ct_M_ask_116 (fun x3 m' H => ih x3 m' H) H hK
      · have H := H.2 hc
        refine EV_aload_n 0 d_M_ask_87 rfl rfl ?_
        refine EV_get (j := 32) d_M_ask_88 shM_0 rfl fI11 (by decide) k_986 rfl ?_
        refine EV_aload_n 0 d_M_ask_91 rfl rfl ?_
        refine EV_get (j := 31) d_M_ask_92 shM_0 rfl fI11 (by decide) k_985 rfl ?_
        refine EV_sipush d_M_ask_95 (by decide +kernel) ⟨by decide, by decide⟩ ?_
        refine EV_aload_n 0 d_M_ask_98 rfl rfl ?_
        refine EV_get (j := 16) d_M_ask_99 shM_0 rfl fI11 (by decide) k_970 rfl ?_
        refine EV_iload_n 1 d_M_ask_102 rfl rfl ?_
        obtain ⟨hi, H⟩ := H
        refine EV_iald d_M_ask_103 shM_9 hi ?_
        obtain ⟨hr, H⟩ := H
        refine EV_iadd d_M_ask_104 hr ?_
        obtain ⟨hi, H⟩ := H
        refine EV_iast d_M_ask_105 shM_19 hi shM_19_s ?_
        refine EV_aload_n 0 d_M_ask_106 rfl rfl ?_
        refine EV_aload_n 0 d_M_ask_107 rfl rfl ?_
        refine EV_get (j := 31) d_M_ask_108 shM_0 rfl fI11 (by decide) k_985 rfl ?_
        refine EV_iconst d_M_ask_111 ⟨by decide, by decide⟩ ?_
        obtain ⟨hr, H⟩ := H
        refine EV_iadd d_M_ask_112 hr ?_
        refine EV_put (j := 31) d_M_ask_113 shM_0 rfl fI11 fO11 fN11 (by decide) k_985 rfl rfl (fun ad => nf_int ad _) (Nat.le_of_ble_eq_true rfl) shM_0_31 ?_
        exact ct_M_ask_116 (fun x3 m' H => ih x3 m' H) H hK
theorem ct_M_ask {l : Launch} {m : Ob} {K : Int → Ob → Prop} {K' : Option AV → List AC → Prop} (H : wp_M_ask m K) (hK : ∀ (r : Int) (m' : Ob), K r m' → K' (some (vI r)) (shM m')) : MT l ⟨"PrunedSearchModel", "ask", "()I"⟩ prog_13_method_24_code 4 (some .int) 4 [vR 0] (shM m) K' := by
  unfold wp_M_ask at H
  refine MT_of (lv := [(0, vR 0)]) rfl rfl (Nat.le_of_ble_eq_true rfl) rfl ?_
  refine EV_aload_n 0 d_M_ask_0 rfl rfl ?_
  refine EV_iconst d_M_ask_1 ⟨by decide, by decide⟩ ?_
  refine EV_callV (as := [vI 1]) (st := []) d_M_ask_2 k_1138 k_1140 kp_39 k_12 k_1141 shM_0 rfl pd_19 ⟨by decide, by decide, Nat.le_of_ble_eq_true rfl⟩ rfl (ct_M_read H (fun r_2 m_1 H => ?_))
  refine EV_istore_n (lv' := [(0, vR 0), (1, vI r_2)]) [1, 0] d_M_ask_5 rfl (by decide) rfl ?_
  refine EV_aload_n 0 d_M_ask_6 rfl rfl ?_
  refine EV_iconst d_M_ask_7 ⟨by decide, by decide⟩ ?_
  refine EV_put (j := 1) d_M_ask_8 shM_0 rfl fI11 fO11 fN11 (by decide) k_955 rfl rfl (fun ad => nf_int ad _) (Nat.le_of_ble_eq_true rfl) shM_0_1 ?_
  refine EV_aload_n 0 d_M_ask_11 rfl rfl ?_
  refine EV_callV (as := []) (st := []) d_M_ask_12 k_1188 k_1190 kp_51 k_12 k_1191 shM_0 rfl pd_18 ⟨by decide, by decide, Nat.le_of_ble_eq_true rfl⟩ rfl (ct_M_noSearch H (fun m_3 H => ?_))
  refine EV_iload_n 1 d_M_ask_15 rfl rfl ?_
  refine EV_if_lt (tgt := 23) d_M_ask_16 (by decide) (fun hc => ?_) (fun hc => ?_)
  · have H := H.1 hc
    refine EV_aload_n 0 d_M_ask_23 rfl rfl ?_
    refine EV_callV (as := []) (st := []) d_M_ask_24 k_1200 k_1202 kp_54 k_12 k_1203 shM_0 rfl pd_16 ⟨by decide, by decide, Nat.le_of_ble_eq_true rfl⟩ rfl (ct_M_addNames H (fun r_5 m_4 H => ?_))
    refine EV_istore_n (lv' := [(0, vR 0), (1, vI r_2), (2, vI r_5)]) [1, 2, 0] d_M_ask_27 rfl (by decide) rfl ?_
    refine EV_aload_n 0 d_M_ask_28 rfl rfl ?_
    refine EV_iconst d_M_ask_29 ⟨by decide, by decide⟩ ?_
    refine EV_callV (as := [vI 0]) (st := []) d_M_ask_30 k_1192 k_1194 kp_52 k_12 k_1195 shM_0 rfl pd_17 ⟨by decide, by decide, Nat.le_of_ble_eq_true rfl⟩ rfl (ct_M_tooMuch H (fun r_6 H => ?_))
    refine EV_if_ne (tgt := 42) d_M_ask_33 (by decide) (fun hc => ?_) (fun hc => ?_)
    · have H := H.1 hc
      refine EV_sipush d_M_ask_42 (by decide +kernel) ⟨by decide, by decide⟩ ?_
      exact EV_iret d_M_ask_45 rfl (nw_int _) (hK _ _ H)
    · have H := H.2 hc
      refine EV_iload_n 2 d_M_ask_36 rfl rfl ?_
      refine EV_bipush d_M_ask_37 (by decide +kernel) ⟨by decide, by decide⟩ ?_
      refine EV_icmp_le (tgt := 46) d_M_ask_39 (by decide) (fun hc => ?_) (fun hc => ?_)
      · have H := H.1 hc
        refine EV_aload_n 0 d_M_ask_46 rfl rfl ?_
        refine EV_iload_n 2 d_M_ask_47 rfl rfl ?_
        refine EV_put (j := 29) d_M_ask_48 shM_0 rfl fI11 fO11 fN11 (by decide) k_983 rfl rfl (fun ad => nf_int ad _) (Nat.le_of_ble_eq_true rfl) shM_0_29 ?_
        refine EV_aload_n 0 d_M_ask_51 rfl rfl ?_
        refine EV_iconst d_M_ask_52 ⟨by decide, by decide⟩ ?_
        refine EV_iconst d_M_ask_53 ⟨by decide, by decide⟩ ?_
        refine EV_bipush d_M_ask_54 (by decide +kernel) ⟨by decide, by decide⟩ ?_
        refine EV_callV (as := [vI 0, vI 0, vI 24]) (st := []) d_M_ask_56 k_1204 k_1206 kp_55 k_12 k_1207 shM_0 rfl pd_15 ⟨by decide, by decide, Nat.le_of_ble_eq_true rfl⟩ rfl (ct_M_keep H (fun m_7 H => ?_))
        refine EV_aload_n 0 d_M_ask_59 rfl rfl ?_
        refine EV_iconst d_M_ask_60 ⟨by decide, by decide⟩ ?_
        refine EV_put (j := 31) d_M_ask_61 shM_0 rfl fI11 fO11 fN11 (by decide) k_985 rfl rfl (fun ad => nf_int ad _) (Nat.le_of_ble_eq_true rfl) shM_0_31 ?_
        refine EV_iconst d_M_ask_64 ⟨by decide, by decide⟩ ?_
        refine EV_istore_n (lv' := [(0, vR 0), (1, vI r_2), (2, vI r_5), (3, vI 0)]) [1, 2, 3, 0] d_M_ask_65 rfl (by decide) rfl ?_
        refine EV_lv (lv' := [(0, vR 0), (3, vI 0)]) [0, 3] rfl ?_
        obtain ⟨n, H⟩ := H
        exact ct_M_ask_66 hK n 0 (sI m_7 12 0) H
      · have H := H.2 hc
        refine EV_sipush d_M_ask_42 (by decide +kernel) ⟨by decide, by decide⟩ ?_
        exact EV_iret d_M_ask_45 rfl (nw_int _) (hK _ _ H)
  · have H := H.2 hc
    refine EV_iconst d_M_ask_19 ⟨by decide, by decide⟩ ?_
    refine EV_iload_n 1 d_M_ask_20 rfl rfl ?_
    obtain ⟨hr, H⟩ := H
    refine EV_isub d_M_ask_21 hr ?_
    exact EV_iret d_M_ask_22 rfl (nw_int _) (hK _ _ H)
theorem ct_M_end {l : Launch} {m : Ob} {x1 : Int} {K : Ob → Prop} {K' : Option AV → List AC → Prop} (H : wp_M_end x1 m K) (hK : ∀ (m' : Ob), K m' → K' none (shM m')) : MT l ⟨"PrunedSearchModel", "end", "(I)V"⟩ prog_13_method_40_code 2 none 0 [vR 0, vI x1] (shM m) K' := by
  unfold wp_M_end at H
  refine MT_of (lv := [(0, vR 0), (1, vI x1)]) rfl rfl (Nat.le_of_ble_eq_true rfl) rfl ?_
  refine EV_aload_n 0 d_M_end_0 rfl rfl ?_
  refine EV_iconst d_M_end_1 ⟨by decide, by decide⟩ ?_
  refine EV_put (j := 33) d_M_end_2 shM_0 rfl fI11 fO11 fN11 (by decide) k_987 rfl rfl (fun ad => nf_int ad _) (Nat.le_of_ble_eq_true rfl) shM_0_33 ?_
  refine EV_aload_n 0 d_M_end_5 rfl rfl ?_
  refine EV_iload_n 1 d_M_end_6 rfl rfl ?_
  refine EV_put (j := 34) d_M_end_7 shM_0 rfl fI11 fO11 fN11 (by decide) k_988 rfl rfl (fun ad => nf_int ad _) (Nat.le_of_ble_eq_true rfl) shM_0_34 ?_
  exact EV_vret d_M_end_10 rfl (hK _ H)
theorem ct_M_isWordAlone {l : Launch} {m : Ob} {x1 : Int} {y2 : Nat} {K : Int → Prop} {K' : Option AV → List AC → Prop} (H : wp_M_isWordAlone x1 y2 m K) (hK : ∀ (r : Int), K r → K' (some (vI r)) (shM m)) : MT l ⟨"PrunedSearchModel", "isWordAlone", "(IJ)Z"⟩ prog_13_method_35_code 4 (some .boolean) 0 [vR 0, vI x1, vL y2] (shM m) K' := by
  unfold wp_M_isWordAlone at H
  refine MT_of (lv := [(0, vR 0), (1, vI x1), (2, vL y2)]) rfl rfl (Nat.le_of_ble_eq_true rfl) rfl ?_
  refine EV_aload_n 0 d_M_isWordAlone_0 rfl rfl ?_
  refine EV_get (j := 24) d_M_isWordAlone_1 shM_0 rfl fI11 (by decide) k_978 rfl ?_
  refine EV_iload_n 1 d_M_isWordAlone_4 rfl rfl ?_
  obtain ⟨hi, H⟩ := H
  refine EV_iald d_M_isWordAlone_5 shM_14 hi ?_
  refine EV_if_ne (tgt := 24) d_M_isWordAlone_6 (by decide) (fun hc => ?_) (fun hc => ?_)
  · have H := H.1 hc
    refine EV_iconst d_M_isWordAlone_24 ⟨by decide, by decide⟩ ?_
    exact EV_iret d_M_isWordAlone_25 rfl (nw_bool (by decide)) (hK _ H)
  · have H := H.2 hc
    refine EV_aload_n 0 d_M_isWordAlone_9 rfl rfl ?_
    refine EV_get (j := 23) d_M_isWordAlone_10 shM_0 rfl fI11 (by decide) k_977 rfl ?_
    refine EV_iload_n 1 d_M_isWordAlone_13 rfl rfl ?_
    obtain ⟨hi, H⟩ := H
    refine EV_lald d_M_isWordAlone_14 shM_13 hi ?_
    refine EV_lload_n 2 d_M_isWordAlone_15 rfl rfl ?_
    refine EV_lcmp_ne (tgt := 24) d_M_isWordAlone_16 d_M_isWordAlone_17 (by decide) (fun hc => ?_) (fun hc => ?_)
    · have H := H.1 hc
      refine EV_iconst d_M_isWordAlone_24 ⟨by decide, by decide⟩ ?_
      exact EV_iret d_M_isWordAlone_25 rfl (nw_bool (by decide)) (hK _ H)
    · have H := H.2 hc
      refine EV_iconst d_M_isWordAlone_20 ⟨by decide, by decide⟩ ?_
      refine EV_goto (tgt := 25) d_M_isWordAlone_21 (by decide) ?_
      exact EV_iret d_M_isWordAlone_25 rfl (nw_bool (by decide)) (hK _ H)
theorem ct_M_follow_12 {l : Launch} {K : Ob → Prop} {K' : Option AV → List AC → Prop} (hK : ∀ (m' : Ob), K m' → K' none (shM m')) : ∀ (n : Nat) (x3 : Int) (m : Ob), M_follow_12 n x3 m K → EV l prog_13_method_26_code "PrunedSearchModel" 5 none 0 12 [(0, vR 0), (3, vI x3)] [] (shM m) K' := by
  intro n
  induction n with
  | zero =>
    intro x3 m H
    exact H.elim
  | succ n ih =>
    intro x3 m H
    refine EV_iload_n 1 d_M_follow_12 rfl rfl ?_
    refine EV_sipush d_M_follow_13 (by decide +kernel) ⟨by decide, by decide⟩ ?_
    refine EV_icmp_ge (tgt := 91) d_M_follow_16 (by decide) (fun hc => ?_) (fun hc => ?_)
    · have H := H.1 hc
      exact EV_vret d_M_follow_91 rfl (hK _ H)
    · have H := H.2 hc
      refine EV_aload_n 0 d_M_follow_19 rfl rfl ?_
      refine EV_get (j := 24) d_M_follow_20 shM_0 rfl fI11 (by decide) k_978 rfl ?_
      refine EV_aload_n 0 d_M_follow_23 rfl rfl ?_
      refine EV_get (j := 48) d_M_follow_24 shM_0 rfl fI11 (by decide) k_1002 rfl ?_
      obtain ⟨hi, H⟩ := H
      refine EV_iald d_M_follow_27 shM_14 hi ?_
      refine EV_iconst d_M_follow_28 ⟨by decide, by decide⟩ ?_
      refine EV_icmp_ne (tgt := 91) d_M_follow_29 (by decide) (fun hc => ?_) (fun hc => ?_)
      · have H := H.1 hc
        exact EV_vret d_M_follow_91 rfl (hK _ H)
      · have H := H.2 hc
        refine EV_bipush d_M_follow_32 (by decide +kernel) ⟨by decide, by decide⟩ ?_
        refine EV_aload_n 0 d_M_follow_34 rfl rfl ?_
        refine EV_get (j := 49) d_M_follow_35 shM_0 rfl fI11 (by decide) k_1003 rfl ?_
        obtain ⟨hr, H⟩ := H
        refine EV_imul d_M_follow_38 hr ?_
        refine EV_aload_n 0 d_M_follow_39 rfl rfl ?_
        refine EV_get (j := 23) d_M_follow_40 shM_0 rfl fI11 (by decide) k_977 rfl ?_
        refine EV_aload_n 0 d_M_follow_43 rfl rfl ?_
        refine EV_get (j := 48) d_M_follow_44 shM_0 rfl fI11 (by decide) k_1002 rfl ?_
        obtain ⟨hi, H⟩ := H
        refine EV_lald d_M_follow_47 shM_13 hi ?_
        obtain ⟨h0, H⟩ := H
        refine EV_l2i d_M_follow_48 h0 ?_
        obtain ⟨hr, H⟩ := H
        refine EV_iadd d_M_follow_49 hr ?_
        refine EV_istore (lv' := [(0, vR 0), (3, vI x3), (4, vI ((8 * (m.1 20)) + (((m.2.2.2 2 (m.1 19)) : Nat) : Int)))]) [1, 2, 0] d_M_follow_50 (by decide) rfl ?_
        refine EV_aload_n 0 d_M_follow_52 rfl rfl ?_
        refine EV_get (j := 46) d_M_follow_53 shM_0 rfl fI11 (by decide) k_1000 rfl ?_
        refine EV_iload 2 d_M_follow_56 rfl ?_
        obtain ⟨hi, H⟩ := H
        refine EV_iald d_M_follow_58 shM_27 hi ?_
        refine EV_if_ge (tgt := 63) d_M_follow_59 (by decide) (fun hc => ?_) (fun hc => ?_)
        · have H := H.1 hc
          refine EV_aload_n 0 d_M_follow_63 rfl rfl ?_
          refine EV_aload_n 0 d_M_follow_64 rfl rfl ?_
          refine EV_get (j := 46) d_M_follow_65 shM_0 rfl fI11 (by decide) k_1000 rfl ?_
          refine EV_iload 2 d_M_follow_68 rfl ?_
          obtain ⟨hi, H⟩ := H
          refine EV_iald d_M_follow_70 shM_27 hi ?_
          refine EV_put (j := 48) d_M_follow_71 shM_0 rfl fI11 fO11 fN11 (by decide) k_1002 rfl rfl (fun ad => nf_int ad _) (Nat.le_of_ble_eq_true rfl) shM_0_48 ?_
          refine EV_aload_n 0 d_M_follow_74 rfl rfl ?_
          refine EV_aload_n 0 d_M_follow_75 rfl rfl ?_
          refine EV_get (j := 47) d_M_follow_76 shM_0 rfl fI11 (by decide) k_1001 rfl ?_
          refine EV_iload 2 d_M_follow_79 rfl ?_
          obtain ⟨hi, H⟩ := H
          refine EV_iald d_M_follow_81 shM_28 hi ?_
          refine EV_put (j := 49) d_M_follow_82 shM_0 rfl fI11 fO11 fN11 (by decide) k_1003 rfl rfl (fun ad => nf_int ad _) (Nat.le_of_ble_eq_true rfl) shM_0_49 ?_
          obtain ⟨hr, H⟩ := H
          refine EV_iinc (lv' := [(0, vR 0), (3, vI (x3 + 1)), (4, vI ((8 * (m.1 20)) + (((m.2.2.2 2 (m.1 19)) : Nat) : Int)))]) 1 [1, 0, 2] d_M_follow_85 rfl (by decide) hr rfl ?_
          refine EV_goto (tgt := 12) d_M_follow_88 (by decide) ?_
          refine EV_lv (lv' := [(0, vR 0), (3, vI (x3 + 1))]) [0, 1] rfl ?_
          exact ih (x3 + 1) (sI (sI m 19 (m.2.1 22 ((8 * (m.1 20)) + (((m.2.2.2 2 (m.1 19)) : Nat) : Int)))) 20 (m.2.1 23 ((8 * (m.1 20)) + (((m.2.2.2 2 (m.1 19)) : Nat) : Int)))) H
        · have H := H.2 hc
          exact EV_vret d_M_follow_62 rfl (hK _ H)
theorem ct_M_follow {l : Launch} {m : Ob} {x1 : Int} {x2 : Int} {K : Ob → Prop} {K' : Option AV → List AC → Prop} (H : wp_M_follow x1 x2 m K) (hK : ∀ (m' : Ob), K m' → K' none (shM m')) : MT l ⟨"PrunedSearchModel", "follow", "(II)V"⟩ prog_13_method_26_code 5 none 0 [vR 0, vI x1, vI x2] (shM m) K' := by
  unfold wp_M_follow at H
  refine MT_of (lv := [(0, vR 0), (1, vI x1), (2, vI x2)]) rfl rfl (Nat.le_of_ble_eq_true rfl) rfl ?_
  refine EV_aload_n 0 d_M_follow_0 rfl rfl ?_
  refine EV_iload_n 1 d_M_follow_1 rfl rfl ?_
  refine EV_put (j := 48) d_M_follow_2 shM_0 rfl fI11 fO11 fN11 (by decide) k_1002 rfl rfl (fun ad => nf_int ad _) (Nat.le_of_ble_eq_true rfl) shM_0_48 ?_
  refine EV_aload_n 0 d_M_follow_5 rfl rfl ?_
  refine EV_iload_n 2 d_M_follow_6 rfl rfl ?_
  refine EV_put (j := 49) d_M_follow_7 shM_0 rfl fI11 fO11 fN11 (by decide) k_1003 rfl rfl (fun ad => nf_int ad _) (Nat.le_of_ble_eq_true rfl) shM_0_49 ?_
  refine EV_iconst d_M_follow_10 ⟨by decide, by decide⟩ ?_
  refine EV_istore_n (lv' := [(0, vR 0), (1, vI x1), (2, vI x2), (3, vI 0)]) [1, 2, 3, 0] d_M_follow_11 rfl (by decide) rfl ?_
  refine EV_lv (lv' := [(0, vR 0), (3, vI 0)]) [0, 3] rfl ?_
  obtain ⟨n, H⟩ := H
  exact ct_M_follow_12 hK n 0 (sI (sI m 19 x1) 20 x2) H
theorem ct_M_candidate_159 {l : Launch} {K : Int → Ob → Prop} {K' : Option AV → List AC → Prop} {L5 : Int → Int → Int → Ob → Prop} {x1 : Int} {x2 : Int} {x4 : Int} {x6 : Int} {m : Ob} (hL5 : ∀ (x1 : Int) (x2 : Int) (x4 : Int) (m : Ob), L5 x1 x2 x4 m → EV l prog_13_method_38_code "PrunedSearchModel" 8 (some .int) 1 5 [(0, vR 0), (1, vI x1), (2, vI x2), (4, vI x4)] [] (shM m) K') (H : M_candidate_159 L5 x1 x2 x4 x6 m K) (hK : ∀ (r : Int) (m' : Ob), K r m' → K' (some (vI r)) (shM m')) : EV l prog_13_method_38_code "PrunedSearchModel" 8 (some .int) 1 159 [(0, vR 0), (1, vI x1), (2, vI x2), (4, vI x4), (6, vI x6)] [] (shM m) K' := by
  refine EV_iload 4 d_M_candidate_159 rfl ?_
  refine EV_if_eq (tgt := 167) d_M_candidate_161 (by decide) (fun hc => ?_) (fun hc => ?_)
  · have H := H.1 hc
    obtain ⟨hr, H⟩ := H
    refine EV_iinc (lv' := [(0, vR 0), (1, vI x1), (2, vI x2), (4, vI (x4 + 1)), (6, vI x6)]) 3 [1, 2, 3, 0, 4] d_M_candidate_167 rfl (by decide) hr rfl ?_
    refine EV_goto (tgt := 5) d_M_candidate_170 (by decide) ?_
    refine EV_lv (lv' := [(0, vR 0), (1, vI x1), (2, vI x2), (4, vI (x4 + 1))]) [0, 1, 2, 3] rfl ?_
    exact hL5 x1 x2 (x4 + 1) m H
  · have H := H.2 hc
    refine EV_iload 3 d_M_candidate_164 rfl ?_
    exact EV_iret d_M_candidate_166 rfl (nw_int _) (hK _ _ H)
theorem ct_M_candidate_157 {l : Launch} {K : Int → Ob → Prop} {K' : Option AV → List AC → Prop} {L5 : Int → Int → Int → Ob → Prop} {x1 : Int} {x2 : Int} {x4 : Int} {s0 : Int} {m : Ob} (hL5 : ∀ (x1 : Int) (x2 : Int) (x4 : Int) (m : Ob), L5 x1 x2 x4 m → EV l prog_13_method_38_code "PrunedSearchModel" 8 (some .int) 1 5 [(0, vR 0), (1, vI x1), (2, vI x2), (4, vI x4)] [] (shM m) K') (H : M_candidate_157 L5 x1 x2 x4 s0 m K) (hK : ∀ (r : Int) (m' : Ob), K r m' → K' (some (vI r)) (shM m')) : EV l prog_13_method_38_code "PrunedSearchModel" 8 (some .int) 1 157 [(0, vR 0), (1, vI x1), (2, vI x2), (4, vI x4)] [vI s0] (shM m) K' := by
  refine EV_istore (lv' := [(0, vR 0), (1, vI x1), (2, vI x2), (4, vI x4), (6, vI s0)]) [1, 2, 3, 4, 0] d_M_candidate_157 (by decide) rfl ?_
  exact ct_M_candidate_159 hL5 H hK
theorem ct_M_candidate_152 {l : Launch} {K : Int → Ob → Prop} {K' : Option AV → List AC → Prop} {L5 : Int → Int → Int → Ob → Prop} {x1 : Int} {x2 : Int} {x4 : Int} {m : Ob} (hL5 : ∀ (x1 : Int) (x2 : Int) (x4 : Int) (m : Ob), L5 x1 x2 x4 m → EV l prog_13_method_38_code "PrunedSearchModel" 8 (some .int) 1 5 [(0, vR 0), (1, vI x1), (2, vI x2), (4, vI x4)] [] (shM m) K') (H : M_candidate_152 L5 x1 x2 x4 m K) (hK : ∀ (r : Int) (m' : Ob), K r m' → K' (some (vI r)) (shM m')) : EV l prog_13_method_38_code "PrunedSearchModel" 8 (some .int) 1 152 [(0, vR 0), (1, vI x1), (2, vI x2), (4, vI x4)] [] (shM m) K' := by
  refine EV_iconst d_M_candidate_152 ⟨by decide, by decide⟩ ?_
  refine EV_goto (tgt := 157) d_M_candidate_153 (by decide) ?_
  exact ct_M_candidate_157 hL5 H hK
theorem ct_M_candidate_156 {l : Launch} {K : Int → Ob → Prop} {K' : Option AV → List AC → Prop} {L5 : Int → Int → Int → Ob → Prop} {x1 : Int} {x2 : Int} {x4 : Int} {m : Ob} (hL5 : ∀ (x1 : Int) (x2 : Int) (x4 : Int) (m : Ob), L5 x1 x2 x4 m → EV l prog_13_method_38_code "PrunedSearchModel" 8 (some .int) 1 5 [(0, vR 0), (1, vI x1), (2, vI x2), (4, vI x4)] [] (shM m) K') (H : M_candidate_156 L5 x1 x2 x4 m K) (hK : ∀ (r : Int) (m' : Ob), K r m' → K' (some (vI r)) (shM m')) : EV l prog_13_method_38_code "PrunedSearchModel" 8 (some .int) 1 156 [(0, vR 0), (1, vI x1), (2, vI x2), (4, vI x4)] [] (shM m) K' := by
  refine EV_iconst d_M_candidate_156 ⟨by decide, by decide⟩ ?_
  exact ct_M_candidate_157 hL5 H hK
theorem ct_M_candidate_59 {l : Launch} {K : Int → Ob → Prop} {K' : Option AV → List AC → Prop} {L5 : Int → Int → Int → Ob → Prop} {x1 : Int} {x2 : Int} {x4 : Int} {x5 : Int} {s0 : Int} {m : Ob} (hL5 : ∀ (x1 : Int) (x2 : Int) (x4 : Int) (m : Ob), L5 x1 x2 x4 m → EV l prog_13_method_38_code "PrunedSearchModel" 8 (some .int) 1 5 [(0, vR 0), (1, vI x1), (2, vI x2), (4, vI x4)] [] (shM m) K') (H : M_candidate_59 L5 x1 x2 x4 x5 s0 m K) (hK : ∀ (r : Int) (m' : Ob), K r m' → K' (some (vI r)) (shM m')) : EV l prog_13_method_38_code "PrunedSearchModel" 8 (some .int) 1 59 [(0, vR 0), (1, vI x1), (2, vI x2), (4, vI x4), (5, vI x5)] [vI s0] (shM m) K' := by
  refine EV_istore (lv' := [(0, vR 0), (1, vI x1), (2, vI x2), (4, vI x4), (5, vI x5), (6, vI s0)]) [1, 2, 3, 4, 5, 0] d_M_candidate_59 (by decide) rfl ?_
  refine EV_iload 5 d_M_candidate_61 rfl ?_
  refine EV_if_eq (tgt := 159) d_M_candidate_63 (by decide) (fun hc => ?_) (fun hc => ?_)
  · have H := H.1 hc
    refine EV_lv (lv' := [(0, vR 0), (1, vI x1), (2, vI x2), (4, vI x4), (6, vI s0)]) [0, 1, 2, 3, 5] rfl ?_
    exact ct_M_candidate_159 hL5 H hK
  · have H := H.2 hc
    refine EV_aload_n 0 d_M_candidate_66 rfl rfl ?_
    refine EV_get (j := 24) d_M_candidate_67 shM_0 rfl fI11 (by decide) k_978 rfl ?_
    refine EV_iload_n 1 d_M_candidate_70 rfl rfl ?_
    obtain ⟨hi, H⟩ := H
    refine EV_iald d_M_candidate_71 shM_14 hi ?_
    refine EV_if_le (tgt := 159) d_M_candidate_72 (by decide) (fun hc => ?_) (fun hc => ?_)
    · have H := H.1 hc
      refine EV_lv (lv' := [(0, vR 0), (1, vI x1), (2, vI x2), (4, vI x4), (6, vI s0)]) [0, 1, 2, 3, 5] rfl ?_
      exact ct_M_candidate_159 hL5 H hK
    · have H := H.2 hc
      refine EV_aload_n 0 d_M_candidate_75 rfl rfl ?_
      refine EV_iload_n 1 d_M_candidate_76 rfl rfl ?_
      refine EV_iconst d_M_candidate_77 ⟨by decide, by decide⟩ ?_
      obtain ⟨hr, H⟩ := H
      refine EV_iadd d_M_candidate_78 hr ?_
      refine EV_iload_n 2 d_M_candidate_79 rfl rfl ?_
      refine EV_callV (as := [vI (x1 + 1), vI x2]) (st := []) d_M_candidate_80 k_1250 k_1252 kp_64 k_12 k_1253 shM_0 rfl pd_23 ⟨by decide, by decide, Nat.le_of_ble_eq_true rfl⟩ rfl (ct_M_follow H (fun m_1 H => ?_))
      refine EV_iload 4 d_M_candidate_83 rfl ?_
      refine EV_iconst d_M_candidate_85 ⟨by decide, by decide⟩ ?_
      obtain ⟨hr, H⟩ := H
      refine EV_iadd d_M_candidate_86 hr ?_
      refine EV_istore (lv' := [(0, vR 0), (1, vI x1), (2, vI x2), (4, vI x4), (5, vI x5), (6, vI s0), (7, vI (x5 + 1))]) [1, 2, 3, 4, 5, 6, 0] d_M_candidate_87 (by decide) rfl ?_
      refine EV_aload_n 0 d_M_candidate_89 rfl rfl ?_
      refine EV_get (j := 24) d_M_candidate_90 shM_0 rfl fI11 (by decide) k_978 rfl ?_
      refine EV_iload 6 d_M_candidate_93 rfl ?_
      obtain ⟨hi, H⟩ := H
      refine EV_iald d_M_candidate_95 shM_14 hi ?_
      refine EV_iconst d_M_candidate_96 ⟨by decide, by decide⟩ ?_
      refine EV_icmp_eq (tgt := 152) d_M_candidate_97 (by decide) (fun hc => ?_) (fun hc => ?_)
      · have H := H.1 hc
        refine EV_lv (lv' := [(0, vR 0), (1, vI x1), (2, vI x2), (4, vI x4)]) [0, 1, 2, 3] rfl ?_
        exact ct_M_candidate_152 hL5 H hK
      · have H := H.2 hc
        refine EV_aload_n 0 d_M_candidate_100 rfl rfl ?_
        refine EV_get (j := 24) d_M_candidate_101 shM_0 rfl fI11 (by decide) k_978 rfl ?_
        refine EV_aload_n 0 d_M_candidate_104 rfl rfl ?_
        refine EV_get (j := 48) d_M_candidate_105 shM_0 rfl fI11 (by decide) k_1002 rfl ?_
        obtain ⟨hi, H⟩ := H
        refine EV_iald d_M_candidate_108 shM_14 hi ?_
        refine EV_iconst d_M_candidate_109 ⟨by decide, by decide⟩ ?_
        refine EV_icmp_eq (tgt := 152) d_M_candidate_110 (by decide) (fun hc => ?_) (fun hc => ?_)
        · have H := H.1 hc
          refine EV_lv (lv' := [(0, vR 0), (1, vI x1), (2, vI x2), (4, vI x4)]) [0, 1, 2, 3] rfl ?_
          exact ct_M_candidate_152 hL5 H hK
        · have H := H.2 hc
          refine EV_aload_n 0 d_M_candidate_113 rfl rfl ?_
          refine EV_get (j := 23) d_M_candidate_114 shM_0 rfl fI11 (by decide) k_977 rfl ?_
          refine EV_iload 6 d_M_candidate_117 rfl ?_
          obtain ⟨hi, H⟩ := H
          refine EV_lald d_M_candidate_119 shM_13 hi ?_
          refine EV_aload_n 0 d_M_candidate_120 rfl rfl ?_
          refine EV_get (j := 23) d_M_candidate_121 shM_0 rfl fI11 (by decide) k_977 rfl ?_
          refine EV_aload_n 0 d_M_candidate_124 rfl rfl ?_
          refine EV_get (j := 48) d_M_candidate_125 shM_0 rfl fI11 (by decide) k_1002 rfl ?_
          obtain ⟨hi, H⟩ := H
          refine EV_lald d_M_candidate_128 shM_13 hi ?_
          refine EV_lcmp_ne (tgt := 156) d_M_candidate_129 d_M_candidate_130 (by decide) (fun hc => ?_) (fun hc => ?_)
          · have H := H.1 hc
            refine EV_lv (lv' := [(0, vR 0), (1, vI x1), (2, vI x2), (4, vI x4)]) [0, 1, 2, 3] rfl ?_
            exact ct_M_candidate_156 hL5 H hK
          · have H := H.2 hc
            refine EV_aload_n 0 d_M_candidate_133 rfl rfl ?_
            refine EV_get (j := 24) d_M_candidate_134 shM_0 rfl fI11 (by decide) k_978 rfl ?_
            refine EV_iload 6 d_M_candidate_137 rfl ?_
            obtain ⟨hi, H⟩ := H
            refine EV_iald d_M_candidate_139 shM_14 hi ?_
            refine EV_aload_n 0 d_M_candidate_140 rfl rfl ?_
            refine EV_get (j := 24) d_M_candidate_141 shM_0 rfl fI11 (by decide) k_978 rfl ?_
            refine EV_aload_n 0 d_M_candidate_144 rfl rfl ?_
            refine EV_get (j := 48) d_M_candidate_145 shM_0 rfl fI11 (by decide) k_1002 rfl ?_
            obtain ⟨hi, H⟩ := H
            refine EV_iald d_M_candidate_148 shM_14 hi ?_
            refine EV_icmp_ne (tgt := 156) d_M_candidate_149 (by decide) (fun hc => ?_) (fun hc => ?_)
            · have H := H.1 hc
              refine EV_lv (lv' := [(0, vR 0), (1, vI x1), (2, vI x2), (4, vI x4)]) [0, 1, 2, 3] rfl ?_
              exact ct_M_candidate_156 hL5 H hK
            · have H := H.2 hc
              refine EV_lv (lv' := [(0, vR 0), (1, vI x1), (2, vI x2), (4, vI x4)]) [0, 1, 2, 3] rfl ?_
              exact ct_M_candidate_152 hL5 H hK
theorem ct_M_candidate_58 {l : Launch} {K : Int → Ob → Prop} {K' : Option AV → List AC → Prop} {L5 : Int → Int → Int → Ob → Prop} {x1 : Int} {x2 : Int} {x4 : Int} {x5 : Int} {m : Ob} (hL5 : ∀ (x1 : Int) (x2 : Int) (x4 : Int) (m : Ob), L5 x1 x2 x4 m → EV l prog_13_method_38_code "PrunedSearchModel" 8 (some .int) 1 5 [(0, vR 0), (1, vI x1), (2, vI x2), (4, vI x4)] [] (shM m) K') (H : M_candidate_58 L5 x1 x2 x4 x5 m K) (hK : ∀ (r : Int) (m' : Ob), K r m' → K' (some (vI r)) (shM m')) : EV l prog_13_method_38_code "PrunedSearchModel" 8 (some .int) 1 58 [(0, vR 0), (1, vI x1), (2, vI x2), (4, vI x4), (5, vI x5)] [] (shM m) K' := by
  refine EV_iconst d_M_candidate_58 ⟨by decide, by decide⟩ ?_
  exact ct_M_candidate_59 hL5 H hK
theorem ct_M_candidate_5 {l : Launch} {K : Int → Ob → Prop} {K' : Option AV → List AC → Prop} (hK : ∀ (r : Int) (m' : Ob), K r m' → K' (some (vI r)) (shM m')) : ∀ (n : Nat) (x1 : Int) (x2 : Int) (x4 : Int) (m : Ob), M_candidate_5 n x1 x2 x4 m K → EV l prog_13_method_38_code "PrunedSearchModel" 8 (some .int) 1 5 [(0, vR 0), (1, vI x1), (2, vI x2), (4, vI x4)] [] (shM m) K' := by
  intro n
  induction n with
  | zero =>
    intro x1 x2 x4 m H
    exact H.elim
  | succ n ih =>
    intro x1 x2 x4 m H
    refine EV_iload 3 d_M_candidate_5 rfl ?_
    refine EV_aload_n 0 d_M_candidate_7 rfl rfl ?_
    refine EV_get (j := 25) d_M_candidate_8 shM_0 rfl fI11 (by decide) k_979 rfl ?_
    refine EV_icmp_ge (tgt := 173) d_M_candidate_11 (by decide) (fun hc => ?_) (fun hc => ?_)
    · have H := H.1 hc
      refine EV_iconst d_M_candidate_173 ⟨by decide, by decide⟩ ?_
      exact EV_iret d_M_candidate_174 rfl (nw_int _) (hK _ _ H)
    · have H := H.2 hc
      refine EV_bipush d_M_candidate_14 (by decide +kernel) ⟨by decide, by decide⟩ ?_
      refine EV_iload 3 d_M_candidate_16 rfl ?_
      obtain ⟨hr, H⟩ := H
      refine EV_imul d_M_candidate_18 hr ?_
      refine EV_istore (lv' := [(0, vR 0), (1, vI x1), (2, vI x2), (4, vI x4), (5, vI (40 * x4))]) [1, 2, 3, 4, 0] d_M_candidate_19 (by decide) rfl ?_
      refine EV_aload_n 0 d_M_candidate_21 rfl rfl ?_
      refine EV_get (j := 23) d_M_candidate_22 shM_0 rfl fI11 (by decide) k_977 rfl ?_
      refine EV_iload 4 d_M_candidate_25 rfl ?_
      obtain ⟨hi, H⟩ := H
      refine EV_lald d_M_candidate_27 shM_13 hi ?_
      refine EV_aload_n 0 d_M_candidate_28 rfl rfl ?_
      refine EV_get (j := 23) d_M_candidate_29 shM_0 rfl fI11 (by decide) k_977 rfl ?_
      refine EV_iload_n 1 d_M_candidate_32 rfl rfl ?_
      obtain ⟨hi, H⟩ := H
      refine EV_lald d_M_candidate_33 shM_13 hi ?_
      refine EV_lcmp_ne (tgt := 58) d_M_candidate_34 d_M_candidate_35 (by decide) (fun hc => ?_) (fun hc => ?_)
      · have H := H.1 hc
        exact ct_M_candidate_58 (fun x1 x2 x4 m' H => ih x1 x2 x4 m' H) H hK
      · have H := H.2 hc
        refine EV_aload_n 0 d_M_candidate_38 rfl rfl ?_
        refine EV_get (j := 24) d_M_candidate_39 shM_0 rfl fI11 (by decide) k_978 rfl ?_
        refine EV_iload 4 d_M_candidate_42 rfl ?_
        obtain ⟨hi, H⟩ := H
        refine EV_iald d_M_candidate_44 shM_14 hi ?_
        refine EV_aload_n 0 d_M_candidate_45 rfl rfl ?_
        refine EV_get (j := 24) d_M_candidate_46 shM_0 rfl fI11 (by decide) k_978 rfl ?_
        refine EV_iload_n 1 d_M_candidate_49 rfl rfl ?_
        obtain ⟨hi, H⟩ := H
        refine EV_iald d_M_candidate_50 shM_14 hi ?_
        refine EV_icmp_ne (tgt := 58) d_M_candidate_51 (by decide) (fun hc => ?_) (fun hc => ?_)
        · have H := H.1 hc
          exact ct_M_candidate_58 (fun x1 x2 x4 m' H => ih x1 x2 x4 m' H) H hK
        · have H := H.2 hc
          refine EV_iconst d_M_candidate_54 ⟨by decide, by decide⟩ ?_
          refine EV_goto (tgt := 59) d_M_candidate_55 (by decide) ?_
          exact ct_M_candidate_59 (fun x1 x2 x4 m' H => ih x1 x2 x4 m' H) H hK
theorem ct_M_candidate {l : Launch} {m : Ob} {x1 : Int} {x2 : Int} {x3 : Int} {K : Int → Ob → Prop} {K' : Option AV → List AC → Prop} (H : wp_M_candidate x1 x2 x3 m K) (hK : ∀ (r : Int) (m' : Ob), K r m' → K' (some (vI r)) (shM m')) : MT l ⟨"PrunedSearchModel", "candidate", "(III)I"⟩ prog_13_method_38_code 8 (some .int) 1 [vR 0, vI x1, vI x2, vI x3] (shM m) K' := by
  unfold wp_M_candidate at H
  refine MT_of (lv := [(0, vR 0), (1, vI x1), (2, vI x2), (3, vI x3)]) rfl rfl (Nat.le_of_ble_eq_true rfl) rfl ?_
  refine EV_iload_n 3 d_M_candidate_0 rfl rfl ?_
  refine EV_iconst d_M_candidate_1 ⟨by decide, by decide⟩ ?_
  obtain ⟨hr, H⟩ := H
  refine EV_iadd d_M_candidate_2 hr ?_
  refine EV_istore (lv' := [(0, vR 0), (1, vI x1), (2, vI x2), (3, vI x3), (4, vI (x3 + 1))]) [1, 2, 3, 4, 0] d_M_candidate_3 (by decide) rfl ?_
  refine EV_lv (lv' := [(0, vR 0), (1, vI x1), (2, vI x2), (4, vI (x3 + 1))]) [0, 1, 2, 4] rfl ?_
  obtain ⟨n, H⟩ := H
  exact ct_M_candidate_5 hK n x1 x2 (x3 + 1) m H
theorem ct_M_behind_29 {l : Launch} {m : Ob} {K : Int → Prop} {K' : Option AV → List AC → Prop} {L4 : Int → Int → Prop} {x2 : Int} {s0 : Int} (hL4 : ∀ (x2 : Int) (x3 : Int), L4 x2 x3 → EV l prog_13_method_25_code "PrunedSearchModel" 4 (some .int) 0 4 [(0, vR 0), (2, vI x2), (3, vI x3)] [] (shM m) K') (H : M_behind_29 L4 x2 s0 m K) (hK : ∀ (r : Int), K r → K' (some (vI r)) (shM m)) : EV l prog_13_method_25_code "PrunedSearchModel" 4 (some .int) 0 29 [(0, vR 0), (2, vI x2)] [vI s0] (shM m) K' := by
  refine EV_istore_n (lv' := [(0, vR 0), (2, vI x2), (3, vI s0)]) [1, 2, 0] d_M_behind_29 rfl (by decide) rfl ?_
  refine EV_iload_n 1 d_M_behind_30 rfl rfl ?_
  refine EV_iconst d_M_behind_31 ⟨by decide, by decide⟩ ?_
  obtain ⟨hr, H⟩ := H
  refine EV_iadd d_M_behind_32 hr ?_
  refine EV_istore_n (lv' := [(0, vR 0), (2, vI (x2 + 1)), (3, vI s0)]) [1, 0, 2] d_M_behind_33 rfl (by decide) rfl ?_
  obtain ⟨hr, H⟩ := H
  refine EV_iinc (lv' := [(0, vR 0), (2, vI (x2 + 1)), (3, vI (s0 + (-1)))]) 2 [1, 2, 0] d_M_behind_34 rfl (by decide) hr rfl ?_
  refine EV_goto (tgt := 4) d_M_behind_37 (by decide) ?_
  exact hL4 (x2 + 1) (s0 + (-1)) H
theorem ct_M_behind_4 {l : Launch} {m : Ob} {K : Int → Prop} {K' : Option AV → List AC → Prop} (hK : ∀ (r : Int), K r → K' (some (vI r)) (shM m)) : ∀ (n : Nat) (x2 : Int) (x3 : Int), M_behind_4 n x2 x3 m K → EV l prog_13_method_25_code "PrunedSearchModel" 4 (some .int) 0 4 [(0, vR 0), (2, vI x2), (3, vI x3)] [] (shM m) K' := by
  intro n
  induction n with
  | zero =>
    intro x2 x3 H
    exact H.elim
  | succ n ih =>
    intro x2 x3 H
    refine EV_iload_n 2 d_M_behind_4 rfl rfl ?_
    refine EV_if_le (tgt := 40) d_M_behind_5 (by decide) (fun hc => ?_) (fun hc => ?_)
    · have H := H.1 hc
      refine EV_iload_n 1 d_M_behind_40 rfl rfl ?_
      exact EV_iret d_M_behind_41 rfl (nw_int _) (hK _ H)
    · have H := H.2 hc
      refine EV_aload_n 0 d_M_behind_8 rfl rfl ?_
      refine EV_get (j := 24) d_M_behind_9 shM_0 rfl fI11 (by decide) k_978 rfl ?_
      refine EV_iload_n 1 d_M_behind_12 rfl rfl ?_
      obtain ⟨hi, H⟩ := H
      refine EV_iald d_M_behind_13 shM_14 hi ?_
      refine EV_if_le (tgt := 28) d_M_behind_14 (by decide) (fun hc => ?_) (fun hc => ?_)
      · have H := H.1 hc
        refine EV_iload_n 2 d_M_behind_28 rfl rfl ?_
        refine EV_lv (lv' := [(0, vR 0), (2, vI x2)]) [0, 1] rfl ?_
        exact ct_M_behind_29 (fun x2 x3 H => ih x2 x3 H) H hK
      · have H := H.2 hc
        refine EV_iload_n 2 d_M_behind_17 rfl rfl ?_
        refine EV_aload_n 0 d_M_behind_18 rfl rfl ?_
        refine EV_get (j := 24) d_M_behind_19 shM_0 rfl fI11 (by decide) k_978 rfl ?_
        refine EV_iload_n 1 d_M_behind_22 rfl rfl ?_
        obtain ⟨hi, H⟩ := H
        refine EV_iald d_M_behind_23 shM_14 hi ?_
        obtain ⟨hr, H⟩ := H
        refine EV_iadd d_M_behind_24 hr ?_
        refine EV_goto (tgt := 29) d_M_behind_25 (by decide) ?_
        refine EV_lv (lv' := [(0, vR 0), (2, vI x2)]) [0, 1] rfl ?_
        exact ct_M_behind_29 (fun x2 x3 H => ih x2 x3 H) H hK
theorem ct_M_behind {l : Launch} {m : Ob} {x1 : Int} {K : Int → Prop} {K' : Option AV → List AC → Prop} (H : wp_M_behind x1 m K) (hK : ∀ (r : Int), K r → K' (some (vI r)) (shM m)) : MT l ⟨"PrunedSearchModel", "behind", "(I)I"⟩ prog_13_method_25_code 4 (some .int) 0 [vR 0, vI x1] (shM m) K' := by
  unfold wp_M_behind at H
  refine MT_of (lv := [(0, vR 0), (1, vI x1)]) rfl rfl (Nat.le_of_ble_eq_true rfl) rfl ?_
  refine EV_iload_n 1 d_M_behind_0 rfl rfl ?_
  refine EV_istore_n (lv' := [(0, vR 0), (1, vI x1), (2, vI x1)]) [1, 2, 0] d_M_behind_1 rfl (by decide) rfl ?_
  refine EV_iconst d_M_behind_2 ⟨by decide, by decide⟩ ?_
  refine EV_istore_n (lv' := [(0, vR 0), (1, vI x1), (2, vI x1), (3, vI 1)]) [1, 2, 3, 0] d_M_behind_3 rfl (by decide) rfl ?_
  refine EV_lv (lv' := [(0, vR 0), (2, vI x1), (3, vI 1)]) [0, 2, 3] rfl ?_
  obtain ⟨n, H⟩ := H
  exact ct_M_behind_4 hK n x1 1 H
theorem ct_M_pushAll_78 {l : Launch} {K : Int → Ob → Prop} {K' : Option AV → List AC → Prop} {x3 : Int} {x4 : Int} {m : Ob} (H : M_pushAll_78 x3 x4 m K) (hK : ∀ (r : Int) (m' : Ob), K r m' → K' (some (vI r)) (shM m')) : EV l prog_13_method_27_code "PrunedSearchModel" 7 (some .int) 1 78 [(3, vI x3), (4, vI x4)] [] (shM m) K' := by
  refine EV_iload_n 0 d_M_pushAll_78 rfl rfl ?_
  refine EV_iconst d_M_pushAll_79 ⟨by decide, by decide⟩ ?_
  refine EV_iload 1 d_M_pushAll_80 rfl ?_
  obtain ⟨hr, H⟩ := H
  refine EV_imul d_M_pushAll_82 hr ?_
  obtain ⟨hr, H⟩ := H
  refine EV_iadd d_M_pushAll_83 hr ?_
  exact EV_iret d_M_pushAll_84 rfl (nw_int _) (hK _ _ H)
theorem ct_M_pushAll_32 {l : Launch} {K : Int → Ob → Prop} {K' : Option AV → List AC → Prop} (hK : ∀ (r : Int) (m' : Ob), K r m' → K' (some (vI r)) (shM m')) : ∀ (n : Nat) (x2 : Int) (x3 : Int) (x4 : Int) (x5 : Int) (x6 : Int) (m : Ob), M_pushAll_32 n x2 x3 x4 x5 x6 m K → EV l prog_13_method_27_code "PrunedSearchModel" 7 (some .int) 1 32 [(0, vR 0), (2, vI x2), (3, vI x3), (4, vI x4), (5, vI x5), (6, vI x6)] [] (shM m) K' := by
  intro n
  induction n with
  | zero =>
    intro x2 x3 x4 x5 x6 m H
    exact H.elim
  | succ n ih =>
    intro x2 x3 x4 x5 x6 m H
    refine EV_iload 5 d_M_pushAll_32 rfl ?_
    refine EV_if_lt (tgt := 78) d_M_pushAll_34 (by decide) (fun hc => ?_) (fun hc => ?_)
    · have H := H.1 hc
      refine EV_lv (lv' := [(3, vI x3), (4, vI x4)]) [2, 3] rfl ?_
      exact ct_M_pushAll_78 H hK
    · have H := H.2 hc
      refine EV_aload_n 0 d_M_pushAll_37 rfl rfl ?_
      refine EV_get (j := 50) d_M_pushAll_38 shM_0 rfl fI11 (by decide) k_1004 rfl ?_
      refine EV_iload_n 2 d_M_pushAll_41 rfl rfl ?_
      refine EV_iconst d_M_pushAll_42 ⟨by decide, by decide⟩ ?_
      refine EV_iload 5 d_M_pushAll_43 rfl ?_
      obtain ⟨hr, H⟩ := H
      refine EV_imul d_M_pushAll_45 hr ?_
      obtain ⟨hr, H⟩ := H
      refine EV_iadd d_M_pushAll_46 hr ?_
      refine EV_iload 4 d_M_pushAll_47 rfl ?_
      obtain ⟨hi, H⟩ := H
      refine EV_iast d_M_pushAll_49 shM_29 hi shM_29_s ?_
      refine EV_aload_n 0 d_M_pushAll_50 rfl rfl ?_
      refine EV_get (j := 50) d_M_pushAll_51 shM_0 rfl fI11 (by decide) k_1004 rfl ?_
      refine EV_iload_n 2 d_M_pushAll_54 rfl rfl ?_
      refine EV_iconst d_M_pushAll_55 ⟨by decide, by decide⟩ ?_
      refine EV_iload 5 d_M_pushAll_56 rfl ?_
      obtain ⟨hr, H⟩ := H
      refine EV_imul d_M_pushAll_58 hr ?_
      obtain ⟨hr, H⟩ := H
      refine EV_iadd d_M_pushAll_59 hr ?_
      refine EV_iconst d_M_pushAll_60 ⟨by decide, by decide⟩ ?_
      obtain ⟨hr, H⟩ := H
      refine EV_iadd d_M_pushAll_61 hr ?_
      refine EV_iload_n 1 d_M_pushAll_62 rfl rfl ?_
      obtain ⟨hi, H⟩ := H
      refine EV_iast d_M_pushAll_63 shM_29 hi shM_29_s ?_
      refine EV_aload_n 0 d_M_pushAll_64 rfl rfl ?_
      refine EV_iload 4 d_M_pushAll_65 rfl ?_
      refine EV_callV (as := [vI x5]) (st := []) d_M_pushAll_67 k_1274 k_1276 kp_70 k_12 k_1277 shM_0 rfl pd_24 ⟨by decide, by decide, Nat.le_of_ble_eq_true rfl⟩ rfl (ct_M_behind H (fun r_1 H => ?_))
      refine EV_istore (lv' := [(0, vR 0), (2, vI x2), (3, vI x3), (4, vI x4), (5, vI r_1), (6, vI x6)]) [1, 2, 3, 4, 0, 5] d_M_pushAll_70 (by decide) rfl ?_
      obtain ⟨hr, H⟩ := H
      refine EV_iinc (lv' := [(0, vR 0), (2, vI x2), (3, vI x3), (4, vI x4), (5, vI r_1), (6, vI (x6 + (-1)))]) 5 [1, 2, 3, 4, 5, 0] d_M_pushAll_72 rfl (by decide) hr rfl ?_
      refine EV_goto (tgt := 32) d_M_pushAll_75 (by decide) ?_
      exact ih x2 x3 x4 r_1 (x6 + (-1)) (sA (sA m 24 (x3 + (2 * x6)) x5) 24 ((x3 + (2 * x6)) + 1) x2) H
theorem ct_M_pushAll_19 {l : Launch} {K : Int → Ob → Prop} {K' : Option AV → List AC → Prop} {x1 : Int} {x2 : Int} {x3 : Int} {s0 : Int} {m : Ob} (H : M_pushAll_19 x1 x2 x3 s0 m K) (hK : ∀ (r : Int) (m' : Ob), K r m' → K' (some (vI r)) (shM m')) : EV l prog_13_method_27_code "PrunedSearchModel" 7 (some .int) 1 19 [(0, vR 0), (1, vI x1), (2, vI x2), (3, vI x3)] [vI s0] (shM m) K' := by
  refine EV_istore (lv' := [(0, vR 0), (1, vI x1), (2, vI x2), (3, vI x3), (4, vI s0)]) [1, 2, 3, 4, 0] d_M_pushAll_19 (by decide) rfl ?_
  refine EV_iload_n 1 d_M_pushAll_21 rfl rfl ?_
  refine EV_iconst d_M_pushAll_22 ⟨by decide, by decide⟩ ?_
  obtain ⟨hr, H⟩ := H
  refine EV_iadd d_M_pushAll_23 hr ?_
  refine EV_istore (lv' := [(0, vR 0), (1, vI x1), (2, vI x2), (3, vI x3), (4, vI s0), (5, vI (x1 + 1))]) [1, 2, 3, 4, 5, 0] d_M_pushAll_24 (by decide) rfl ?_
  refine EV_iload 4 d_M_pushAll_26 rfl ?_
  refine EV_iconst d_M_pushAll_28 ⟨by decide, by decide⟩ ?_
  obtain ⟨hr, H⟩ := H
  refine EV_isub d_M_pushAll_29 hr ?_
  refine EV_istore (lv' := [(0, vR 0), (1, vI x1), (2, vI x2), (3, vI x3), (4, vI s0), (5, vI (x1 + 1)), (6, vI (s0 - 1))]) [1, 2, 3, 4, 5, 6, 0] d_M_pushAll_30 (by decide) rfl ?_
  refine EV_lv (lv' := [(0, vR 0), (2, vI x2), (3, vI x3), (4, vI s0), (5, vI (x1 + 1)), (6, vI (s0 - 1))]) [0, 2, 3, 4, 5, 6] rfl ?_
  obtain ⟨n, H⟩ := H
  exact ct_M_pushAll_32 hK n x2 x3 s0 (x1 + 1) (s0 - 1) m H
theorem ct_M_pushAll {l : Launch} {m : Ob} {x1 : Int} {x2 : Int} {x3 : Int} {K : Int → Ob → Prop} {K' : Option AV → List AC → Prop} (H : wp_M_pushAll x1 x2 x3 m K) (hK : ∀ (r : Int) (m' : Ob), K r m' → K' (some (vI r)) (shM m')) : MT l ⟨"PrunedSearchModel", "pushAll", "(III)I"⟩ prog_13_method_27_code 7 (some .int) 1 [vR 0, vI x1, vI x2, vI x3] (shM m) K' := by
  unfold wp_M_pushAll at H
  refine MT_of (lv := [(0, vR 0), (1, vI x1), (2, vI x2), (3, vI x3)]) rfl rfl (Nat.le_of_ble_eq_true rfl) rfl ?_
  refine EV_aload_n 0 d_M_pushAll_0 rfl rfl ?_
  refine EV_get (j := 24) d_M_pushAll_1 shM_0 rfl fI11 (by decide) k_978 rfl ?_
  refine EV_iload_n 1 d_M_pushAll_4 rfl rfl ?_
  obtain ⟨hi, H⟩ := H
  refine EV_iald d_M_pushAll_5 shM_14 hi ?_
  refine EV_if_le (tgt := 18) d_M_pushAll_6 (by decide) (fun hc => ?_) (fun hc => ?_)
  · have H := H.1 hc
    refine EV_iconst d_M_pushAll_18 ⟨by decide, by decide⟩ ?_
    exact ct_M_pushAll_19 H hK
  · have H := H.2 hc
    refine EV_aload_n 0 d_M_pushAll_9 rfl rfl ?_
    refine EV_get (j := 24) d_M_pushAll_10 shM_0 rfl fI11 (by decide) k_978 rfl ?_
    refine EV_iload_n 1 d_M_pushAll_13 rfl rfl ?_
    obtain ⟨hi, H⟩ := H
    refine EV_iald d_M_pushAll_14 shM_14 hi ?_
    refine EV_goto (tgt := 19) d_M_pushAll_15 (by decide) ?_
    exact ct_M_pushAll_19 H hK
theorem ct_M_stands_90 {l : Launch} {K : Int → Ob → Prop} {K' : Option AV → List AC → Prop} {L24 : Int → Int → Int → Ob → Prop} {x1 : Int} {x4 : Int} {x5 : Int} {m : Ob} (hL24 : ∀ (x1 : Int) (x4 : Int) (x5 : Int) (m : Ob), L24 x1 x4 x5 m → EV l prog_13_method_29_code "PrunedSearchModel" 6 (some .boolean) 2 24 [(0, vR 0), (1, vI x1), (4, vI x4), (5, vI x5)] [] (shM m) K') (H : M_stands_90 L24 x1 x4 x5 m K) (hK : ∀ (r : Int) (m' : Ob), K r m' → K' (some (vI r)) (shM m')) : EV l prog_13_method_29_code "PrunedSearchModel" 6 (some .boolean) 2 90 [(0, vR 0), (1, vI x1), (4, vI x4), (5, vI x5)] [] (shM m) K' := by
  refine EV_aload_n 0 d_M_stands_90 rfl rfl ?_
  refine EV_aload_n 0 d_M_stands_91 rfl rfl ?_
  refine EV_get (j := 48) d_M_stands_92 shM_0 rfl fI11 (by decide) k_1002 rfl ?_
  refine EV_aload_n 0 d_M_stands_95 rfl rfl ?_
  refine EV_get (j := 49) d_M_stands_96 shM_0 rfl fI11 (by decide) k_1003 rfl ?_
  refine EV_iload 3 d_M_stands_99 rfl ?_
  refine EV_iconst d_M_stands_101 ⟨by decide, by decide⟩ ?_
  obtain ⟨hr, H⟩ := H
  refine EV_isub d_M_stands_102 hr ?_
  refine EV_callV (as := [vI (m.1 19), vI (m.1 20), vI (x5 - 2)]) (st := []) d_M_stands_103 k_1270 k_1272 kp_69 k_12 k_1273 shM_0 rfl pd_25 ⟨by decide, by decide, Nat.le_of_ble_eq_true rfl⟩ rfl (ct_M_pushAll H (fun r_3 m_2 H => ?_))
  refine EV_istore (lv' := [(0, vR 0), (1, vI x1), (4, vI x4), (5, vI r_3)]) [1, 2, 3, 0] d_M_stands_106 (by decide) rfl ?_
  refine EV_goto (tgt := 24) d_M_stands_108 (by decide) ?_
  exact hL24 x1 x4 r_3 m_2 H
theorem ct_M_stands_24 {l : Launch} {K : Int → Ob → Prop} {K' : Option AV → List AC → Prop} (hK : ∀ (r : Int) (m' : Ob), K r m' → K' (some (vI r)) (shM m')) : ∀ (n : Nat) (x1 : Int) (x4 : Int) (x5 : Int) (m : Ob), M_stands_24 n x1 x4 x5 m K → EV l prog_13_method_29_code "PrunedSearchModel" 6 (some .boolean) 2 24 [(0, vR 0), (1, vI x1), (4, vI x4), (5, vI x5)] [] (shM m) K' := by
  intro n
  induction n with
  | zero =>
    intro x1 x4 x5 m H
    exact H.elim
  | succ n ih =>
    intro x1 x4 x5 m H
    refine EV_iload 3 d_M_stands_24 rfl ?_
    refine EV_iload 2 d_M_stands_26 rfl ?_
    refine EV_icmp_le (tgt := 111) d_M_stands_28 (by decide) (fun hc => ?_) (fun hc => ?_)
    · have H := H.1 hc
      refine EV_iconst d_M_stands_111 ⟨by decide, by decide⟩ ?_
      exact EV_iret d_M_stands_112 rfl (nw_bool (by decide)) (hK _ _ H)
    · have H := H.2 hc
      refine EV_aload_n 0 d_M_stands_31 rfl rfl ?_
      refine EV_aload_n 0 d_M_stands_32 rfl rfl ?_
      refine EV_get (j := 50) d_M_stands_33 shM_0 rfl fI11 (by decide) k_1004 rfl ?_
      refine EV_iload 3 d_M_stands_36 rfl ?_
      refine EV_iconst d_M_stands_38 ⟨by decide, by decide⟩ ?_
      obtain ⟨hr, H⟩ := H
      refine EV_isub d_M_stands_39 hr ?_
      obtain ⟨hi, H⟩ := H
      refine EV_iald d_M_stands_40 shM_29 hi ?_
      refine EV_aload_n 0 d_M_stands_41 rfl rfl ?_
      refine EV_get (j := 50) d_M_stands_42 shM_0 rfl fI11 (by decide) k_1004 rfl ?_
      refine EV_iload 3 d_M_stands_45 rfl ?_
      refine EV_iconst d_M_stands_47 ⟨by decide, by decide⟩ ?_
      obtain ⟨hr, H⟩ := H
      refine EV_isub d_M_stands_48 hr ?_
      obtain ⟨hi, H⟩ := H
      refine EV_iald d_M_stands_49 shM_29 hi ?_
      refine EV_callV (as := [vI (m.2.1 24 (x5 - 2)), vI (m.2.1 24 (x5 - 1))]) (st := []) d_M_stands_50 k_1250 k_1252 kp_64 k_12 k_1253 shM_0 rfl pd_23 ⟨by decide, by decide, Nat.le_of_ble_eq_true rfl⟩ rfl (ct_M_follow H (fun m_1 H => ?_))
      refine EV_aload_n 0 d_M_stands_53 rfl rfl ?_
      refine EV_get (j := 24) d_M_stands_54 shM_0 rfl fI11 (by decide) k_978 rfl ?_
      refine EV_aload_n 0 d_M_stands_57 rfl rfl ?_
      refine EV_get (j := 48) d_M_stands_58 shM_0 rfl fI11 (by decide) k_1002 rfl ?_
      obtain ⟨hi, H⟩ := H
      refine EV_iald d_M_stands_61 shM_14 hi ?_
      refine EV_iconst d_M_stands_62 ⟨by decide, by decide⟩ ?_
      refine EV_icmp_ne (tgt := 90) d_M_stands_63 (by decide) (fun hc => ?_) (fun hc => ?_)
      · have H := H.1 hc
        exact ct_M_stands_90 (fun x1 x4 x5 m' H => ih x1 x4 x5 m' H) H hK
      · have H := H.2 hc
        refine EV_bipush d_M_stands_66 (by decide +kernel) ⟨by decide, by decide⟩ ?_
        refine EV_aload_n 0 d_M_stands_68 rfl rfl ?_
        refine EV_get (j := 49) d_M_stands_69 shM_0 rfl fI11 (by decide) k_1003 rfl ?_
        obtain ⟨hr, H⟩ := H
        refine EV_imul d_M_stands_72 hr ?_
        refine EV_aload_n 0 d_M_stands_73 rfl rfl ?_
        refine EV_get (j := 23) d_M_stands_74 shM_0 rfl fI11 (by decide) k_977 rfl ?_
        refine EV_aload_n 0 d_M_stands_77 rfl rfl ?_
        refine EV_get (j := 48) d_M_stands_78 shM_0 rfl fI11 (by decide) k_1002 rfl ?_
        obtain ⟨hi, H⟩ := H
        refine EV_lald d_M_stands_81 shM_13 hi ?_
        obtain ⟨h0, H⟩ := H
        refine EV_l2i d_M_stands_82 h0 ?_
        obtain ⟨hr, H⟩ := H
        refine EV_iadd d_M_stands_83 hr ?_
        refine EV_iload_n 1 d_M_stands_84 rfl rfl ?_
        refine EV_icmp_ne (tgt := 90) d_M_stands_85 (by decide) (fun hc => ?_) (fun hc => ?_)
        · have H := H.1 hc
          exact ct_M_stands_90 (fun x1 x4 x5 m' H => ih x1 x4 x5 m' H) H hK
        · have H := H.2 hc
          refine EV_iconst d_M_stands_88 ⟨by decide, by decide⟩ ?_
          exact EV_iret d_M_stands_89 rfl (nw_bool (by decide)) (hK _ _ H)
theorem ct_M_stands {l : Launch} {m : Ob} {x1 : Int} {x2 : Int} {x3 : Int} {x4 : Int} {K : Int → Ob → Prop} {K' : Option AV → List AC → Prop} (H : wp_M_stands x1 x2 x3 x4 m K) (hK : ∀ (r : Int) (m' : Ob), K r m' → K' (some (vI r)) (shM m')) : MT l ⟨"PrunedSearchModel", "stands", "(IIII)Z"⟩ prog_13_method_29_code 6 (some .boolean) 2 [vR 0, vI x1, vI x2, vI x3, vI x4] (shM m) K' := by
  unfold wp_M_stands at H
  refine MT_of (lv := [(0, vR 0), (1, vI x1), (2, vI x2), (3, vI x3), (4, vI x4)]) rfl rfl (Nat.le_of_ble_eq_true rfl) rfl ?_
  refine EV_aload_n 0 d_M_stands_0 rfl rfl ?_
  refine EV_get (j := 50) d_M_stands_1 shM_0 rfl fI11 (by decide) k_1004 rfl ?_
  refine EV_iload 4 d_M_stands_4 rfl ?_
  refine EV_iload_n 2 d_M_stands_6 rfl rfl ?_
  obtain ⟨hi, H⟩ := H
  refine EV_iast d_M_stands_7 shM_29 hi shM_29_s ?_
  refine EV_aload_n 0 d_M_stands_8 rfl rfl ?_
  refine EV_get (j := 50) d_M_stands_9 shM_0 rfl fI11 (by decide) k_1004 rfl ?_
  refine EV_iload 4 d_M_stands_12 rfl ?_
  refine EV_iconst d_M_stands_14 ⟨by decide, by decide⟩ ?_
  obtain ⟨hr, H⟩ := H
  refine EV_iadd d_M_stands_15 hr ?_
  refine EV_iload_n 3 d_M_stands_16 rfl rfl ?_
  obtain ⟨hi, H⟩ := H
  refine EV_iast d_M_stands_17 shM_29 hi shM_29_s ?_
  refine EV_iload 4 d_M_stands_18 rfl ?_
  refine EV_iconst d_M_stands_20 ⟨by decide, by decide⟩ ?_
  obtain ⟨hr, H⟩ := H
  refine EV_iadd d_M_stands_21 hr ?_
  refine EV_istore (lv' := [(0, vR 0), (1, vI x1), (2, vI x2), (3, vI x3), (4, vI x4), (5, vI (x4 + 2))]) [1, 2, 3, 4, 5, 0] d_M_stands_22 (by decide) rfl ?_
  refine EV_lv (lv' := [(0, vR 0), (1, vI x1), (4, vI x4), (5, vI (x4 + 2))]) [0, 1, 4, 5] rfl ?_
  obtain ⟨n, H⟩ := H
  exact ct_M_stands_24 hK n x1 x4 (x4 + 2) (sA (sA m 24 x4 x2) 24 (x4 + 1) x3) H
theorem ct_M_bind {l : Launch} {m : Ob} {x1 : Int} {x2 : Int} {x3 : Int} {x4 : Int} {K : Int → Ob → Prop} {K' : Option AV → List AC → Prop} (H : wp_M_bind x1 x2 x3 x4 m K) (hK : ∀ (r : Int) (m' : Ob), K r m' → K' (some (vI r)) (shM m')) : MT l ⟨"PrunedSearchModel", "bind", "(IIII)Z"⟩ prog_13_method_30_code 5 (some .boolean) 3 [vR 0, vI x1, vI x2, vI x3, vI x4] (shM m) K' := by
  unfold wp_M_bind at H
  refine MT_of (lv := [(0, vR 0), (1, vI x1), (2, vI x2), (3, vI x3), (4, vI x4)]) rfl rfl (Nat.le_of_ble_eq_true rfl) rfl ?_
  refine EV_aload_n 0 d_M_bind_0 rfl rfl ?_
  refine EV_iload_n 1 d_M_bind_1 rfl rfl ?_
  refine EV_iload_n 2 d_M_bind_2 rfl rfl ?_
  refine EV_iload_n 3 d_M_bind_3 rfl rfl ?_
  refine EV_iload 4 d_M_bind_4 rfl ?_
  refine EV_callV (as := [vI x1, vI x2, vI x3, vI x4]) (st := []) d_M_bind_6 k_1266 k_1268 kp_68 k_12 k_1269 shM_0 rfl pd_26 ⟨by decide, by decide, Nat.le_of_ble_eq_true rfl⟩ rfl (ct_M_stands H (fun r_2 m_1 H => ?_))
  refine EV_if_eq (tgt := 14) d_M_bind_9 (by decide) (fun hc => ?_) (fun hc => ?_)
  · have H := H.1 hc
    refine EV_aload_n 0 d_M_bind_14 rfl rfl ?_
    refine EV_get (j := 46) d_M_bind_15 shM_0 rfl fI11 (by decide) k_1000 rfl ?_
    refine EV_iload_n 1 d_M_bind_18 rfl rfl ?_
    refine EV_iload_n 2 d_M_bind_19 rfl rfl ?_
    obtain ⟨hi, H⟩ := H
    refine EV_iast d_M_bind_20 shM_27 hi shM_27_s ?_
    refine EV_aload_n 0 d_M_bind_21 rfl rfl ?_
    refine EV_get (j := 47) d_M_bind_22 shM_0 rfl fI11 (by decide) k_1001 rfl ?_
    refine EV_iload_n 1 d_M_bind_25 rfl rfl ?_
    refine EV_iload_n 3 d_M_bind_26 rfl rfl ?_
    obtain ⟨hi, H⟩ := H
    refine EV_iast d_M_bind_27 shM_28 hi shM_28_s ?_
    refine EV_iconst d_M_bind_28 ⟨by decide, by decide⟩ ?_
    exact EV_iret d_M_bind_29 rfl (nw_bool (by decide)) (hK _ _ H)
  · have H := H.2 hc
    refine EV_iconst d_M_bind_12 ⟨by decide, by decide⟩ ?_
    exact EV_iret d_M_bind_13 rfl (nw_bool (by decide)) (hK _ _ H)
theorem ct_M_equalize_430 {l : Launch} {K : Int → Ob → Prop} {K' : Option AV → List AC → Prop} {L32 : Int → Ob → Prop} {x5 : Int} {m : Ob} (hL32 : ∀ (x5 : Int) (m : Ob), L32 x5 m → EV l prog_13_method_31_code "PrunedSearchModel" 19 (some .boolean) 4 32 [(0, vR 0), (5, vI x5)] [] (shM m) K') (H : M_equalize_430 L32 x5 m K) (hK : ∀ (r : Int) (m' : Ob), K r m' → K' (some (vI r)) (shM m')) : EV l prog_13_method_31_code "PrunedSearchModel" 19 (some .boolean) 4 430 [(0, vR 0), (5, vI x5)] [] (shM m) K' := by
  refine EV_goto (tgt := 32) d_M_equalize_430 (by decide) ?_
  exact hL32 x5 m H
theorem ct_M_equalize_343 {l : Launch} {K : Int → Ob → Prop} {K' : Option AV → List AC → Prop} {L32 : Int → Ob → Prop} (hL32 : ∀ (x5 : Int) (m : Ob), L32 x5 m → EV l prog_13_method_31_code "PrunedSearchModel" 19 (some .boolean) 4 32 [(0, vR 0), (5, vI x5)] [] (shM m) K') (hK : ∀ (r : Int) (m' : Ob), K r m' → K' (some (vI r)) (shM m')) : ∀ (n : Nat) (x5 : Int) (x6 : Int) (x7 : Int) (x9 : Int) (x15 : Int) (x16 : Int) (x17 : Int) (x18 : Int) (m : Ob), M_equalize_343 L32 n x5 x6 x7 x9 x15 x16 x17 x18 m K → EV l prog_13_method_31_code "PrunedSearchModel" 19 (some .boolean) 4 343 [(0, vR 0), (5, vI x5), (6, vI x6), (7, vI x7), (9, vI x9), (15, vI x15), (16, vI x16), (17, vI x17), (18, vI x18)] [] (shM m) K' := by
  intro n
  induction n with
  | zero =>
    intro x5 x6 x7 x9 x15 x16 x17 x18 m H
    exact H.elim
  | succ n ih =>
    intro x5 x6 x7 x9 x15 x16 x17 x18 m H
    refine EV_iload 8 d_M_equalize_343 rfl ?_
    refine EV_aload_n 0 d_M_equalize_345 rfl rfl ?_
    refine EV_get (j := 24) d_M_equalize_346 shM_0 rfl fI11 (by decide) k_978 rfl ?_
    refine EV_iload 2 d_M_equalize_349 rfl ?_
    obtain ⟨hi, H⟩ := H
    refine EV_iald d_M_equalize_351 shM_14 hi ?_
    refine EV_icmp_ge (tgt := 430) d_M_equalize_352 (by decide) (fun hc => ?_) (fun hc => ?_)
    · have H := H.1 hc
      refine EV_lv (lv' := [(0, vR 0), (5, vI x5)]) [0, 1] rfl ?_
      exact ct_M_equalize_430 hL32 H hK
    · have H := H.2 hc
      refine EV_iload 5 d_M_equalize_355 rfl ?_
      refine EV_if_ne (tgt := 430) d_M_equalize_357 (by decide) (fun hc => ?_) (fun hc => ?_)
      · have H := H.1 hc
        refine EV_lv (lv' := [(0, vR 0), (5, vI x5)]) [0, 1] rfl ?_
        exact ct_M_equalize_430 hL32 H hK
      · have H := H.2 hc
        refine EV_aload_n 0 d_M_equalize_360 rfl rfl ?_
        refine EV_get (j := 50) d_M_equalize_361 shM_0 rfl fI11 (by decide) k_1004 rfl ?_
        refine EV_iload 1 d_M_equalize_364 rfl ?_
        refine EV_iload 6 d_M_equalize_366 rfl ?_
        obtain ⟨hi, H⟩ := H
        refine EV_iast d_M_equalize_368 shM_29 hi shM_29_s ?_
        refine EV_aload_n 0 d_M_equalize_369 rfl rfl ?_
        refine EV_get (j := 50) d_M_equalize_370 shM_0 rfl fI11 (by decide) k_1004 rfl ?_
        refine EV_iload 1 d_M_equalize_373 rfl ?_
        refine EV_iconst d_M_equalize_375 ⟨by decide, by decide⟩ ?_
        obtain ⟨hr, H⟩ := H
        refine EV_iadd d_M_equalize_376 hr ?_
        refine EV_iload 3 d_M_equalize_377 rfl ?_
        obtain ⟨hi, H⟩ := H
        refine EV_iast d_M_equalize_379 shM_29 hi shM_29_s ?_
        refine EV_aload_n 0 d_M_equalize_380 rfl rfl ?_
        refine EV_get (j := 50) d_M_equalize_381 shM_0 rfl fI11 (by decide) k_1004 rfl ?_
        refine EV_iload 1 d_M_equalize_384 rfl ?_
        refine EV_iconst d_M_equalize_386 ⟨by decide, by decide⟩ ?_
        obtain ⟨hr, H⟩ := H
        refine EV_iadd d_M_equalize_387 hr ?_
        refine EV_iload 7 d_M_equalize_388 rfl ?_
        obtain ⟨hi, H⟩ := H
        refine EV_iast d_M_equalize_390 shM_29 hi shM_29_s ?_
        refine EV_aload_n 0 d_M_equalize_391 rfl rfl ?_
        refine EV_get (j := 50) d_M_equalize_392 shM_0 rfl fI11 (by decide) k_1004 rfl ?_
        refine EV_iload 1 d_M_equalize_395 rfl ?_
        refine EV_iconst d_M_equalize_397 ⟨by decide, by decide⟩ ?_
        obtain ⟨hr, H⟩ := H
        refine EV_iadd d_M_equalize_398 hr ?_
        refine EV_iload 4 d_M_equalize_399 rfl ?_
        obtain ⟨hi, H⟩ := H
        refine EV_iast d_M_equalize_401 shM_29 hi shM_29_s ?_
        refine EV_iload 1 d_M_equalize_402 rfl ?_
        refine EV_iconst d_M_equalize_404 ⟨by decide, by decide⟩ ?_
        obtain ⟨hr, H⟩ := H
        refine EV_iadd d_M_equalize_405 hr ?_
        refine EV_istore (lv' := [(0, vR 0), (5, vI (x5 + 4)), (6, vI x6), (7, vI x7), (9, vI x9), (15, vI x15), (16, vI x16), (17, vI x17), (18, vI x18)]) [1, 0, 2, 3, 4, 5, 6, 7, 8] d_M_equalize_406 (by decide) rfl ?_
        refine EV_aload_n 0 d_M_equalize_408 rfl rfl ?_
        refine EV_iload 6 d_M_equalize_409 rfl ?_
        refine EV_callV (as := [vI x16]) (st := []) d_M_equalize_411 k_1274 k_1276 kp_70 k_12 k_1277 shM_0 rfl pd_24 ⟨by decide, by decide, Nat.le_of_ble_eq_true rfl⟩ rfl (ct_M_behind H (fun r_3 H => ?_))
        refine EV_istore (lv' := [(0, vR 0), (5, vI (x5 + 4)), (6, vI x6), (7, vI x7), (9, vI x9), (15, vI x15), (16, vI r_3), (17, vI x17), (18, vI x18)]) [1, 2, 3, 4, 5, 6, 0, 7, 8] d_M_equalize_414 (by decide) rfl ?_
        refine EV_aload_n 0 d_M_equalize_416 rfl rfl ?_
        refine EV_iload 7 d_M_equalize_417 rfl ?_
        refine EV_callV (as := [vI x17]) (st := []) d_M_equalize_419 k_1274 k_1276 kp_70 k_12 k_1277 shM_0 rfl pd_24 ⟨by decide, by decide, Nat.le_of_ble_eq_true rfl⟩ rfl (ct_M_behind H (fun r_4 H => ?_))
        refine EV_istore (lv' := [(0, vR 0), (5, vI (x5 + 4)), (6, vI x6), (7, vI x7), (9, vI x9), (15, vI x15), (16, vI r_3), (17, vI r_4), (18, vI x18)]) [1, 2, 3, 4, 5, 6, 7, 0, 8] d_M_equalize_422 (by decide) rfl ?_
        obtain ⟨hr, H⟩ := H
        refine EV_iinc (lv' := [(0, vR 0), (5, vI (x5 + 4)), (6, vI x6), (7, vI x7), (9, vI x9), (15, vI x15), (16, vI r_3), (17, vI r_4), (18, vI (x18 + 1))]) 8 [1, 2, 3, 4, 5, 6, 7, 8, 0] d_M_equalize_424 rfl (by decide) hr rfl ?_
        refine EV_goto (tgt := 343) d_M_equalize_427 (by decide) ?_
        exact ih (x5 + 4) x6 x7 x9 x15 r_3 r_4 (x18 + 1) (sA (sA (sA (sA m 24 x5 x16) 24 (x5 + 1) x7) 24 (x5 + 2) x17) 24 (x5 + 3) x9) H
theorem ct_M_equalize_328 {l : Launch} {K : Int → Ob → Prop} {K' : Option AV → List AC → Prop} {L32 : Int → Ob → Prop} {x5 : Int} {x6 : Int} {x7 : Int} {x8 : Int} {x9 : Int} {x15 : Int} {m : Ob} (hL32 : ∀ (x5 : Int) (m : Ob), L32 x5 m → EV l prog_13_method_31_code "PrunedSearchModel" 19 (some .boolean) 4 32 [(0, vR 0), (5, vI x5)] [] (shM m) K') (H : M_equalize_328 L32 x5 x6 x7 x8 x9 x15 m K) (hK : ∀ (r : Int) (m' : Ob), K r m' → K' (some (vI r)) (shM m')) : EV l prog_13_method_31_code "PrunedSearchModel" 19 (some .boolean) 4 328 [(0, vR 0), (5, vI x5), (6, vI x6), (7, vI x7), (8, vI x8), (9, vI x9), (15, vI x15)] [] (shM m) K' := by
  refine EV_iload 2 d_M_equalize_328 rfl ?_
  refine EV_iconst d_M_equalize_330 ⟨by decide, by decide⟩ ?_
  obtain ⟨hr, H⟩ := H
  refine EV_iadd d_M_equalize_331 hr ?_
  refine EV_istore (lv' := [(0, vR 0), (5, vI x5), (6, vI x6), (7, vI x7), (8, vI x8), (9, vI x9), (15, vI x15), (16, vI (x6 + 1))]) [1, 2, 3, 4, 5, 6, 7, 0] d_M_equalize_332 (by decide) rfl ?_
  refine EV_iload 4 d_M_equalize_334 rfl ?_
  refine EV_iconst d_M_equalize_336 ⟨by decide, by decide⟩ ?_
  obtain ⟨hr, H⟩ := H
  refine EV_iadd d_M_equalize_337 hr ?_
  refine EV_istore (lv' := [(0, vR 0), (5, vI x5), (6, vI x6), (7, vI x7), (8, vI x8), (9, vI x9), (15, vI x15), (16, vI (x6 + 1)), (17, vI (x8 + 1))]) [1, 2, 3, 4, 5, 6, 7, 8, 0] d_M_equalize_338 (by decide) rfl ?_
  refine EV_iconst d_M_equalize_340 ⟨by decide, by decide⟩ ?_
  refine EV_istore (lv' := [(0, vR 0), (5, vI x5), (6, vI x6), (7, vI x7), (8, vI x8), (9, vI x9), (15, vI x15), (16, vI (x6 + 1)), (17, vI (x8 + 1)), (18, vI 0)]) [1, 2, 3, 4, 5, 6, 7, 8, 9, 0] d_M_equalize_341 (by decide) rfl ?_
  refine EV_lv (lv' := [(0, vR 0), (5, vI x5), (6, vI x6), (7, vI x7), (9, vI x9), (15, vI x15), (16, vI (x6 + 1)), (17, vI (x8 + 1)), (18, vI 0)]) [0, 1, 2, 3, 5, 6, 7, 8, 9] rfl ?_
  obtain ⟨n, H⟩ := H
  exact ct_M_equalize_343 hL32 hK n x5 x6 x7 x9 x15 (x6 + 1) (x8 + 1) 0 m H
theorem ct_M_equalize_286 {l : Launch} {K : Int → Ob → Prop} {K' : Option AV → List AC → Prop} {L32 : Int → Ob → Prop} {x5 : Int} {x6 : Int} {x7 : Int} {x8 : Int} {x9 : Int} {x15 : Int} {m : Ob} (hL32 : ∀ (x5 : Int) (m : Ob), L32 x5 m → EV l prog_13_method_31_code "PrunedSearchModel" 19 (some .boolean) 4 32 [(0, vR 0), (5, vI x5)] [] (shM m) K') (H : M_equalize_286 L32 x5 x6 x7 x8 x9 x15 m K) (hK : ∀ (r : Int) (m' : Ob), K r m' → K' (some (vI r)) (shM m')) : EV l prog_13_method_31_code "PrunedSearchModel" 19 (some .boolean) 4 286 [(0, vR 0), (5, vI x5), (6, vI x6), (7, vI x7), (8, vI x8), (9, vI x9), (15, vI x15)] [] (shM m) K' := by
  refine EV_iload 6 d_M_equalize_286 rfl ?_
  refine EV_if_ne (tgt := 328) d_M_equalize_288 (by decide) (fun hc => ?_) (fun hc => ?_)
  · have H := H.1 hc
    exact ct_M_equalize_328 hL32 H hK
  · have H := H.2 hc
    refine EV_aload_n 0 d_M_equalize_291 rfl rfl ?_
    refine EV_get (j := 23) d_M_equalize_292 shM_0 rfl fI11 (by decide) k_977 rfl ?_
    refine EV_iload 2 d_M_equalize_295 rfl ?_
    obtain ⟨hi, H⟩ := H
    refine EV_lald d_M_equalize_297 shM_13 hi ?_
    refine EV_aload_n 0 d_M_equalize_298 rfl rfl ?_
    refine EV_get (j := 23) d_M_equalize_299 shM_0 rfl fI11 (by decide) k_977 rfl ?_
    refine EV_iload 4 d_M_equalize_302 rfl ?_
    obtain ⟨hi, H⟩ := H
    refine EV_lald d_M_equalize_304 shM_13 hi ?_
    refine EV_lcmp_ne (tgt := 326) d_M_equalize_305 d_M_equalize_306 (by decide) (fun hc => ?_) (fun hc => ?_)
    · have H := H.1 hc
      refine EV_iconst d_M_equalize_326 ⟨by decide, by decide⟩ ?_
      exact EV_iret d_M_equalize_327 rfl (nw_bool (by decide)) (hK _ _ H)
    · have H := H.2 hc
      refine EV_aload_n 0 d_M_equalize_309 rfl rfl ?_
      refine EV_get (j := 24) d_M_equalize_310 shM_0 rfl fI11 (by decide) k_978 rfl ?_
      refine EV_iload 2 d_M_equalize_313 rfl ?_
      obtain ⟨hi, H⟩ := H
      refine EV_iald d_M_equalize_315 shM_14 hi ?_
      refine EV_aload_n 0 d_M_equalize_316 rfl rfl ?_
      refine EV_get (j := 24) d_M_equalize_317 shM_0 rfl fI11 (by decide) k_978 rfl ?_
      refine EV_iload 4 d_M_equalize_320 rfl ?_
      obtain ⟨hi, H⟩ := H
      refine EV_iald d_M_equalize_322 shM_14 hi ?_
      refine EV_icmp_eq (tgt := 328) d_M_equalize_323 (by decide) (fun hc => ?_) (fun hc => ?_)
      · have H := H.1 hc
        exact ct_M_equalize_328 hL32 H hK
      · have H := H.2 hc
        refine EV_iconst d_M_equalize_326 ⟨by decide, by decide⟩ ?_
        exact EV_iret d_M_equalize_327 rfl (nw_bool (by decide)) (hK _ _ H)
theorem ct_M_equalize_234 {l : Launch} {K : Int → Ob → Prop} {K' : Option AV → List AC → Prop} {L32 : Int → Ob → Prop} {x5 : Int} {x6 : Int} {x7 : Int} {x8 : Int} {x9 : Int} {x10 : Int} {x12 : Int} {x13 : Int} {x14 : Int} {s0 : Int} {m : Ob} (hL32 : ∀ (x5 : Int) (m : Ob), L32 x5 m → EV l prog_13_method_31_code "PrunedSearchModel" 19 (some .boolean) 4 32 [(0, vR 0), (5, vI x5)] [] (shM m) K') (H : M_equalize_234 L32 x5 x6 x7 x8 x9 x10 x12 x13 x14 s0 m K) (hK : ∀ (r : Int) (m' : Ob), K r m' → K' (some (vI r)) (shM m')) : EV l prog_13_method_31_code "PrunedSearchModel" 19 (some .boolean) 4 234 [(0, vR 0), (5, vI x5), (6, vI x6), (7, vI x7), (8, vI x8), (9, vI x9), (10, vI x10), (12, vI x12), (13, vI x13), (14, vI x14)] [vI s0] (shM m) K' := by
  refine EV_istore (lv' := [(0, vR 0), (5, vI x5), (6, vI x6), (7, vI x7), (8, vI x8), (9, vI x9), (10, vI x10), (12, vI x12), (13, vI x13), (14, vI x14), (15, vI s0)]) [1, 2, 3, 4, 5, 6, 7, 8, 9, 10, 0] d_M_equalize_234 (by decide) rfl ?_
  refine EV_iload 10 d_M_equalize_236 rfl ?_
  refine EV_if_eq (tgt := 286) d_M_equalize_238 (by decide) (fun hc => ?_) (fun hc => ?_)
  · have H := H.1 hc
    refine EV_lv (lv' := [(0, vR 0), (5, vI x5), (6, vI x6), (7, vI x7), (8, vI x8), (9, vI x9), (15, vI s0)]) [0, 1, 2, 3, 4, 5, 10] rfl ?_
    exact ct_M_equalize_286 hL32 H hK
  · have H := H.2 hc
    refine EV_iload 9 d_M_equalize_241 rfl ?_
    refine EV_if_ne (tgt := 286) d_M_equalize_243 (by decide) (fun hc => ?_) (fun hc => ?_)
    · have H := H.1 hc
      refine EV_lv (lv' := [(0, vR 0), (5, vI x5), (6, vI x6), (7, vI x7), (8, vI x8), (9, vI x9), (15, vI s0)]) [0, 1, 2, 3, 4, 5, 10] rfl ?_
      exact ct_M_equalize_286 hL32 H hK
    · have H := H.2 hc
      refine EV_iload 6 d_M_equalize_246 rfl ?_
      refine EV_if_eq (tgt := 269) d_M_equalize_248 (by decide) (fun hc => ?_) (fun hc => ?_)
      · have H := H.1 hc
        refine EV_aload_n 0 d_M_equalize_269 rfl rfl ?_
        refine EV_iload 8 d_M_equalize_270 rfl ?_
        refine EV_iload 2 d_M_equalize_272 rfl ?_
        refine EV_iload 3 d_M_equalize_274 rfl ?_
        refine EV_iload 1 d_M_equalize_276 rfl ?_
        refine EV_callV (as := [vI x13, vI x6, vI x7, vI x5]) (st := []) d_M_equalize_278 k_1262 k_1264 kp_67 k_12 k_1265 shM_0 rfl pd_27 ⟨by decide, by decide, Nat.le_of_ble_eq_true rfl⟩ rfl (ct_M_bind H (fun r_6 m_5 H => ?_))
        refine EV_if_ne (tgt := 286) d_M_equalize_281 (by decide) (fun hc => ?_) (fun hc => ?_)
        · have H := H.1 hc
          refine EV_lv (lv' := [(0, vR 0), (5, vI x5), (6, vI x6), (7, vI x7), (8, vI x8), (9, vI x9), (15, vI s0)]) [0, 1, 2, 3, 4, 5, 10] rfl ?_
          exact ct_M_equalize_286 hL32 H hK
        · have H := H.2 hc
          refine EV_iconst d_M_equalize_284 ⟨by decide, by decide⟩ ?_
          exact EV_iret d_M_equalize_285 rfl (nw_bool (by decide)) (hK _ _ H)
      · have H := H.2 hc
        refine EV_aload_n 0 d_M_equalize_251 rfl rfl ?_
        refine EV_iload 7 d_M_equalize_252 rfl ?_
        refine EV_iload 4 d_M_equalize_254 rfl ?_
        refine EV_iload 5 d_M_equalize_256 rfl ?_
        refine EV_iload 1 d_M_equalize_258 rfl ?_
        refine EV_callV (as := [vI x12, vI x8, vI x9, vI x5]) (st := []) d_M_equalize_260 k_1262 k_1264 kp_67 k_12 k_1265 shM_0 rfl pd_27 ⟨by decide, by decide, Nat.le_of_ble_eq_true rfl⟩ rfl (ct_M_bind H (fun r_8 m_7 H => ?_))
        refine EV_if_eq (tgt := 284) d_M_equalize_263 (by decide) (fun hc => ?_) (fun hc => ?_)
        · have H := H.1 hc
          refine EV_iconst d_M_equalize_284 ⟨by decide, by decide⟩ ?_
          exact EV_iret d_M_equalize_285 rfl (nw_bool (by decide)) (hK _ _ H)
        · have H := H.2 hc
          refine EV_goto (tgt := 286) d_M_equalize_266 (by decide) ?_
          refine EV_lv (lv' := [(0, vR 0), (5, vI x5), (6, vI x6), (7, vI x7), (8, vI x8), (9, vI x9), (15, vI s0)]) [0, 1, 2, 3, 4, 5, 10] rfl ?_
          exact ct_M_equalize_286 hL32 H hK
theorem ct_M_equalize_229 {l : Launch} {K : Int → Ob → Prop} {K' : Option AV → List AC → Prop} {L32 : Int → Ob → Prop} {x5 : Int} {x6 : Int} {x7 : Int} {x8 : Int} {x9 : Int} {x10 : Int} {x12 : Int} {x13 : Int} {x14 : Int} {m : Ob} (hL32 : ∀ (x5 : Int) (m : Ob), L32 x5 m → EV l prog_13_method_31_code "PrunedSearchModel" 19 (some .boolean) 4 32 [(0, vR 0), (5, vI x5)] [] (shM m) K') (H : M_equalize_229 L32 x5 x6 x7 x8 x9 x10 x12 x13 x14 m K) (hK : ∀ (r : Int) (m' : Ob), K r m' → K' (some (vI r)) (shM m')) : EV l prog_13_method_31_code "PrunedSearchModel" 19 (some .boolean) 4 229 [(0, vR 0), (5, vI x5), (6, vI x6), (7, vI x7), (8, vI x8), (9, vI x9), (10, vI x10), (12, vI x12), (13, vI x13), (14, vI x14)] [] (shM m) K' := by
  refine EV_iconst d_M_equalize_229 ⟨by decide, by decide⟩ ?_
  refine EV_goto (tgt := 234) d_M_equalize_230 (by decide) ?_
  exact ct_M_equalize_234 hL32 H hK
theorem ct_M_equalize_217 {l : Launch} {K : Int → Ob → Prop} {K' : Option AV → List AC → Prop} {L32 : Int → Ob → Prop} {x5 : Int} {x6 : Int} {x7 : Int} {x8 : Int} {x9 : Int} {x10 : Int} {x11 : Int} {x12 : Int} {x13 : Int} {s0 : Int} {m : Ob} (hL32 : ∀ (x5 : Int) (m : Ob), L32 x5 m → EV l prog_13_method_31_code "PrunedSearchModel" 19 (some .boolean) 4 32 [(0, vR 0), (5, vI x5)] [] (shM m) K') (H : M_equalize_217 L32 x5 x6 x7 x8 x9 x10 x11 x12 x13 s0 m K) (hK : ∀ (r : Int) (m' : Ob), K r m' → K' (some (vI r)) (shM m')) : EV l prog_13_method_31_code "PrunedSearchModel" 19 (some .boolean) 4 217 [(0, vR 0), (5, vI x5), (6, vI x6), (7, vI x7), (8, vI x8), (9, vI x9), (10, vI x10), (11, vI x11), (12, vI x12), (13, vI x13)] [vI s0] (shM m) K' := by
  refine EV_istore (lv' := [(0, vR 0), (5, vI x5), (6, vI x6), (7, vI x7), (8, vI x8), (9, vI x9), (10, vI x10), (11, vI x11), (12, vI x12), (13, vI x13), (14, vI s0)]) [1, 2, 3, 4, 5, 6, 7, 8, 9, 10, 0] d_M_equalize_217 (by decide) rfl ?_
  refine EV_iload 6 d_M_equalize_219 rfl ?_
  refine EV_if_ne (tgt := 229) d_M_equalize_221 (by decide) (fun hc => ?_) (fun hc => ?_)
  · have H := H.1 hc
    refine EV_lv (lv' := [(0, vR 0), (5, vI x5), (6, vI x6), (7, vI x7), (8, vI x8), (9, vI x9), (10, vI x10), (12, vI x12), (13, vI x13), (14, vI s0)]) [0, 1, 2, 3, 4, 5, 6, 8, 9, 10] rfl ?_
    exact ct_M_equalize_229 hL32 H hK
  · have H := H.2 hc
    refine EV_iload 7 d_M_equalize_224 rfl ?_
    refine EV_if_eq (tgt := 233) d_M_equalize_226 (by decide) (fun hc => ?_) (fun hc => ?_)
    · have H := H.1 hc
      refine EV_iconst d_M_equalize_233 ⟨by decide, by decide⟩ ?_
      refine EV_lv (lv' := [(0, vR 0), (5, vI x5), (6, vI x6), (7, vI x7), (8, vI x8), (9, vI x9), (10, vI x10), (12, vI x12), (13, vI x13), (14, vI s0)]) [0, 1, 2, 3, 4, 5, 6, 8, 9, 10] rfl ?_
      exact ct_M_equalize_234 hL32 H hK
    · have H := H.2 hc
      refine EV_lv (lv' := [(0, vR 0), (5, vI x5), (6, vI x6), (7, vI x7), (8, vI x8), (9, vI x9), (10, vI x10), (12, vI x12), (13, vI x13), (14, vI s0)]) [0, 1, 2, 3, 4, 5, 6, 8, 9, 10] rfl ?_
      exact ct_M_equalize_229 hL32 H hK
theorem ct_M_equalize_216 {l : Launch} {K : Int → Ob → Prop} {K' : Option AV → List AC → Prop} {L32 : Int → Ob → Prop} {x5 : Int} {x6 : Int} {x7 : Int} {x8 : Int} {x9 : Int} {x10 : Int} {x11 : Int} {x12 : Int} {x13 : Int} {m : Ob} (hL32 : ∀ (x5 : Int) (m : Ob), L32 x5 m → EV l prog_13_method_31_code "PrunedSearchModel" 19 (some .boolean) 4 32 [(0, vR 0), (5, vI x5)] [] (shM m) K') (H : M_equalize_216 L32 x5 x6 x7 x8 x9 x10 x11 x12 x13 m K) (hK : ∀ (r : Int) (m' : Ob), K r m' → K' (some (vI r)) (shM m')) : EV l prog_13_method_31_code "PrunedSearchModel" 19 (some .boolean) 4 216 [(0, vR 0), (5, vI x5), (6, vI x6), (7, vI x7), (8, vI x8), (9, vI x9), (10, vI x10), (11, vI x11), (12, vI x12), (13, vI x13)] [] (shM m) K' := by
  refine EV_iconst d_M_equalize_216 ⟨by decide, by decide⟩ ?_
  exact ct_M_equalize_217 hL32 H hK
theorem ct_M_equalize_193 {l : Launch} {K : Int → Ob → Prop} {K' : Option AV → List AC → Prop} {L32 : Int → Ob → Prop} {x5 : Int} {x6 : Int} {x7 : Int} {x8 : Int} {x9 : Int} {x10 : Int} {x11 : Int} {x12 : Int} {s0 : Int} {m : Ob} (hL32 : ∀ (x5 : Int) (m : Ob), L32 x5 m → EV l prog_13_method_31_code "PrunedSearchModel" 19 (some .boolean) 4 32 [(0, vR 0), (5, vI x5)] [] (shM m) K') (H : M_equalize_193 L32 x5 x6 x7 x8 x9 x10 x11 x12 s0 m K) (hK : ∀ (r : Int) (m' : Ob), K r m' → K' (some (vI r)) (shM m')) : EV l prog_13_method_31_code "PrunedSearchModel" 19 (some .boolean) 4 193 [(0, vR 0), (5, vI x5), (6, vI x6), (7, vI x7), (8, vI x8), (9, vI x9), (10, vI x10), (11, vI x11), (12, vI x12)] [vI s0] (shM m) K' := by
  refine EV_istore (lv' := [(0, vR 0), (5, vI x5), (6, vI x6), (7, vI x7), (8, vI x8), (9, vI x9), (10, vI x10), (11, vI x11), (12, vI x12), (13, vI s0)]) [1, 2, 3, 4, 5, 6, 7, 8, 9, 0] d_M_equalize_193 (by decide) rfl ?_
  refine EV_iload 6 d_M_equalize_195 rfl ?_
  refine EV_if_eq (tgt := 216) d_M_equalize_197 (by decide) (fun hc => ?_) (fun hc => ?_)
  · have H := H.1 hc
    exact ct_M_equalize_216 hL32 H hK
  · have H := H.2 hc
    refine EV_iload 7 d_M_equalize_200 rfl ?_
    refine EV_if_eq (tgt := 216) d_M_equalize_202 (by decide) (fun hc => ?_) (fun hc => ?_)
    · have H := H.1 hc
      exact ct_M_equalize_216 hL32 H hK
    · have H := H.2 hc
      refine EV_iload 8 d_M_equalize_205 rfl ?_
      refine EV_iload 9 d_M_equalize_207 rfl ?_
      refine EV_icmp_ne (tgt := 216) d_M_equalize_209 (by decide) (fun hc => ?_) (fun hc => ?_)
      · have H := H.1 hc
        exact ct_M_equalize_216 hL32 H hK
      · have H := H.2 hc
        refine EV_iconst d_M_equalize_212 ⟨by decide, by decide⟩ ?_
        refine EV_goto (tgt := 217) d_M_equalize_213 (by decide) ?_
        exact ct_M_equalize_217 hL32 H hK
theorem ct_M_equalize_168 {l : Launch} {K : Int → Ob → Prop} {K' : Option AV → List AC → Prop} {L32 : Int → Ob → Prop} {x5 : Int} {x6 : Int} {x7 : Int} {x8 : Int} {x9 : Int} {x10 : Int} {x11 : Int} {s0 : Int} {m : Ob} (hL32 : ∀ (x5 : Int) (m : Ob), L32 x5 m → EV l prog_13_method_31_code "PrunedSearchModel" 19 (some .boolean) 4 32 [(0, vR 0), (5, vI x5)] [] (shM m) K') (H : M_equalize_168 L32 x5 x6 x7 x8 x9 x10 x11 s0 m K) (hK : ∀ (r : Int) (m' : Ob), K r m' → K' (some (vI r)) (shM m')) : EV l prog_13_method_31_code "PrunedSearchModel" 19 (some .boolean) 4 168 [(0, vR 0), (5, vI x5), (6, vI x6), (7, vI x7), (8, vI x8), (9, vI x9), (10, vI x10), (11, vI x11)] [vI s0] (shM m) K' := by
  refine EV_istore (lv' := [(0, vR 0), (5, vI x5), (6, vI x6), (7, vI x7), (8, vI x8), (9, vI x9), (10, vI x10), (11, vI x11), (12, vI s0)]) [1, 2, 3, 4, 5, 6, 7, 8, 0] d_M_equalize_168 (by decide) rfl ?_
  refine EV_iload 7 d_M_equalize_170 rfl ?_
  refine EV_if_eq (tgt := 192) d_M_equalize_172 (by decide) (fun hc => ?_) (fun hc => ?_)
  · have H := H.1 hc
    refine EV_iconst d_M_equalize_192 ⟨by decide, by decide⟩ ?_
    exact ct_M_equalize_193 hL32 H hK
  · have H := H.2 hc
    refine EV_bipush d_M_equalize_175 (by decide +kernel) ⟨by decide, by decide⟩ ?_
    refine EV_iload 5 d_M_equalize_177 rfl ?_
    obtain ⟨hr, H⟩ := H
    refine EV_imul d_M_equalize_179 hr ?_
    refine EV_aload_n 0 d_M_equalize_180 rfl rfl ?_
    refine EV_get (j := 23) d_M_equalize_181 shM_0 rfl fI11 (by decide) k_977 rfl ?_
    refine EV_iload 4 d_M_equalize_184 rfl ?_
    obtain ⟨hi, H⟩ := H
    refine EV_lald d_M_equalize_186 shM_13 hi ?_
    obtain ⟨h0, H⟩ := H
    refine EV_l2i d_M_equalize_187 h0 ?_
    obtain ⟨hr, H⟩ := H
    refine EV_iadd d_M_equalize_188 hr ?_
    refine EV_goto (tgt := 193) d_M_equalize_189 (by decide) ?_
    exact ct_M_equalize_193 hL32 H hK
theorem ct_M_equalize_143 {l : Launch} {K : Int → Ob → Prop} {K' : Option AV → List AC → Prop} {L32 : Int → Ob → Prop} {x5 : Int} {x6 : Int} {x7 : Int} {x8 : Int} {x9 : Int} {x10 : Int} {s0 : Int} {m : Ob} (hL32 : ∀ (x5 : Int) (m : Ob), L32 x5 m → EV l prog_13_method_31_code "PrunedSearchModel" 19 (some .boolean) 4 32 [(0, vR 0), (5, vI x5)] [] (shM m) K') (H : M_equalize_143 L32 x5 x6 x7 x8 x9 x10 s0 m K) (hK : ∀ (r : Int) (m' : Ob), K r m' → K' (some (vI r)) (shM m')) : EV l prog_13_method_31_code "PrunedSearchModel" 19 (some .boolean) 4 143 [(0, vR 0), (5, vI x5), (6, vI x6), (7, vI x7), (8, vI x8), (9, vI x9), (10, vI x10)] [vI s0] (shM m) K' := by
  refine EV_istore (lv' := [(0, vR 0), (5, vI x5), (6, vI x6), (7, vI x7), (8, vI x8), (9, vI x9), (10, vI x10), (11, vI s0)]) [1, 2, 3, 4, 5, 6, 7, 0] d_M_equalize_143 (by decide) rfl ?_
  refine EV_iload 6 d_M_equalize_145 rfl ?_
  refine EV_if_eq (tgt := 167) d_M_equalize_147 (by decide) (fun hc => ?_) (fun hc => ?_)
  · have H := H.1 hc
    refine EV_iconst d_M_equalize_167 ⟨by decide, by decide⟩ ?_
    exact ct_M_equalize_168 hL32 H hK
  · have H := H.2 hc
    refine EV_bipush d_M_equalize_150 (by decide +kernel) ⟨by decide, by decide⟩ ?_
    refine EV_iload 3 d_M_equalize_152 rfl ?_
    obtain ⟨hr, H⟩ := H
    refine EV_imul d_M_equalize_154 hr ?_
    refine EV_aload_n 0 d_M_equalize_155 rfl rfl ?_
    refine EV_get (j := 23) d_M_equalize_156 shM_0 rfl fI11 (by decide) k_977 rfl ?_
    refine EV_iload 2 d_M_equalize_159 rfl ?_
    obtain ⟨hi, H⟩ := H
    refine EV_lald d_M_equalize_161 shM_13 hi ?_
    obtain ⟨h0, H⟩ := H
    refine EV_l2i d_M_equalize_162 h0 ?_
    obtain ⟨hr, H⟩ := H
    refine EV_iadd d_M_equalize_163 hr ?_
    refine EV_goto (tgt := 168) d_M_equalize_164 (by decide) ?_
    exact ct_M_equalize_168 hL32 H hK
theorem ct_M_equalize_125 {l : Launch} {K : Int → Ob → Prop} {K' : Option AV → List AC → Prop} {L32 : Int → Ob → Prop} {x5 : Int} {x6 : Int} {x7 : Int} {x8 : Int} {x9 : Int} {s0 : Int} {m : Ob} (hL32 : ∀ (x5 : Int) (m : Ob), L32 x5 m → EV l prog_13_method_31_code "PrunedSearchModel" 19 (some .boolean) 4 32 [(0, vR 0), (5, vI x5)] [] (shM m) K') (H : M_equalize_125 L32 x5 x6 x7 x8 x9 s0 m K) (hK : ∀ (r : Int) (m' : Ob), K r m' → K' (some (vI r)) (shM m')) : EV l prog_13_method_31_code "PrunedSearchModel" 19 (some .boolean) 4 125 [(0, vR 0), (5, vI x5), (6, vI x6), (7, vI x7), (8, vI x8), (9, vI x9)] [vI s0] (shM m) K' := by
  refine EV_istore (lv' := [(0, vR 0), (5, vI x5), (6, vI x6), (7, vI x7), (8, vI x8), (9, vI x9), (10, vI s0)]) [1, 2, 3, 4, 5, 6, 0] d_M_equalize_125 (by decide) rfl ?_
  refine EV_aload_n 0 d_M_equalize_127 rfl rfl ?_
  refine EV_get (j := 24) d_M_equalize_128 shM_0 rfl fI11 (by decide) k_978 rfl ?_
  refine EV_iload 4 d_M_equalize_131 rfl ?_
  obtain ⟨hi, H⟩ := H
  refine EV_iald d_M_equalize_133 shM_14 hi ?_
  refine EV_iconst d_M_equalize_134 ⟨by decide, by decide⟩ ?_
  refine EV_icmp_ne (tgt := 142) d_M_equalize_135 (by decide) (fun hc => ?_) (fun hc => ?_)
  · have H := H.1 hc
    refine EV_iconst d_M_equalize_142 ⟨by decide, by decide⟩ ?_
    exact ct_M_equalize_143 hL32 H hK
  · have H := H.2 hc
    refine EV_iconst d_M_equalize_138 ⟨by decide, by decide⟩ ?_
    refine EV_goto (tgt := 143) d_M_equalize_139 (by decide) ?_
    exact ct_M_equalize_143 hL32 H hK
theorem ct_M_equalize_32 {l : Launch} {K : Int → Ob → Prop} {K' : Option AV → List AC → Prop} (hK : ∀ (r : Int) (m' : Ob), K r m' → K' (some (vI r)) (shM m')) : ∀ (n : Nat) (x5 : Int) (m : Ob), M_equalize_32 n x5 m K → EV l prog_13_method_31_code "PrunedSearchModel" 19 (some .boolean) 4 32 [(0, vR 0), (5, vI x5)] [] (shM m) K' := by
  intro n
  induction n with
  | zero =>
    intro x5 m H
    exact H.elim
  | succ n ih =>
    intro x5 m H
    refine EV_iload 1 d_M_equalize_32 rfl ?_
    refine EV_if_le (tgt := 433) d_M_equalize_34 (by decide) (fun hc => ?_) (fun hc => ?_)
    · have H := H.1 hc
      refine EV_iconst d_M_equalize_433 ⟨by decide, by decide⟩ ?_
      exact EV_iret d_M_equalize_434 rfl (nw_bool (by decide)) (hK _ _ H)
    · have H := H.2 hc
      refine EV_iload 1 d_M_equalize_37 rfl ?_
      refine EV_iconst d_M_equalize_39 ⟨by decide, by decide⟩ ?_
      obtain ⟨hr, H⟩ := H
      refine EV_isub d_M_equalize_40 hr ?_
      refine EV_istore (lv' := [(0, vR 0), (5, vI (x5 - 4))]) [1, 0] d_M_equalize_41 (by decide) rfl ?_
      refine EV_aload_n 0 d_M_equalize_43 rfl rfl ?_
      refine EV_aload_n 0 d_M_equalize_44 rfl rfl ?_
      refine EV_get (j := 50) d_M_equalize_45 shM_0 rfl fI11 (by decide) k_1004 rfl ?_
      refine EV_iload 1 d_M_equalize_48 rfl ?_
      obtain ⟨hi, H⟩ := H
      refine EV_iald d_M_equalize_50 shM_29 hi ?_
      refine EV_aload_n 0 d_M_equalize_51 rfl rfl ?_
      refine EV_get (j := 50) d_M_equalize_52 shM_0 rfl fI11 (by decide) k_1004 rfl ?_
      refine EV_iload 1 d_M_equalize_55 rfl ?_
      refine EV_iconst d_M_equalize_57 ⟨by decide, by decide⟩ ?_
      obtain ⟨hr, H⟩ := H
      refine EV_iadd d_M_equalize_58 hr ?_
      obtain ⟨hi, H⟩ := H
      refine EV_iald d_M_equalize_59 shM_29 hi ?_
      refine EV_callV (as := [vI (m.2.1 24 (x5 - 4)), vI (m.2.1 24 ((x5 - 4) + 1))]) (st := []) d_M_equalize_60 k_1250 k_1252 kp_64 k_12 k_1253 shM_0 rfl pd_23 ⟨by decide, by decide, Nat.le_of_ble_eq_true rfl⟩ rfl (ct_M_follow H (fun m_1 H => ?_))
      refine EV_aload_n 0 d_M_equalize_63 rfl rfl ?_
      refine EV_get (j := 48) d_M_equalize_64 shM_0 rfl fI11 (by decide) k_1002 rfl ?_
      refine EV_istore (lv' := [(0, vR 0), (5, vI (x5 - 4)), (6, vI (m_1.1 19))]) [1, 2, 0] d_M_equalize_67 (by decide) rfl ?_
      refine EV_aload_n 0 d_M_equalize_69 rfl rfl ?_
      refine EV_get (j := 49) d_M_equalize_70 shM_0 rfl fI11 (by decide) k_1003 rfl ?_
      refine EV_istore (lv' := [(0, vR 0), (5, vI (x5 - 4)), (6, vI (m_1.1 19)), (7, vI (m_1.1 20))]) [1, 2, 3, 0] d_M_equalize_73 (by decide) rfl ?_
      refine EV_aload_n 0 d_M_equalize_75 rfl rfl ?_
      refine EV_aload_n 0 d_M_equalize_76 rfl rfl ?_
      refine EV_get (j := 50) d_M_equalize_77 shM_0 rfl fI11 (by decide) k_1004 rfl ?_
      refine EV_iload 1 d_M_equalize_80 rfl ?_
      refine EV_iconst d_M_equalize_82 ⟨by decide, by decide⟩ ?_
      obtain ⟨hr, H⟩ := H
      refine EV_iadd d_M_equalize_83 hr ?_
      obtain ⟨hi, H⟩ := H
      refine EV_iald d_M_equalize_84 shM_29 hi ?_
      refine EV_aload_n 0 d_M_equalize_85 rfl rfl ?_
      refine EV_get (j := 50) d_M_equalize_86 shM_0 rfl fI11 (by decide) k_1004 rfl ?_
      refine EV_iload 1 d_M_equalize_89 rfl ?_
      refine EV_iconst d_M_equalize_91 ⟨by decide, by decide⟩ ?_
      obtain ⟨hr, H⟩ := H
      refine EV_iadd d_M_equalize_92 hr ?_
      obtain ⟨hi, H⟩ := H
      refine EV_iald d_M_equalize_93 shM_29 hi ?_
      refine EV_callV (as := [vI (m_1.2.1 24 ((x5 - 4) + 2)), vI (m_1.2.1 24 ((x5 - 4) + 3))]) (st := []) d_M_equalize_94 k_1250 k_1252 kp_64 k_12 k_1253 shM_0 rfl pd_23 ⟨by decide, by decide, Nat.le_of_ble_eq_true rfl⟩ rfl (ct_M_follow H (fun m_2 H => ?_))
      refine EV_aload_n 0 d_M_equalize_97 rfl rfl ?_
      refine EV_get (j := 48) d_M_equalize_98 shM_0 rfl fI11 (by decide) k_1002 rfl ?_
      refine EV_istore (lv' := [(0, vR 0), (5, vI (x5 - 4)), (6, vI (m_1.1 19)), (7, vI (m_1.1 20)), (8, vI (m_2.1 19))]) [1, 2, 3, 4, 0] d_M_equalize_101 (by decide) rfl ?_
      refine EV_aload_n 0 d_M_equalize_103 rfl rfl ?_
      refine EV_get (j := 49) d_M_equalize_104 shM_0 rfl fI11 (by decide) k_1003 rfl ?_
      refine EV_istore (lv' := [(0, vR 0), (5, vI (x5 - 4)), (6, vI (m_1.1 19)), (7, vI (m_1.1 20)), (8, vI (m_2.1 19)), (9, vI (m_2.1 20))]) [1, 2, 3, 4, 5, 0] d_M_equalize_107 (by decide) rfl ?_
      refine EV_aload_n 0 d_M_equalize_109 rfl rfl ?_
      refine EV_get (j := 24) d_M_equalize_110 shM_0 rfl fI11 (by decide) k_978 rfl ?_
      refine EV_iload 2 d_M_equalize_113 rfl ?_
      obtain ⟨hi, H⟩ := H
      refine EV_iald d_M_equalize_115 shM_14 hi ?_
      refine EV_iconst d_M_equalize_116 ⟨by decide, by decide⟩ ?_
      refine EV_icmp_ne (tgt := 124) d_M_equalize_117 (by decide) (fun hc => ?_) (fun hc => ?_)
      · have H := H.1 hc
        refine EV_iconst d_M_equalize_124 ⟨by decide, by decide⟩ ?_
        exact ct_M_equalize_125 (fun x5 m' H => ih x5 m' H) H hK
      · have H := H.2 hc
        refine EV_iconst d_M_equalize_120 ⟨by decide, by decide⟩ ?_
        refine EV_goto (tgt := 125) d_M_equalize_121 (by decide) ?_
        exact ct_M_equalize_125 (fun x5 m' H => ih x5 m' H) H hK
end
section
/-! printed by wip/gen/drive.py -/
theorem ct_M_equalize {l : Launch} {m : Ob} {x1 : Int} {x2 : Int} {x3 : Int} {x4 : Int} {K : Int → Ob → Prop} {K' : Option AV → List AC → Prop} (H : wp_M_equalize x1 x2 x3 x4 m K) (hK : ∀ (r : Int) (m' : Ob), K r m' → K' (some (vI r)) (shM m')) : MT l ⟨"PrunedSearchModel", "equalize", "(IIII)Z"⟩ prog_13_method_31_code 19 (some .boolean) 4 [vR 0, vI x1, vI x2, vI x3, vI x4] (shM m) K' := by
  unfold wp_M_equalize at H
  refine MT_of (lv := [(0, vR 0), (1, vI x1), (2, vI x2), (3, vI x3), (4, vI x4)]) rfl rfl (Nat.le_of_ble_eq_true rfl) rfl ?_
  refine EV_aload_n 0 d_M_equalize_0 rfl rfl ?_
  refine EV_get (j := 50) d_M_equalize_1 shM_0 rfl fI11 (by decide) k_1004 rfl ?_
  refine EV_iconst d_M_equalize_4 ⟨by decide, by decide⟩ ?_
  refine EV_iload_n 1 d_M_equalize_5 rfl rfl ?_
  obtain ⟨hi, H⟩ := H
  refine EV_iast d_M_equalize_6 shM_29 hi shM_29_s ?_
  refine EV_aload_n 0 d_M_equalize_7 rfl rfl ?_
  refine EV_get (j := 50) d_M_equalize_8 shM_0 rfl fI11 (by decide) k_1004 rfl ?_
  refine EV_iconst d_M_equalize_11 ⟨by decide, by decide⟩ ?_
  refine EV_iload_n 2 d_M_equalize_12 rfl rfl ?_
  obtain ⟨hi, H⟩ := H
  refine EV_iast d_M_equalize_13 shM_29 hi shM_29_s ?_
  refine EV_aload_n 0 d_M_equalize_14 rfl rfl ?_
  refine EV_get (j := 50) d_M_equalize_15 shM_0 rfl fI11 (by decide) k_1004 rfl ?_
  refine EV_iconst d_M_equalize_18 ⟨by decide, by decide⟩ ?_
  refine EV_iload_n 3 d_M_equalize_19 rfl rfl ?_
  obtain ⟨hi, H⟩ := H
  refine EV_iast d_M_equalize_20 shM_29 hi shM_29_s ?_
  refine EV_aload_n 0 d_M_equalize_21 rfl rfl ?_
  refine EV_get (j := 50) d_M_equalize_22 shM_0 rfl fI11 (by decide) k_1004 rfl ?_
  refine EV_iconst d_M_equalize_25 ⟨by decide, by decide⟩ ?_
  refine EV_iload 4 d_M_equalize_26 rfl ?_
  obtain ⟨hi, H⟩ := H
  refine EV_iast d_M_equalize_28 shM_29 hi shM_29_s ?_
  refine EV_iconst d_M_equalize_29 ⟨by decide, by decide⟩ ?_
  refine EV_istore (lv' := [(0, vR 0), (1, vI x1), (2, vI x2), (3, vI x3), (4, vI x4), (5, vI 4)]) [1, 2, 3, 4, 5, 0] d_M_equalize_30 (by decide) rfl ?_
  refine EV_lv (lv' := [(0, vR 0), (5, vI 4)]) [0, 5] rfl ?_
  obtain ⟨n, H⟩ := H
  exact ct_M_equalize_32 hK n 4 (sA (sA (sA (sA m 24 0 x1) 24 1 x2) 24 2 x3) 24 3 x4) H
theorem ct_M_symbolsOf_19 {l : Launch} {K : Int → Ob → Prop} {K' : Option AV → List AC → Prop} (hK : ∀ (r : Int) (m' : Ob), K r m' → K' (some (vI r)) (shM m')) : ∀ (n : Nat) (x3 : Int) (x4 : Int) (m : Ob), M_symbolsOf_19 n x3 x4 m K → EV l prog_13_method_28_code "PrunedSearchModel" 5 (some .int) 2 19 [(0, vR 0), (3, vI x3), (4, vI x4)] [] (shM m) K' := by
  intro n
  induction n with
  | zero =>
    intro x3 x4 m H
    exact H.elim
  | succ n ih =>
    intro x3 x4 m H
    refine EV_iload 2 d_M_symbolsOf_19 rfl ?_
    refine EV_if_le (tgt := 77) d_M_symbolsOf_21 (by decide) (fun hc => ?_) (fun hc => ?_)
    · have H := H.1 hc
      refine EV_iload_n 1 d_M_symbolsOf_77 rfl rfl ?_
      exact EV_iret d_M_symbolsOf_78 rfl (nw_int _) (hK _ _ H)
    · have H := H.2 hc
      refine EV_iload_n 1 d_M_symbolsOf_24 rfl rfl ?_
      refine EV_bipush d_M_symbolsOf_25 (by decide +kernel) ⟨by decide, by decide⟩ ?_
      refine EV_icmp_ge (tgt := 77) d_M_symbolsOf_27 (by decide) (fun hc => ?_) (fun hc => ?_)
      · have H := H.1 hc
        refine EV_iload_n 1 d_M_symbolsOf_77 rfl rfl ?_
        exact EV_iret d_M_symbolsOf_78 rfl (nw_int _) (hK _ _ H)
      · have H := H.2 hc
        refine EV_aload_n 0 d_M_symbolsOf_30 rfl rfl ?_
        refine EV_aload_n 0 d_M_symbolsOf_31 rfl rfl ?_
        refine EV_get (j := 50) d_M_symbolsOf_32 shM_0 rfl fI11 (by decide) k_1004 rfl ?_
        refine EV_iload 2 d_M_symbolsOf_35 rfl ?_
        refine EV_iconst d_M_symbolsOf_37 ⟨by decide, by decide⟩ ?_
        obtain ⟨hr, H⟩ := H
        refine EV_isub d_M_symbolsOf_38 hr ?_
        obtain ⟨hi, H⟩ := H
        refine EV_iald d_M_symbolsOf_39 shM_29 hi ?_
        refine EV_aload_n 0 d_M_symbolsOf_40 rfl rfl ?_
        refine EV_get (j := 50) d_M_symbolsOf_41 shM_0 rfl fI11 (by decide) k_1004 rfl ?_
        refine EV_iload 2 d_M_symbolsOf_44 rfl ?_
        refine EV_iconst d_M_symbolsOf_46 ⟨by decide, by decide⟩ ?_
        obtain ⟨hr, H⟩ := H
        refine EV_isub d_M_symbolsOf_47 hr ?_
        obtain ⟨hi, H⟩ := H
        refine EV_iald d_M_symbolsOf_48 shM_29 hi ?_
        refine EV_callV (as := [vI (m.2.1 24 (x4 - 2)), vI (m.2.1 24 (x4 - 1))]) (st := []) d_M_symbolsOf_49 k_1250 k_1252 kp_64 k_12 k_1253 shM_0 rfl pd_23 ⟨by decide, by decide, Nat.le_of_ble_eq_true rfl⟩ rfl (ct_M_follow H (fun m_1 H => ?_))
        refine EV_iload_n 1 d_M_symbolsOf_52 rfl rfl ?_
        refine EV_iconst d_M_symbolsOf_53 ⟨by decide, by decide⟩ ?_
        obtain ⟨hr, H⟩ := H
        refine EV_iadd d_M_symbolsOf_54 hr ?_
        refine EV_istore_n (lv' := [(0, vR 0), (3, vI (x3 + 1)), (4, vI x4)]) [1, 0, 2] d_M_symbolsOf_55 rfl (by decide) rfl ?_
        refine EV_aload_n 0 d_M_symbolsOf_56 rfl rfl ?_
        refine EV_aload_n 0 d_M_symbolsOf_57 rfl rfl ?_
        refine EV_get (j := 48) d_M_symbolsOf_58 shM_0 rfl fI11 (by decide) k_1002 rfl ?_
        refine EV_aload_n 0 d_M_symbolsOf_61 rfl rfl ?_
        refine EV_get (j := 49) d_M_symbolsOf_62 shM_0 rfl fI11 (by decide) k_1003 rfl ?_
        refine EV_iload 2 d_M_symbolsOf_65 rfl ?_
        refine EV_iconst d_M_symbolsOf_67 ⟨by decide, by decide⟩ ?_
        obtain ⟨hr, H⟩ := H
        refine EV_isub d_M_symbolsOf_68 hr ?_
        refine EV_callV (as := [vI (m_1.1 19), vI (m_1.1 20), vI (x4 - 2)]) (st := []) d_M_symbolsOf_69 k_1270 k_1272 kp_69 k_12 k_1273 shM_0 rfl pd_25 ⟨by decide, by decide, Nat.le_of_ble_eq_true rfl⟩ rfl (ct_M_pushAll H (fun r_3 m_2 H => ?_))
        refine EV_istore (lv' := [(0, vR 0), (3, vI (x3 + 1)), (4, vI r_3)]) [1, 2, 0] d_M_symbolsOf_72 (by decide) rfl ?_
        refine EV_goto (tgt := 19) d_M_symbolsOf_74 (by decide) ?_
        exact ih (x3 + 1) r_3 m_2 H
theorem ct_M_symbolsOf {l : Launch} {m : Ob} {x1 : Int} {x2 : Int} {K : Int → Ob → Prop} {K' : Option AV → List AC → Prop} (H : wp_M_symbolsOf x1 x2 m K) (hK : ∀ (r : Int) (m' : Ob), K r m' → K' (some (vI r)) (shM m')) : MT l ⟨"PrunedSearchModel", "symbolsOf", "(II)I"⟩ prog_13_method_28_code 5 (some .int) 2 [vR 0, vI x1, vI x2] (shM m) K' := by
  unfold wp_M_symbolsOf at H
  refine MT_of (lv := [(0, vR 0), (1, vI x1), (2, vI x2)]) rfl rfl (Nat.le_of_ble_eq_true rfl) rfl ?_
  refine EV_iconst d_M_symbolsOf_0 ⟨by decide, by decide⟩ ?_
  refine EV_istore_n (lv' := [(0, vR 0), (1, vI x1), (2, vI x2), (3, vI 0)]) [1, 2, 3, 0] d_M_symbolsOf_1 rfl (by decide) rfl ?_
  refine EV_aload_n 0 d_M_symbolsOf_2 rfl rfl ?_
  refine EV_get (j := 50) d_M_symbolsOf_3 shM_0 rfl fI11 (by decide) k_1004 rfl ?_
  refine EV_iconst d_M_symbolsOf_6 ⟨by decide, by decide⟩ ?_
  refine EV_iload_n 1 d_M_symbolsOf_7 rfl rfl ?_
  obtain ⟨hi, H⟩ := H
  refine EV_iast d_M_symbolsOf_8 shM_29 hi shM_29_s ?_
  refine EV_aload_n 0 d_M_symbolsOf_9 rfl rfl ?_
  refine EV_get (j := 50) d_M_symbolsOf_10 shM_0 rfl fI11 (by decide) k_1004 rfl ?_
  refine EV_iconst d_M_symbolsOf_13 ⟨by decide, by decide⟩ ?_
  refine EV_iload_n 2 d_M_symbolsOf_14 rfl rfl ?_
  obtain ⟨hi, H⟩ := H
  refine EV_iast d_M_symbolsOf_15 shM_29 hi shM_29_s ?_
  refine EV_iconst d_M_symbolsOf_16 ⟨by decide, by decide⟩ ?_
  refine EV_istore (lv' := [(0, vR 0), (1, vI x1), (2, vI x2), (3, vI 0), (4, vI 2)]) [1, 2, 3, 4, 0] d_M_symbolsOf_17 (by decide) rfl ?_
  refine EV_lv (lv' := [(0, vR 0), (3, vI 0), (4, vI 2)]) [0, 3, 4] rfl ?_
  obtain ⟨n, H⟩ := H
  exact ct_M_symbolsOf_19 hK n 0 2 (sA (sA m 24 0 x1) 24 1 x2) H
theorem ct_M_large_99 {l : Launch} {K : Int → Ob → Prop} {K' : Option AV → List AC → Prop} {x1 : Int} {m : Ob} (H : M_large_99 x1 m K) (hK : ∀ (r : Int) (m' : Ob), K r m' → K' (some (vI r)) (shM m')) : EV l prog_13_method_39_code "PrunedSearchModel" 3 (some .boolean) 3 99 [(1, vI x1)] [] (shM m) K' := by
  refine EV_iload_n 0 d_M_large_99 rfl rfl ?_
  refine EV_bipush d_M_large_100 (by decide +kernel) ⟨by decide, by decide⟩ ?_
  refine EV_icmp_le (tgt := 109) d_M_large_102 (by decide) (fun hc => ?_) (fun hc => ?_)
  · have H := H.1 hc
    refine EV_iconst d_M_large_109 ⟨by decide, by decide⟩ ?_
    exact EV_iret d_M_large_110 rfl (nw_bool (by decide)) (hK _ _ H)
  · have H := H.2 hc
    refine EV_iconst d_M_large_105 ⟨by decide, by decide⟩ ?_
    refine EV_goto (tgt := 110) d_M_large_106 (by decide) ?_
    exact EV_iret d_M_large_110 rfl (nw_bool (by decide)) (hK _ _ H)
theorem ct_M_large_65 {l : Launch} {K : Int → Ob → Prop} {K' : Option AV → List AC → Prop} (hK : ∀ (r : Int) (m' : Ob), K r m' → K' (some (vI r)) (shM m')) : ∀ (n : Nat) (x1 : Int) (x2 : Int) (m : Ob), M_large_65 n x1 x2 m K → EV l prog_13_method_39_code "PrunedSearchModel" 3 (some .boolean) 3 65 [(0, vR 0), (1, vI x1), (2, vI x2)] [] (shM m) K' := by
  intro n
  induction n with
  | zero =>
    intro x1 x2 m H
    exact H.elim
  | succ n ih =>
    intro x1 x2 m H
    refine EV_iload_n 2 d_M_large_65 rfl rfl ?_
    refine EV_aload_n 0 d_M_large_66 rfl rfl ?_
    refine EV_get (j := 31) d_M_large_67 shM_0 rfl fI11 (by decide) k_985 rfl ?_
    refine EV_icmp_ge (tgt := 99) d_M_large_70 (by decide) (fun hc => ?_) (fun hc => ?_)
    · have H := H.1 hc
      refine EV_lv (lv' := [(1, vI x1)]) [1] rfl ?_
      exact ct_M_large_99 H hK
    · have H := H.2 hc
      refine EV_iload_n 1 d_M_large_73 rfl rfl ?_
      refine EV_bipush d_M_large_74 (by decide +kernel) ⟨by decide, by decide⟩ ?_
      refine EV_icmp_ge (tgt := 99) d_M_large_76 (by decide) (fun hc => ?_) (fun hc => ?_)
      · have H := H.1 hc
        refine EV_lv (lv' := [(1, vI x1)]) [1] rfl ?_
        exact ct_M_large_99 H hK
      · have H := H.2 hc
        refine EV_iload_n 1 d_M_large_79 rfl rfl ?_
        refine EV_aload_n 0 d_M_large_80 rfl rfl ?_
        refine EV_aload_n 0 d_M_large_81 rfl rfl ?_
        refine EV_get (j := 32) d_M_large_82 shM_0 rfl fI11 (by decide) k_986 rfl ?_
        refine EV_iload_n 2 d_M_large_85 rfl rfl ?_
        obtain ⟨hi, H⟩ := H
        refine EV_iald d_M_large_86 shM_19 hi ?_
        refine EV_iconst d_M_large_87 ⟨by decide, by decide⟩ ?_
        refine EV_callV (as := [vI (m.2.1 14 x2), vI 0]) (st := [vI x1]) d_M_large_88 k_1282 k_1284 kp_72 k_12 k_1285 shM_0 rfl pd_28 ⟨by decide, by decide, Nat.le_of_ble_eq_true rfl⟩ rfl (ct_M_symbolsOf H (fun r_2 m_1 H => ?_))
        obtain ⟨hr, H⟩ := H
        refine EV_iadd d_M_large_91 hr ?_
        refine EV_istore_n (lv' := [(0, vR 0), (1, vI (x1 + r_2)), (2, vI x2)]) [1, 0, 2] d_M_large_92 rfl (by decide) rfl ?_
        obtain ⟨hr, H⟩ := H
        refine EV_iinc (lv' := [(0, vR 0), (1, vI (x1 + r_2)), (2, vI (x2 + 1))]) 2 [1, 2, 0] d_M_large_93 rfl (by decide) hr rfl ?_
        refine EV_goto (tgt := 65) d_M_large_96 (by decide) ?_
        exact ih (x1 + r_2) (x2 + 1) m_1 H
theorem ct_M_large_63 {l : Launch} {K : Int → Ob → Prop} {K' : Option AV → List AC → Prop} {x1 : Int} {m : Ob} (H : M_large_63 x1 m K) (hK : ∀ (r : Int) (m' : Ob), K r m' → K' (some (vI r)) (shM m')) : EV l prog_13_method_39_code "PrunedSearchModel" 3 (some .boolean) 3 63 [(0, vR 0), (1, vI x1)] [] (shM m) K' := by
  refine EV_iconst d_M_large_63 ⟨by decide, by decide⟩ ?_
  refine EV_istore_n (lv' := [(0, vR 0), (1, vI x1), (2, vI 0)]) [1, 2, 0] d_M_large_64 rfl (by decide) rfl ?_
  obtain ⟨n, H⟩ := H
  exact ct_M_large_65 hK n x1 0 m H
theorem ct_M_large_55 {l : Launch} {K : Int → Ob → Prop} {K' : Option AV → List AC → Prop} {L4 : Int → Int → Ob → Prop} {x2 : Int} {s0 : Int} {s1 : Int} {m : Ob} (hL4 : ∀ (x1 : Int) (x2 : Int) (m : Ob), L4 x1 x2 m → EV l prog_13_method_39_code "PrunedSearchModel" 3 (some .boolean) 3 4 [(0, vR 0), (1, vI x1), (2, vI x2)] [] (shM m) K') (H : M_large_55 L4 x2 s0 s1 m K) (hK : ∀ (r : Int) (m' : Ob), K r m' → K' (some (vI r)) (shM m')) : EV l prog_13_method_39_code "PrunedSearchModel" 3 (some .boolean) 3 55 [(0, vR 0), (2, vI x2)] [vI s0, vI s1] (shM m) K' := by
  obtain ⟨hr, H⟩ := H
  refine EV_iadd d_M_large_55 hr ?_
  refine EV_istore_n (lv' := [(0, vR 0), (1, vI (s1 + s0)), (2, vI x2)]) [1, 0, 2] d_M_large_56 rfl (by decide) rfl ?_
  obtain ⟨hr, H⟩ := H
  refine EV_iinc (lv' := [(0, vR 0), (1, vI (s1 + s0)), (2, vI (x2 + 1))]) 2 [1, 2, 0] d_M_large_57 rfl (by decide) hr rfl ?_
  refine EV_goto (tgt := 4) d_M_large_60 (by decide) ?_
  exact hL4 (s1 + s0) (x2 + 1) m H
theorem ct_M_large_4 {l : Launch} {K : Int → Ob → Prop} {K' : Option AV → List AC → Prop} (hK : ∀ (r : Int) (m' : Ob), K r m' → K' (some (vI r)) (shM m')) : ∀ (n : Nat) (x1 : Int) (x2 : Int) (m : Ob), M_large_4 n x1 x2 m K → EV l prog_13_method_39_code "PrunedSearchModel" 3 (some .boolean) 3 4 [(0, vR 0), (1, vI x1), (2, vI x2)] [] (shM m) K' := by
  intro n
  induction n with
  | zero =>
    intro x1 x2 m H
    exact H.elim
  | succ n ih =>
    intro x1 x2 m H
    refine EV_iload_n 2 d_M_large_4 rfl rfl ?_
    refine EV_aload_n 0 d_M_large_5 rfl rfl ?_
    refine EV_get (j := 42) d_M_large_6 shM_0 rfl fI11 (by decide) k_996 rfl ?_
    refine EV_icmp_ge (tgt := 63) d_M_large_9 (by decide) (fun hc => ?_) (fun hc => ?_)
    · have H := H.1 hc
      refine EV_lv (lv' := [(0, vR 0), (1, vI x1)]) [0, 1] rfl ?_
      exact ct_M_large_63 H hK
    · have H := H.2 hc
      refine EV_iload_n 1 d_M_large_12 rfl rfl ?_
      refine EV_bipush d_M_large_13 (by decide +kernel) ⟨by decide, by decide⟩ ?_
      refine EV_icmp_ge (tgt := 63) d_M_large_15 (by decide) (fun hc => ?_) (fun hc => ?_)
      · have H := H.1 hc
        refine EV_lv (lv' := [(0, vR 0), (1, vI x1)]) [0, 1] rfl ?_
        exact ct_M_large_63 H hK
      · have H := H.2 hc
        refine EV_iload_n 1 d_M_large_18 rfl rfl ?_
        refine EV_aload_n 0 d_M_large_19 rfl rfl ?_
        refine EV_get (j := 24) d_M_large_20 shM_0 rfl fI11 (by decide) k_978 rfl ?_
        refine EV_aload_n 0 d_M_large_23 rfl rfl ?_
        refine EV_get (j := 43) d_M_large_24 shM_0 rfl fI11 (by decide) k_997 rfl ?_
        refine EV_iload_n 2 d_M_large_27 rfl rfl ?_
        obtain ⟨hi, H⟩ := H
        refine EV_iald d_M_large_28 shM_24 hi ?_
        obtain ⟨hi, H⟩ := H
        refine EV_iald d_M_large_29 shM_14 hi ?_
        refine EV_bipush d_M_large_30 (by decide +kernel) ⟨by decide, by decide⟩ ?_
        refine EV_icmp_ne (tgt := 39) d_M_large_32 (by decide) (fun hc => ?_) (fun hc => ?_)
        · have H := H.1 hc
          refine EV_aload_n 0 d_M_large_39 rfl rfl ?_
          refine EV_aload_n 0 d_M_large_40 rfl rfl ?_
          refine EV_get (j := 43) d_M_large_41 shM_0 rfl fI11 (by decide) k_997 rfl ?_
          refine EV_iload_n 2 d_M_large_44 rfl rfl ?_
          obtain ⟨hi, H⟩ := H
          refine EV_iald d_M_large_45 shM_24 hi ?_
          refine EV_aload_n 0 d_M_large_46 rfl rfl ?_
          refine EV_get (j := 44) d_M_large_47 shM_0 rfl fI11 (by decide) k_998 rfl ?_
          refine EV_iload_n 2 d_M_large_50 rfl rfl ?_
          obtain ⟨hi, H⟩ := H
          refine EV_iald d_M_large_51 shM_25 hi ?_
          refine EV_callV (as := [vI (m.2.1 19 x2), vI (m.2.1 20 x2)]) (st := [vI x1]) d_M_large_52 k_1282 k_1284 kp_72 k_12 k_1285 shM_0 rfl pd_28 ⟨by decide, by decide, Nat.le_of_ble_eq_true rfl⟩ rfl (ct_M_symbolsOf H (fun r_4 m_3 H => ?_))
          refine EV_lv (lv' := [(0, vR 0), (2, vI x2)]) [0, 2] rfl ?_
          exact ct_M_large_55 (fun x1 x2 m' H => ih x1 x2 m' H) H hK
        · have H := H.2 hc
          refine EV_iconst d_M_large_35 ⟨by decide, by decide⟩ ?_
          refine EV_goto (tgt := 55) d_M_large_36 (by decide) ?_
          refine EV_lv (lv' := [(0, vR 0), (2, vI x2)]) [0, 2] rfl ?_
          exact ct_M_large_55 (fun x1 x2 m' H => ih x1 x2 m' H) H hK
theorem ct_M_large {l : Launch} {m : Ob} {K : Int → Ob → Prop} {K' : Option AV → List AC → Prop} (H : wp_M_large m K) (hK : ∀ (r : Int) (m' : Ob), K r m' → K' (some (vI r)) (shM m')) : MT l ⟨"PrunedSearchModel", "large", "()Z"⟩ prog_13_method_39_code 3 (some .boolean) 3 [vR 0] (shM m) K' := by
  unfold wp_M_large at H
  refine MT_of (lv := [(0, vR 0)]) rfl rfl (Nat.le_of_ble_eq_true rfl) rfl ?_
  refine EV_iconst d_M_large_0 ⟨by decide, by decide⟩ ?_
  refine EV_istore_n (lv' := [(0, vR 0), (1, vI 0)]) [1, 0] d_M_large_1 rfl (by decide) rfl ?_
  refine EV_iconst d_M_large_2 ⟨by decide, by decide⟩ ?_
  refine EV_istore_n (lv' := [(0, vR 0), (1, vI 0), (2, vI 0)]) [1, 2, 0] d_M_large_3 rfl (by decide) rfl ?_
  obtain ⟨n, H⟩ := H
  exact ct_M_large_4 hK n 0 0 m H
theorem ct_M_resolve {l : Launch} {m : Ob} {x1 : Int} {x2 : Int} {K : Ob → Prop} {K' : Option AV → List AC → Prop} (H : wp_M_resolve x1 x2 m K) (hK : ∀ (m' : Ob), K m' → K' none (shM m')) : MT l ⟨"PrunedSearchModel", "resolve", "(II)V"⟩ prog_13_method_41_code 5 none 5 [vR 0, vI x1, vI x2] (shM m) K' := by
  unfold wp_M_resolve at H
  refine MT_of (lv := [(0, vR 0), (1, vI x1), (2, vI x2)]) rfl rfl (Nat.le_of_ble_eq_true rfl) rfl ?_
  refine EV_aload_n 0 d_M_resolve_0 rfl rfl ?_
  refine EV_get (j := 43) d_M_resolve_1 shM_0 rfl fI11 (by decide) k_997 rfl ?_
  refine EV_aload_n 0 d_M_resolve_4 rfl rfl ?_
  refine EV_get (j := 42) d_M_resolve_5 shM_0 rfl fI11 (by decide) k_996 rfl ?_
  obtain ⟨hi, H⟩ := H
  refine EV_iald d_M_resolve_8 shM_24 hi ?_
  refine EV_istore_n (lv' := [(0, vR 0), (1, vI x1), (2, vI x2), (3, vI (m.2.1 19 (m.1 18)))]) [1, 2, 3, 0] d_M_resolve_9 rfl (by decide) rfl ?_
  refine EV_aload_n 0 d_M_resolve_10 rfl rfl ?_
  refine EV_get (j := 44) d_M_resolve_11 shM_0 rfl fI11 (by decide) k_998 rfl ?_
  refine EV_aload_n 0 d_M_resolve_14 rfl rfl ?_
  refine EV_get (j := 42) d_M_resolve_15 shM_0 rfl fI11 (by decide) k_996 rfl ?_
  obtain ⟨hi, H⟩ := H
  refine EV_iald d_M_resolve_18 shM_25 hi ?_
  refine EV_istore (lv' := [(0, vR 0), (1, vI x1), (2, vI x2), (3, vI (m.2.1 19 (m.1 18))), (4, vI (m.2.1 20 (m.1 18)))]) [1, 2, 3, 4, 0] d_M_resolve_19 (by decide) rfl ?_
  refine EV_aload_n 0 d_M_resolve_21 rfl rfl ?_
  refine EV_get (j := 37) d_M_resolve_22 shM_0 rfl fI11 (by decide) k_991 rfl ?_
  refine EV_aload_n 0 d_M_resolve_25 rfl rfl ?_
  refine EV_get (j := 36) d_M_resolve_26 shM_0 rfl fI11 (by decide) k_990 rfl ?_
  refine EV_iload_n 1 d_M_resolve_29 rfl rfl ?_
  obtain ⟨hi, H⟩ := H
  refine EV_iast d_M_resolve_30 shM_20 hi shM_20_s ?_
  refine EV_aload_n 0 d_M_resolve_31 rfl rfl ?_
  refine EV_get (j := 38) d_M_resolve_32 shM_0 rfl fI11 (by decide) k_992 rfl ?_
  refine EV_aload_n 0 d_M_resolve_35 rfl rfl ?_
  refine EV_get (j := 36) d_M_resolve_36 shM_0 rfl fI11 (by decide) k_990 rfl ?_
  refine EV_iload_n 2 d_M_resolve_39 rfl rfl ?_
  obtain ⟨hi, H⟩ := H
  refine EV_iast d_M_resolve_40 shM_21 hi shM_21_s ?_
  refine EV_aload_n 0 d_M_resolve_41 rfl rfl ?_
  refine EV_aload_n 0 d_M_resolve_42 rfl rfl ?_
  refine EV_get (j := 36) d_M_resolve_43 shM_0 rfl fI11 (by decide) k_990 rfl ?_
  refine EV_iconst d_M_resolve_46 ⟨by decide, by decide⟩ ?_
  obtain ⟨hr, H⟩ := H
  refine EV_iadd d_M_resolve_47 hr ?_
  refine EV_put (j := 36) d_M_resolve_48 shM_0 rfl fI11 fO11 fN11 (by decide) k_990 rfl rfl (fun ad => nf_int ad _) (Nat.le_of_ble_eq_true rfl) shM_0_36 ?_
  refine EV_aload_n 0 d_M_resolve_51 rfl rfl ?_
  refine EV_aload_n 0 d_M_resolve_52 rfl rfl ?_
  refine EV_get (j := 35) d_M_resolve_53 shM_0 rfl fI11 (by decide) k_989 rfl ?_
  refine EV_iconst d_M_resolve_56 ⟨by decide, by decide⟩ ?_
  obtain ⟨hr, H⟩ := H
  refine EV_iadd d_M_resolve_57 hr ?_
  refine EV_put (j := 35) d_M_resolve_58 shM_0 rfl fI11 fO11 fN11 (by decide) k_989 rfl rfl (fun ad => nf_int ad _) (Nat.le_of_ble_eq_true rfl) shM_0_35 ?_
  refine EV_aload_n 0 d_M_resolve_61 rfl rfl ?_
  refine EV_aload_n 0 d_M_resolve_62 rfl rfl ?_
  refine EV_get (j := 36) d_M_resolve_63 shM_0 rfl fI11 (by decide) k_990 rfl ?_
  refine EV_callV (as := [vI ((m.1 16) + 1)]) (st := []) d_M_resolve_66 k_1216 k_1218 kp_57 k_12 k_1219 shM_0 rfl pd_21 ⟨by decide, by decide, Nat.le_of_ble_eq_true rfl⟩ rfl (ct_M_clearFrame H (fun m_1 H => ?_))
  refine EV_aload_n 0 d_M_resolve_69 rfl rfl ?_
  refine EV_bipush d_M_resolve_70 (by decide +kernel) ⟨by decide, by decide⟩ ?_
  refine EV_iload_n 1 d_M_resolve_72 rfl rfl ?_
  obtain ⟨hr, H⟩ := H
  refine EV_imul d_M_resolve_73 hr ?_
  refine EV_aload_n 0 d_M_resolve_74 rfl rfl ?_
  refine EV_get (j := 36) d_M_resolve_75 shM_0 rfl fI11 (by decide) k_990 rfl ?_
  refine EV_iload_n 3 d_M_resolve_78 rfl rfl ?_
  refine EV_iload 4 d_M_resolve_79 rfl ?_
  refine EV_callV (as := [vI (40 * x1), vI (m_1.1 16), vI (m.2.1 19 (m.1 18)), vI (m.2.1 20 (m.1 18))]) (st := []) d_M_resolve_81 k_1258 k_1260 kp_66 k_12 k_1261 shM_0 rfl pd_31 ⟨by decide, by decide, Nat.le_of_ble_eq_true rfl⟩ rfl (ct_M_equalize H (fun r_3 m_2 H => ?_))
  refine EV_if_ne (tgt := 93) d_M_resolve_84 (by decide) (fun hc => ?_) (fun hc => ?_)
  · have H := H.1 hc
    refine EV_aload_n 0 d_M_resolve_93 rfl rfl ?_
    refine EV_iconst d_M_resolve_94 ⟨by decide, by decide⟩ ?_
    refine EV_put (j := 33) d_M_resolve_95 shM_0 rfl fI11 fO11 fN11 (by decide) k_987 rfl rfl (fun ad => nf_int ad _) (Nat.le_of_ble_eq_true rfl) shM_0_33 ?_
    refine EV_aload_n 0 d_M_resolve_98 rfl rfl ?_
    refine EV_iload_n 1 d_M_resolve_99 rfl rfl ?_
    refine EV_aload_n 0 d_M_resolve_100 rfl rfl ?_
    refine EV_get (j := 36) d_M_resolve_101 shM_0 rfl fI11 (by decide) k_990 rfl ?_
    refine EV_iload_n 2 d_M_resolve_104 rfl rfl ?_
    refine EV_callV (as := [vI x1, vI (m_2.1 16), vI x2]) (st := []) d_M_resolve_105 k_1220 k_1222 kp_58 k_12 k_1223 shM_0 rfl pd_20 ⟨by decide, by decide, Nat.le_of_ble_eq_true rfl⟩ rfl (ct_M_prepend H (fun m_4 H => ?_))
    refine EV_aload_n 0 d_M_resolve_108 rfl rfl ?_
    refine EV_callV (as := []) (st := []) d_M_resolve_109 k_1278 k_1280 kp_71 k_12 k_1281 shM_0 rfl pd_30 ⟨by decide, by decide, Nat.le_of_ble_eq_true rfl⟩ rfl (ct_M_large H (fun r_6 m_5 H => ?_))
    refine EV_if_eq (tgt := 120) d_M_resolve_112 (by decide) (fun hc => ?_) (fun hc => ?_)
    · have H := H.1 hc
      exact EV_vret d_M_resolve_120 rfl (hK _ H)
    · have H := H.2 hc
      refine EV_aload_n 0 d_M_resolve_115 rfl rfl ?_
      refine EV_iconst d_M_resolve_116 ⟨by decide, by decide⟩ ?_
      refine EV_callV (as := [vI 4]) (st := []) d_M_resolve_117 k_1228 k_1230 kp_59 k_12 k_1231 shM_0 rfl pd_29 ⟨by decide, by decide, Nat.le_of_ble_eq_true rfl⟩ rfl (ct_M_end H (fun m_7 H => ?_))
      exact EV_vret d_M_resolve_120 rfl (hK _ H)
  · have H := H.2 hc
    refine EV_aload_n 0 d_M_resolve_87 rfl rfl ?_
    refine EV_iconst d_M_resolve_88 ⟨by decide, by decide⟩ ?_
    refine EV_put (j := 33) d_M_resolve_89 shM_0 rfl fI11 fO11 fN11 (by decide) k_987 rfl rfl (fun ad => nf_int ad _) (Nat.le_of_ble_eq_true rfl) shM_0_33 ?_
    exact EV_vret d_M_resolve_92 rfl (hK _ H)
theorem ct_M_forward_187 {l : Launch} {K : Ob → Prop} {K' : Option AV → List AC → Prop} {x3 : Int} {x4 : Int} {m : Ob} (H : M_forward_187 x3 x4 m K) (hK : ∀ (m' : Ob), K m' → K' none (shM m')) : EV l prog_13_method_42_code "PrunedSearchModel" 5 none 6 187 [(0, vR 0), (3, vI x3), (4, vI x4)] [] (shM m) K' := by
  refine EV_aload_n 0 d_M_forward_187 rfl rfl ?_
  refine EV_iload_n 1 d_M_forward_188 rfl rfl ?_
  refine EV_iload 2 d_M_forward_189 rfl ?_
  refine EV_callV (as := [vI x3, vI x4]) (st := []) d_M_forward_191 k_1254 k_1256 kp_65 k_12 k_1257 shM_0 rfl pd_32 ⟨by decide, by decide, Nat.le_of_ble_eq_true rfl⟩ rfl (ct_M_resolve H (fun m_7 H => ?_))
  exact EV_vret d_M_forward_194 rfl (hK _ H)
theorem ct_M_forward_112 {l : Launch} {K : Ob → Prop} {K' : Option AV → List AC → Prop} {x1 : Int} {x2 : Int} {s0 : Int} {m : Ob} (H : M_forward_112 x1 x2 s0 m K) (hK : ∀ (m' : Ob), K m' → K' none (shM m')) : EV l prog_13_method_42_code "PrunedSearchModel" 5 none 6 112 [(0, vR 0), (1, vI x1), (2, vI x2)] [vI s0] (shM m) K' := by
  refine EV_istore_n (lv' := [(0, vR 0), (1, vI x1), (2, vI x2), (3, vI s0)]) [1, 2, 3, 0] d_M_forward_112 rfl (by decide) rfl ?_
  refine EV_iload_n 3 d_M_forward_113 rfl rfl ?_
  refine EV_if_ge (tgt := 123) d_M_forward_114 (by decide) (fun hc => ?_) (fun hc => ?_)
  · have H := H.1 hc
    refine EV_aload_n 0 d_M_forward_123 rfl rfl ?_
    refine EV_get (j := 36) d_M_forward_124 shM_0 rfl fI11 (by decide) k_990 rfl ?_
    refine EV_bipush d_M_forward_127 (by decide +kernel) ⟨by decide, by decide⟩ ?_
    refine EV_icmp_ne (tgt := 138) d_M_forward_129 (by decide) (fun hc => ?_) (fun hc => ?_)
    · have H := H.1 hc
      refine EV_aload_n 0 d_M_forward_138 rfl rfl ?_
      refine EV_get (j := 39) d_M_forward_139 shM_0 rfl fI11 (by decide) k_993 rfl ?_
      refine EV_istore (lv' := [(0, vR 0), (1, vI x1), (2, vI x2), (3, vI s0), (4, vI (m.1 17))]) [1, 2, 3, 4, 0] d_M_forward_142 (by decide) rfl ?_
      refine EV_aload_n 0 d_M_forward_144 rfl rfl ?_
      refine EV_iload_n 1 d_M_forward_145 rfl rfl ?_
      refine EV_iload_n 2 d_M_forward_146 rfl rfl ?_
      refine EV_iload_n 3 d_M_forward_147 rfl rfl ?_
      refine EV_callV (as := [vI x1, vI x2, vI s0]) (st := []) d_M_forward_148 k_1246 k_1248 kp_63 k_12 k_1249 shM_0 rfl pd_33 ⟨by decide, by decide, Nat.le_of_ble_eq_true rfl⟩ rfl (ct_M_candidate H (fun r_6 m_5 H => ?_))
      refine EV_if_lt (tgt := 187) d_M_forward_151 (by decide) (fun hc => ?_) (fun hc => ?_)
      · have H := H.1 hc
        refine EV_lv (lv' := [(0, vR 0), (3, vI s0), (4, vI (m.1 17))]) [0, 3, 4] rfl ?_
        exact ct_M_forward_187 H hK
      · have H := H.2 hc
        refine EV_aload_n 0 d_M_forward_154 rfl rfl ?_
        refine EV_get (j := 40) d_M_forward_155 shM_0 rfl fI11 (by decide) k_994 rfl ?_
        refine EV_aload_n 0 d_M_forward_158 rfl rfl ?_
        refine EV_get (j := 39) d_M_forward_159 shM_0 rfl fI11 (by decide) k_993 rfl ?_
        refine EV_aload_n 0 d_M_forward_162 rfl rfl ?_
        refine EV_get (j := 36) d_M_forward_163 shM_0 rfl fI11 (by decide) k_990 rfl ?_
        obtain ⟨hi, H⟩ := H
        refine EV_iast d_M_forward_166 shM_22 hi shM_22_s ?_
        refine EV_aload_n 0 d_M_forward_167 rfl rfl ?_
        refine EV_get (j := 41) d_M_forward_168 shM_0 rfl fI11 (by decide) k_995 rfl ?_
        refine EV_aload_n 0 d_M_forward_171 rfl rfl ?_
        refine EV_get (j := 39) d_M_forward_172 shM_0 rfl fI11 (by decide) k_993 rfl ?_
        refine EV_iload_n 3 d_M_forward_175 rfl rfl ?_
        obtain ⟨hi, H⟩ := H
        refine EV_iast d_M_forward_176 shM_23 hi shM_23_s ?_
        refine EV_aload_n 0 d_M_forward_177 rfl rfl ?_
        refine EV_aload_n 0 d_M_forward_178 rfl rfl ?_
        refine EV_get (j := 39) d_M_forward_179 shM_0 rfl fI11 (by decide) k_993 rfl ?_
        refine EV_iconst d_M_forward_182 ⟨by decide, by decide⟩ ?_
        obtain ⟨hr, H⟩ := H
        refine EV_iadd d_M_forward_183 hr ?_
        refine EV_put (j := 39) d_M_forward_184 shM_0 rfl fI11 fO11 fN11 (by decide) k_993 rfl rfl (fun ad => nf_int ad _) (Nat.le_of_ble_eq_true rfl) shM_0_39 ?_
        refine EV_lv (lv' := [(0, vR 0), (3, vI s0), (4, vI (m.1 17))]) [0, 3, 4] rfl ?_
        exact ct_M_forward_187 H hK
    · have H := H.2 hc
      refine EV_aload_n 0 d_M_forward_132 rfl rfl ?_
      refine EV_iconst d_M_forward_133 ⟨by decide, by decide⟩ ?_
      refine EV_callV (as := [vI 3]) (st := []) d_M_forward_134 k_1228 k_1230 kp_59 k_12 k_1231 shM_0 rfl pd_29 ⟨by decide, by decide, Nat.le_of_ble_eq_true rfl⟩ rfl (ct_M_end H (fun m_8 H => ?_))
      exact EV_vret d_M_forward_137 rfl (hK _ H)
  · have H := H.2 hc
    refine EV_aload_n 0 d_M_forward_117 rfl rfl ?_
    refine EV_iconst d_M_forward_118 ⟨by decide, by decide⟩ ?_
    refine EV_put (j := 33) d_M_forward_119 shM_0 rfl fI11 fO11 fN11 (by decide) k_987 rfl rfl (fun ad => nf_int ad _) (Nat.le_of_ble_eq_true rfl) shM_0_33 ?_
    exact EV_vret d_M_forward_122 rfl (hK _ H)
theorem ct_M_forward_74 {l : Launch} {K : Ob → Prop} {K' : Option AV → List AC → Prop} {s0 : Int} {m : Ob} (H : M_forward_74 s0 m K) (hK : ∀ (m' : Ob), K m' → K' none (shM m')) : EV l prog_13_method_42_code "PrunedSearchModel" 5 none 6 74 [] [vI s0, vR 0] (shM m) K' := by
  refine EV_put (j := 39) d_M_forward_74 shM_0 rfl fI11 fO11 fN11 (by decide) k_993 rfl rfl (fun ad => nf_int ad _) (Nat.le_of_ble_eq_true rfl) shM_0_39 ?_
  exact EV_vret d_M_forward_77 rfl (hK _ H)
theorem ct_M_forward {l : Launch} {m : Ob} {K : Ob → Prop} {K' : Option AV → List AC → Prop} (H : wp_M_forward m K) (hK : ∀ (m' : Ob), K m' → K' none (shM m')) : MT l ⟨"PrunedSearchModel", "forward", "()V"⟩ prog_13_method_42_code 5 none 6 [vR 0] (shM m) K' := by
  unfold wp_M_forward at H
  refine MT_of (lv := [(0, vR 0)]) rfl rfl (Nat.le_of_ble_eq_true rfl) rfl ?_
  refine EV_aload_n 0 d_M_forward_0 rfl rfl ?_
  refine EV_aload_n 0 d_M_forward_1 rfl rfl ?_
  refine EV_get (j := 42) d_M_forward_2 shM_0 rfl fI11 (by decide) k_996 rfl ?_
  refine EV_iconst d_M_forward_5 ⟨by decide, by decide⟩ ?_
  obtain ⟨hr, H⟩ := H
  refine EV_isub d_M_forward_6 hr ?_
  refine EV_put (j := 42) d_M_forward_7 shM_0 rfl fI11 fO11 fN11 (by decide) k_996 rfl rfl (fun ad => nf_int ad _) (Nat.le_of_ble_eq_true rfl) shM_0_42 ?_
  refine EV_aload_n 0 d_M_forward_10 rfl rfl ?_
  refine EV_get (j := 43) d_M_forward_11 shM_0 rfl fI11 (by decide) k_997 rfl ?_
  refine EV_aload_n 0 d_M_forward_14 rfl rfl ?_
  refine EV_get (j := 42) d_M_forward_15 shM_0 rfl fI11 (by decide) k_996 rfl ?_
  obtain ⟨hi, H⟩ := H
  refine EV_iald d_M_forward_18 shM_24 hi ?_
  refine EV_istore_n (lv' := [(0, vR 0), (1, vI (m.2.1 19 ((m.1 18) - 1)))]) [1, 0] d_M_forward_19 rfl (by decide) rfl ?_
  refine EV_aload_n 0 d_M_forward_20 rfl rfl ?_
  refine EV_get (j := 44) d_M_forward_21 shM_0 rfl fI11 (by decide) k_998 rfl ?_
  refine EV_aload_n 0 d_M_forward_24 rfl rfl ?_
  refine EV_get (j := 42) d_M_forward_25 shM_0 rfl fI11 (by decide) k_996 rfl ?_
  obtain ⟨hi, H⟩ := H
  refine EV_iald d_M_forward_28 shM_25 hi ?_
  refine EV_istore_n (lv' := [(0, vR 0), (1, vI (m.2.1 19 ((m.1 18) - 1))), (2, vI (m.2.1 20 ((m.1 18) - 1)))]) [1, 2, 0] d_M_forward_29 rfl (by decide) rfl ?_
  refine EV_aload_n 0 d_M_forward_30 rfl rfl ?_
  refine EV_get (j := 24) d_M_forward_31 shM_0 rfl fI11 (by decide) k_978 rfl ?_
  refine EV_iload_n 1 d_M_forward_34 rfl rfl ?_
  obtain ⟨hi, H⟩ := H
  refine EV_iald d_M_forward_35 shM_14 hi ?_
  refine EV_bipush d_M_forward_36 (by decide +kernel) ⟨by decide, by decide⟩ ?_
  refine EV_icmp_ne (tgt := 78) d_M_forward_38 (by decide) (fun hc => ?_) (fun hc => ?_)
  · have H := H.1 hc
    refine EV_aload_n 0 d_M_forward_78 rfl rfl ?_
    refine EV_iload_n 1 d_M_forward_79 rfl rfl ?_
    refine EV_ldc2 (n := 1702195828) d_M_forward_80 k_1240 (by decide +kernel) (by decide) ?_
    refine EV_callV (as := [vI (m.2.1 19 ((m.1 18) - 1)), vL 1702195828]) (st := []) d_M_forward_83 k_1241 k_1243 kp_62 k_12 k_1244 shM_0 rfl pd_34 ⟨by decide, by decide, Nat.le_of_ble_eq_true rfl⟩ rfl (ct_M_isWordAlone H (fun r_1 H => ?_))
    refine EV_if_eq (tgt := 90) d_M_forward_86 (by decide) (fun hc => ?_) (fun hc => ?_)
    · have H := H.1 hc
      refine EV_aload_n 0 d_M_forward_90 rfl rfl ?_
      refine EV_iload_n 1 d_M_forward_91 rfl rfl ?_
      refine EV_ldc2 (n := 1818845542) d_M_forward_92 k_1245 (by decide +kernel) (by decide) ?_
      refine EV_callV (as := [vI (m.2.1 19 ((m.1 18) - 1)), vL 1818845542]) (st := []) d_M_forward_95 k_1241 k_1243 kp_62 k_12 k_1244 shM_0 rfl pd_34 ⟨by decide, by decide, Nat.le_of_ble_eq_true rfl⟩ rfl (ct_M_isWordAlone H (fun r_2 H => ?_))
      refine EV_if_eq (tgt := 105) d_M_forward_98 (by decide) (fun hc => ?_) (fun hc => ?_)
      · have H := H.1 hc
        refine EV_aload_n 0 d_M_forward_105 rfl rfl ?_
        refine EV_iload_n 1 d_M_forward_106 rfl rfl ?_
        refine EV_iload_n 2 d_M_forward_107 rfl rfl ?_
        refine EV_iconst d_M_forward_108 ⟨by decide, by decide⟩ ?_
        refine EV_callV (as := [vI (m.2.1 19 ((m.1 18) - 1)), vI (m.2.1 20 ((m.1 18) - 1)), vI (-1)]) (st := []) d_M_forward_109 k_1246 k_1248 kp_63 k_12 k_1249 shM_0 rfl pd_33 ⟨by decide, by decide, Nat.le_of_ble_eq_true rfl⟩ rfl (ct_M_candidate H (fun r_4 m_3 H => ?_))
        exact ct_M_forward_112 H hK
      · have H := H.2 hc
        refine EV_iconst d_M_forward_101 ⟨by decide, by decide⟩ ?_
        refine EV_goto (tgt := 112) d_M_forward_102 (by decide) ?_
        exact ct_M_forward_112 H hK
    · have H := H.2 hc
      exact EV_vret d_M_forward_89 rfl (hK _ H)
  · have H := H.2 hc
    refine EV_aload_n 0 d_M_forward_41 rfl rfl ?_
    refine EV_aload_n 0 d_M_forward_42 rfl rfl ?_
    refine EV_get (j := 39) d_M_forward_43 shM_0 rfl fI11 (by decide) k_993 rfl ?_
    refine EV_aload_n 0 d_M_forward_46 rfl rfl ?_
    refine EV_get (j := 45) d_M_forward_47 shM_0 rfl fI11 (by decide) k_999 rfl ?_
    refine EV_aload_n 0 d_M_forward_50 rfl rfl ?_
    refine EV_get (j := 42) d_M_forward_51 shM_0 rfl fI11 (by decide) k_996 rfl ?_
    obtain ⟨hi, H⟩ := H
    refine EV_iald d_M_forward_54 shM_26 hi ?_
    refine EV_icmp_ge (tgt := 65) d_M_forward_55 (by decide) (fun hc => ?_) (fun hc => ?_)
    · have H := H.1 hc
      refine EV_aload_n 0 d_M_forward_65 rfl rfl ?_
      refine EV_get (j := 45) d_M_forward_66 shM_0 rfl fI11 (by decide) k_999 rfl ?_
      refine EV_aload_n 0 d_M_forward_69 rfl rfl ?_
      refine EV_get (j := 42) d_M_forward_70 shM_0 rfl fI11 (by decide) k_996 rfl ?_
      obtain ⟨hi, H⟩ := H
      refine EV_iald d_M_forward_73 shM_26 hi ?_
      refine EV_lv (lv' := []) [] rfl ?_
      exact ct_M_forward_74 H hK
    · have H := H.2 hc
      refine EV_aload_n 0 d_M_forward_58 rfl rfl ?_
      refine EV_get (j := 39) d_M_forward_59 shM_0 rfl fI11 (by decide) k_993 rfl ?_
      refine EV_goto (tgt := 74) d_M_forward_62 (by decide) ?_
      refine EV_lv (lv' := []) [] rfl ?_
      exact ct_M_forward_74 H hK
theorem ct_M_strip_49 {l : Launch} {K : Ob → Prop} {K' : Option AV → List AC → Prop} {L0 : Ob → Prop} {m : Ob} (hL0 : ∀  (m : Ob), L0 m → EV l prog_13_method_36_code "PrunedSearchModel" 1 none 1 0 [(0, vR 0)] [] (shM m) K') (H : M_strip_49 L0 m K) (hK : ∀ (m' : Ob), K m' → K' none (shM m')) : EV l prog_13_method_36_code "PrunedSearchModel" 1 none 1 49 [(0, vR 0)] [] (shM m) K' := by
  refine EV_aload_n 0 d_M_strip_49 rfl rfl ?_
  refine EV_aload_n 0 d_M_strip_50 rfl rfl ?_
  refine EV_get (j := 42) d_M_strip_51 shM_0 rfl fI11 (by decide) k_996 rfl ?_
  refine EV_iconst d_M_strip_54 ⟨by decide, by decide⟩ ?_
  obtain ⟨hr, H⟩ := H
  refine EV_isub d_M_strip_55 hr ?_
  refine EV_put (j := 42) d_M_strip_56 shM_0 rfl fI11 fO11 fN11 (by decide) k_996 rfl rfl (fun ad => nf_int ad _) (Nat.le_of_ble_eq_true rfl) shM_0_42 ?_
  refine EV_goto (tgt := 0) d_M_strip_59 (by decide) ?_
  exact hL0 (sI m 18 ((m.1 18) - 1)) H
theorem ct_M_strip_0 {l : Launch} {K : Ob → Prop} {K' : Option AV → List AC → Prop} (hK : ∀ (m' : Ob), K m' → K' none (shM m')) : ∀ (n : Nat)  (m : Ob), M_strip_0 n m K → EV l prog_13_method_36_code "PrunedSearchModel" 1 none 1 0 [(0, vR 0)] [] (shM m) K' := by
  intro n
  induction n with
  | zero =>
    intro m H
    exact H.elim
  | succ n ih =>
    intro m H
    refine EV_aload_n 0 d_M_strip_0 rfl rfl ?_
    refine EV_get (j := 42) d_M_strip_1 shM_0 rfl fI11 (by decide) k_996 rfl ?_
    refine EV_if_le (tgt := 62) d_M_strip_4 (by decide) (fun hc => ?_) (fun hc => ?_)
    · have H := H.1 hc
      exact EV_vret d_M_strip_62 rfl (hK _ H)
    · have H := H.2 hc
      refine EV_aload_n 0 d_M_strip_7 rfl rfl ?_
      refine EV_get (j := 24) d_M_strip_8 shM_0 rfl fI11 (by decide) k_978 rfl ?_
      refine EV_aload_n 0 d_M_strip_11 rfl rfl ?_
      refine EV_get (j := 43) d_M_strip_12 shM_0 rfl fI11 (by decide) k_997 rfl ?_
      refine EV_aload_n 0 d_M_strip_15 rfl rfl ?_
      refine EV_get (j := 42) d_M_strip_16 shM_0 rfl fI11 (by decide) k_996 rfl ?_
      refine EV_iconst d_M_strip_19 ⟨by decide, by decide⟩ ?_
      obtain ⟨hr, H⟩ := H
      refine EV_isub d_M_strip_20 hr ?_
      obtain ⟨hi, H⟩ := H
      refine EV_iald d_M_strip_21 shM_24 hi ?_
      obtain ⟨hi, H⟩ := H
      refine EV_iald d_M_strip_22 shM_14 hi ?_
      refine EV_bipush d_M_strip_23 (by decide +kernel) ⟨by decide, by decide⟩ ?_
      refine EV_icmp_eq (tgt := 49) d_M_strip_25 (by decide) (fun hc => ?_) (fun hc => ?_)
      · have H := H.1 hc
        exact ct_M_strip_49 (fun m' H => ih m' H) H hK
      · have H := H.2 hc
        refine EV_aload_n 0 d_M_strip_28 rfl rfl ?_
        refine EV_aload_n 0 d_M_strip_29 rfl rfl ?_
        refine EV_get (j := 43) d_M_strip_30 shM_0 rfl fI11 (by decide) k_997 rfl ?_
        refine EV_aload_n 0 d_M_strip_33 rfl rfl ?_
        refine EV_get (j := 42) d_M_strip_34 shM_0 rfl fI11 (by decide) k_996 rfl ?_
        refine EV_iconst d_M_strip_37 ⟨by decide, by decide⟩ ?_
        obtain ⟨hr, H⟩ := H
        refine EV_isub d_M_strip_38 hr ?_
        obtain ⟨hi, H⟩ := H
        refine EV_iald d_M_strip_39 shM_24 hi ?_
        refine EV_ldc2 (n := 1702195828) d_M_strip_40 k_1240 (by decide +kernel) (by decide) ?_
        refine EV_callV (as := [vI (m.2.1 19 ((m.1 18) - 1)), vL 1702195828]) (st := []) d_M_strip_43 k_1241 k_1243 kp_62 k_12 k_1244 shM_0 rfl pd_34 ⟨by decide, by decide, Nat.le_of_ble_eq_true rfl⟩ rfl (ct_M_isWordAlone H (fun r_1 H => ?_))
        refine EV_if_eq (tgt := 62) d_M_strip_46 (by decide) (fun hc => ?_) (fun hc => ?_)
        · have H := H.1 hc
          exact EV_vret d_M_strip_62 rfl (hK _ H)
        · have H := H.2 hc
          exact ct_M_strip_49 (fun m' H => ih m' H) H hK
theorem ct_M_strip {l : Launch} {m : Ob} {K : Ob → Prop} {K' : Option AV → List AC → Prop} (H : wp_M_strip m K) (hK : ∀ (m' : Ob), K m' → K' none (shM m')) : MT l ⟨"PrunedSearchModel", "strip", "()V"⟩ prog_13_method_36_code 1 none 1 [vR 0] (shM m) K' := by
  unfold wp_M_strip at H
  refine MT_of (lv := [(0, vR 0)]) rfl rfl (Nat.le_of_ble_eq_true rfl) rfl ?_
  obtain ⟨n, H⟩ := H
  exact ct_M_strip_0 hK n m H
theorem ct_M_again_92 {l : Launch} {K : Ob → Prop} {K' : Option AV → List AC → Prop} {x1 : Int} {m : Ob} (H : M_again_92 x1 m K) (hK : ∀ (m' : Ob), K m' → K' none (shM m')) : EV l prog_13_method_37_code "PrunedSearchModel" 4 none 5 92 [(0, vR 0), (1, vI x1)] [] (shM m) K' := by
  refine EV_aload_n 0 d_M_again_92 rfl rfl ?_
  refine EV_iload_n 1 d_M_again_93 rfl rfl ?_
  refine EV_put (j := 36) d_M_again_94 shM_0 rfl fI11 fO11 fN11 (by decide) k_990 rfl rfl (fun ad => nf_int ad _) (Nat.le_of_ble_eq_true rfl) shM_0_36 ?_
  refine EV_aload_n 0 d_M_again_97 rfl rfl ?_
  refine EV_callV (as := []) (st := []) d_M_again_98 k_1294 k_1296 kp_75 k_12 k_1297 shM_0 rfl pd_35 ⟨by decide, by decide, Nat.le_of_ble_eq_true rfl⟩ rfl (ct_M_strip H (fun m_2 H => ?_))
  exact EV_vret d_M_again_101 rfl (hK _ H)
theorem ct_M_again_6 {l : Launch} {K : Ob → Prop} {K' : Option AV → List AC → Prop} (hK : ∀ (m' : Ob), K m' → K' none (shM m')) : ∀ (n : Nat) (x1 : Int) (x2 : Int) (m : Ob), M_again_6 n x1 x2 m K → EV l prog_13_method_37_code "PrunedSearchModel" 4 none 5 6 [(0, vR 0), (1, vI x1), (2, vI x2)] [] (shM m) K' := by
  intro n
  induction n with
  | zero =>
    intro x1 x2 m H
    exact H.elim
  | succ n ih =>
    intro x1 x2 m H
    refine EV_iload_n 2 d_M_again_6 rfl rfl ?_
    refine EV_iload_n 1 d_M_again_7 rfl rfl ?_
    refine EV_icmp_ge (tgt := 92) d_M_again_8 (by decide) (fun hc => ?_) (fun hc => ?_)
    · have H := H.1 hc
      refine EV_lv (lv' := [(0, vR 0), (1, vI x1)]) [0, 1] rfl ?_
      exact ct_M_again_92 H hK
    · have H := H.2 hc
      refine EV_aload_n 0 d_M_again_11 rfl rfl ?_
      refine EV_callV (as := []) (st := []) d_M_again_12 k_1294 k_1296 kp_75 k_12 k_1297 shM_0 rfl pd_35 ⟨by decide, by decide, Nat.le_of_ble_eq_true rfl⟩ rfl (ct_M_strip H (fun m_3 H => ?_))
      refine EV_aload_n 0 d_M_again_15 rfl rfl ?_
      refine EV_aload_n 0 d_M_again_16 rfl rfl ?_
      refine EV_get (j := 42) d_M_again_17 shM_0 rfl fI11 (by decide) k_996 rfl ?_
      refine EV_iconst d_M_again_20 ⟨by decide, by decide⟩ ?_
      obtain ⟨hr, H⟩ := H
      refine EV_isub d_M_again_21 hr ?_
      refine EV_put (j := 42) d_M_again_22 shM_0 rfl fI11 fO11 fN11 (by decide) k_996 rfl rfl (fun ad => nf_int ad _) (Nat.le_of_ble_eq_true rfl) shM_0_42 ?_
      refine EV_aload_n 0 d_M_again_25 rfl rfl ?_
      refine EV_iload_n 2 d_M_again_26 rfl rfl ?_
      refine EV_iconst d_M_again_27 ⟨by decide, by decide⟩ ?_
      obtain ⟨hr, H⟩ := H
      refine EV_iadd d_M_again_28 hr ?_
      refine EV_callV (as := [vI (x2 + 1)]) (st := []) d_M_again_29 k_1216 k_1218 kp_57 k_12 k_1219 shM_0 rfl pd_21 ⟨by decide, by decide, Nat.le_of_ble_eq_true rfl⟩ rfl (ct_M_clearFrame H (fun m_4 H => ?_))
      refine EV_aload_n 0 d_M_again_32 rfl rfl ?_
      refine EV_bipush d_M_again_33 (by decide +kernel) ⟨by decide, by decide⟩ ?_
      refine EV_aload_n 0 d_M_again_35 rfl rfl ?_
      refine EV_get (j := 37) d_M_again_36 shM_0 rfl fI11 (by decide) k_991 rfl ?_
      refine EV_iload_n 2 d_M_again_39 rfl rfl ?_
      obtain ⟨hi, H⟩ := H
      refine EV_iald d_M_again_40 shM_20 hi ?_
      obtain ⟨hr, H⟩ := H
      refine EV_imul d_M_again_41 hr ?_
      refine EV_iload_n 2 d_M_again_42 rfl rfl ?_
      refine EV_iconst d_M_again_43 ⟨by decide, by decide⟩ ?_
      obtain ⟨hr, H⟩ := H
      refine EV_iadd d_M_again_44 hr ?_
      refine EV_aload_n 0 d_M_again_45 rfl rfl ?_
      refine EV_get (j := 43) d_M_again_46 shM_0 rfl fI11 (by decide) k_997 rfl ?_
      refine EV_aload_n 0 d_M_again_49 rfl rfl ?_
      refine EV_get (j := 42) d_M_again_50 shM_0 rfl fI11 (by decide) k_996 rfl ?_
      obtain ⟨hi, H⟩ := H
      refine EV_iald d_M_again_53 shM_24 hi ?_
      refine EV_aload_n 0 d_M_again_54 rfl rfl ?_
      refine EV_get (j := 44) d_M_again_55 shM_0 rfl fI11 (by decide) k_998 rfl ?_
      refine EV_aload_n 0 d_M_again_58 rfl rfl ?_
      refine EV_get (j := 42) d_M_again_59 shM_0 rfl fI11 (by decide) k_996 rfl ?_
      obtain ⟨hi, H⟩ := H
      refine EV_iald d_M_again_62 shM_25 hi ?_
      refine EV_callV (as := [vI (40 * (m_4.2.1 15 x2)), vI (x2 + 1), vI (m_4.2.1 19 (m_4.1 18)), vI (m_4.2.1 20 (m_4.1 18))]) (st := []) d_M_again_63 k_1258 k_1260 kp_66 k_12 k_1261 shM_0 rfl pd_31 ⟨by decide, by decide, Nat.le_of_ble_eq_true rfl⟩ rfl (ct_M_equalize H (fun r_6 m_5 H => ?_))
      refine EV_istore_n (lv' := [(0, vR 0), (1, vI x1), (2, vI x2), (3, vI r_6)]) [1, 2, 3, 0] d_M_again_66 rfl (by decide) rfl ?_
      refine EV_aload_n 0 d_M_again_67 rfl rfl ?_
      refine EV_aload_n 0 d_M_again_68 rfl rfl ?_
      refine EV_get (j := 37) d_M_again_69 shM_0 rfl fI11 (by decide) k_991 rfl ?_
      refine EV_iload_n 2 d_M_again_72 rfl rfl ?_
      obtain ⟨hi, H⟩ := H
      refine EV_iald d_M_again_73 shM_20 hi ?_
      refine EV_iload_n 2 d_M_again_74 rfl rfl ?_
      refine EV_iconst d_M_again_75 ⟨by decide, by decide⟩ ?_
      obtain ⟨hr, H⟩ := H
      refine EV_iadd d_M_again_76 hr ?_
      refine EV_aload_n 0 d_M_again_77 rfl rfl ?_
      refine EV_get (j := 38) d_M_again_78 shM_0 rfl fI11 (by decide) k_992 rfl ?_
      refine EV_iload_n 2 d_M_again_81 rfl rfl ?_
      obtain ⟨hi, H⟩ := H
      refine EV_iald d_M_again_82 shM_21 hi ?_
      refine EV_callV (as := [vI (m_5.2.1 15 x2), vI (x2 + 1), vI (m_5.2.1 16 x2)]) (st := []) d_M_again_83 k_1220 k_1222 kp_58 k_12 k_1223 shM_0 rfl pd_20 ⟨by decide, by decide, Nat.le_of_ble_eq_true rfl⟩ rfl (ct_M_prepend H (fun m_7 H => ?_))
      obtain ⟨hr, H⟩ := H
      refine EV_iinc (lv' := [(0, vR 0), (1, vI x1), (2, vI (x2 + 1)), (3, vI r_6)]) 2 [1, 2, 0, 3] d_M_again_86 rfl (by decide) hr rfl ?_
      refine EV_goto (tgt := 6) d_M_again_89 (by decide) ?_
      refine EV_lv (lv' := [(0, vR 0), (1, vI x1), (2, vI (x2 + 1))]) [0, 1, 2] rfl ?_
      exact ih x1 (x2 + 1) m_7 H
theorem ct_M_again {l : Launch} {m : Ob} {x1 : Int} {K : Ob → Prop} {K' : Option AV → List AC → Prop} (H : wp_M_again x1 m K) (hK : ∀ (m' : Ob), K m' → K' none (shM m')) : MT l ⟨"PrunedSearchModel", "again", "(I)V"⟩ prog_13_method_37_code 4 none 5 [vR 0, vI x1] (shM m) K' := by
  unfold wp_M_again at H
  refine MT_of (lv := [(0, vR 0), (1, vI x1)]) rfl rfl (Nat.le_of_ble_eq_true rfl) rfl ?_
  refine EV_aload_n 0 d_M_again_0 rfl rfl ?_
  refine EV_callV (as := []) (st := []) d_M_again_1 k_1212 k_1214 kp_56 k_12 k_1215 shM_0 rfl pd_22 ⟨by decide, by decide, Nat.le_of_ble_eq_true rfl⟩ rfl (ct_M_begin H (fun m_1 H => ?_))
  refine EV_iconst d_M_again_4 ⟨by decide, by decide⟩ ?_
  refine EV_istore_n (lv' := [(0, vR 0), (1, vI x1), (2, vI 0)]) [1, 2, 0] d_M_again_5 rfl (by decide) rfl ?_
  obtain ⟨n, H⟩ := H
  exact ct_M_again_6 hK n x1 0 m_1 H
theorem ct_M_back_97 {l : Launch} {K : Ob → Prop} {K' : Option AV → List AC → Prop} {x1 : Int} {x2 : Int} {s0 : Int} {m : Ob} (H : M_back_97 x1 x2 s0 m K) (hK : ∀ (m' : Ob), K m' → K' none (shM m')) : EV l prog_13_method_43_code "PrunedSearchModel" 3 none 6 97 [(0, vR 0), (1, vI x1), (2, vI x2)] [vI s0, vR 0] (shM m) K' := by
  refine EV_put (j := 39) d_M_back_97 shM_0 rfl fI11 fO11 fN11 (by decide) k_993 rfl rfl (fun ad => nf_int ad _) (Nat.le_of_ble_eq_true rfl) shM_0_39 ?_
  refine EV_aload_n 0 d_M_back_100 rfl rfl ?_
  refine EV_iload_n 2 d_M_back_101 rfl rfl ?_
  refine EV_iload_n 1 d_M_back_102 rfl rfl ?_
  refine EV_callV (as := [vI x2, vI x1]) (st := []) d_M_back_103 k_1254 k_1256 kp_65 k_12 k_1257 shM_0 rfl pd_32 ⟨by decide, by decide, Nat.le_of_ble_eq_true rfl⟩ rfl (ct_M_resolve H (fun m_6 H => ?_))
  exact EV_vret d_M_back_106 rfl (hK _ H)
theorem ct_M_back {l : Launch} {m : Ob} {K : Ob → Prop} {K' : Option AV → List AC → Prop} (H : wp_M_back m K) (hK : ∀ (m' : Ob), K m' → K' none (shM m')) : MT l ⟨"PrunedSearchModel", "back", "()V"⟩ prog_13_method_43_code 3 none 6 [vR 0] (shM m) K' := by
  unfold wp_M_back at H
  refine MT_of (lv := [(0, vR 0)]) rfl rfl (Nat.le_of_ble_eq_true rfl) rfl ?_
  refine EV_aload_n 0 d_M_back_0 rfl rfl ?_
  refine EV_get (j := 39) d_M_back_1 shM_0 rfl fI11 (by decide) k_993 rfl ?_
  refine EV_iconst d_M_back_4 ⟨by decide, by decide⟩ ?_
  obtain ⟨hr, H⟩ := H
  refine EV_isub d_M_back_5 hr ?_
  refine EV_istore_n (lv' := [(0, vR 0), (1, vI ((m.1 17) - 1))]) [1, 0] d_M_back_6 rfl (by decide) rfl ?_
  refine EV_aload_n 0 d_M_back_7 rfl rfl ?_
  refine EV_aload_n 0 d_M_back_8 rfl rfl ?_
  refine EV_get (j := 40) d_M_back_9 shM_0 rfl fI11 (by decide) k_994 rfl ?_
  refine EV_iload_n 1 d_M_back_12 rfl rfl ?_
  obtain ⟨hi, H⟩ := H
  refine EV_iald d_M_back_13 shM_22 hi ?_
  refine EV_callV (as := [vI (m.2.1 17 ((m.1 17) - 1))]) (st := []) d_M_back_14 k_1290 k_1292 kp_74 k_12 k_1293 shM_0 rfl pd_36 ⟨by decide, by decide, Nat.le_of_ble_eq_true rfl⟩ rfl (ct_M_again H (fun m_1 H => ?_))
  refine EV_aload_n 0 d_M_back_17 rfl rfl ?_
  refine EV_aload_n 0 d_M_back_18 rfl rfl ?_
  refine EV_get (j := 42) d_M_back_19 shM_0 rfl fI11 (by decide) k_996 rfl ?_
  refine EV_iconst d_M_back_22 ⟨by decide, by decide⟩ ?_
  obtain ⟨hr, H⟩ := H
  refine EV_isub d_M_back_23 hr ?_
  refine EV_put (j := 42) d_M_back_24 shM_0 rfl fI11 fO11 fN11 (by decide) k_996 rfl rfl (fun ad => nf_int ad _) (Nat.le_of_ble_eq_true rfl) shM_0_42 ?_
  refine EV_aload_n 0 d_M_back_27 rfl rfl ?_
  refine EV_aload_n 0 d_M_back_28 rfl rfl ?_
  refine EV_get (j := 43) d_M_back_29 shM_0 rfl fI11 (by decide) k_997 rfl ?_
  refine EV_aload_n 0 d_M_back_32 rfl rfl ?_
  refine EV_get (j := 42) d_M_back_33 shM_0 rfl fI11 (by decide) k_996 rfl ?_
  obtain ⟨hi, H⟩ := H
  refine EV_iald d_M_back_36 shM_24 hi ?_
  refine EV_aload_n 0 d_M_back_37 rfl rfl ?_
  refine EV_get (j := 44) d_M_back_38 shM_0 rfl fI11 (by decide) k_998 rfl ?_
  refine EV_aload_n 0 d_M_back_41 rfl rfl ?_
  refine EV_get (j := 42) d_M_back_42 shM_0 rfl fI11 (by decide) k_996 rfl ?_
  obtain ⟨hi, H⟩ := H
  refine EV_iald d_M_back_45 shM_25 hi ?_
  refine EV_aload_n 0 d_M_back_46 rfl rfl ?_
  refine EV_get (j := 41) d_M_back_47 shM_0 rfl fI11 (by decide) k_995 rfl ?_
  refine EV_iload_n 1 d_M_back_50 rfl rfl ?_
  obtain ⟨hi, H⟩ := H
  refine EV_iald d_M_back_51 shM_23 hi ?_
  refine EV_callV (as := [vI (m_1.2.1 19 ((m_1.1 18) - 1)), vI (m_1.2.1 20 ((m_1.1 18) - 1)), vI (m_1.2.1 18 ((m.1 17) - 1))]) (st := []) d_M_back_52 k_1246 k_1248 kp_63 k_12 k_1249 shM_0 rfl pd_33 ⟨by decide, by decide, Nat.le_of_ble_eq_true rfl⟩ rfl (ct_M_candidate H (fun r_3 m_2 H => ?_))
  refine EV_istore_n (lv' := [(0, vR 0), (1, vI ((m.1 17) - 1)), (2, vI r_3)]) [1, 2, 0] d_M_back_55 rfl (by decide) rfl ?_
  refine EV_aload_n 0 d_M_back_56 rfl rfl ?_
  refine EV_get (j := 41) d_M_back_57 shM_0 rfl fI11 (by decide) k_995 rfl ?_
  refine EV_iload_n 1 d_M_back_60 rfl rfl ?_
  refine EV_iload_n 2 d_M_back_61 rfl rfl ?_
  obtain ⟨hi, H⟩ := H
  refine EV_iast d_M_back_62 shM_23 hi shM_23_s ?_
  refine EV_aload_n 0 d_M_back_63 rfl rfl ?_
  refine EV_aload_n 0 d_M_back_64 rfl rfl ?_
  refine EV_aload_n 0 d_M_back_65 rfl rfl ?_
  refine EV_get (j := 43) d_M_back_66 shM_0 rfl fI11 (by decide) k_997 rfl ?_
  refine EV_aload_n 0 d_M_back_69 rfl rfl ?_
  refine EV_get (j := 42) d_M_back_70 shM_0 rfl fI11 (by decide) k_996 rfl ?_
  obtain ⟨hi, H⟩ := H
  refine EV_iald d_M_back_73 shM_24 hi ?_
  refine EV_aload_n 0 d_M_back_74 rfl rfl ?_
  refine EV_get (j := 44) d_M_back_75 shM_0 rfl fI11 (by decide) k_998 rfl ?_
  refine EV_aload_n 0 d_M_back_78 rfl rfl ?_
  refine EV_get (j := 42) d_M_back_79 shM_0 rfl fI11 (by decide) k_996 rfl ?_
  obtain ⟨hi, H⟩ := H
  refine EV_iald d_M_back_82 shM_25 hi ?_
  refine EV_iload_n 2 d_M_back_83 rfl rfl ?_
  refine EV_callV (as := [vI (m_2.2.1 19 (m_2.1 18)), vI (m_2.2.1 20 (m_2.1 18)), vI r_3]) (st := [vR 0]) d_M_back_84 k_1246 k_1248 kp_63 k_12 k_1249 shM_0 rfl pd_33 ⟨by decide, by decide, Nat.le_of_ble_eq_true rfl⟩ rfl (ct_M_candidate H (fun r_5 m_4 H => ?_))
  refine EV_if_ge (tgt := 94) d_M_back_87 (by decide) (fun hc => ?_) (fun hc => ?_)
  · have H := H.1 hc
    refine EV_iload_n 1 d_M_back_94 rfl rfl ?_
    refine EV_iconst d_M_back_95 ⟨by decide, by decide⟩ ?_
    obtain ⟨hr, H⟩ := H
    refine EV_iadd d_M_back_96 hr ?_
    exact ct_M_back_97 H hK
  · have H := H.2 hc
    refine EV_iload_n 1 d_M_back_90 rfl rfl ?_
    refine EV_goto (tgt := 97) d_M_back_91 (by decide) ?_
    exact ct_M_back_97 H hK
theorem ct_M_step_42 {l : Launch} {K : Ob → Prop} {K' : Option AV → List AC → Prop} {m : Ob} (H : M_step_42 m K) (hK : ∀ (m' : Ob), K m' → K' none (shM m')) : EV l prog_13_method_44_code "PrunedSearchModel" 1 none 7 42 [(0, vR 0)] [] (shM m) K' := by
  refine EV_aload_n 0 d_M_step_42 rfl rfl ?_
  refine EV_get (j := 33) d_M_step_43 shM_0 rfl fI11 (by decide) k_987 rfl ?_
  refine EV_iconst d_M_step_46 ⟨by decide, by decide⟩ ?_
  refine EV_icmp_ne (tgt := 62) d_M_step_47 (by decide) (fun hc => ?_) (fun hc => ?_)
  · have H := H.1 hc
    exact EV_vret d_M_step_62 rfl (hK _ H)
  · have H := H.2 hc
    refine EV_aload_n 0 d_M_step_50 rfl rfl ?_
    refine EV_get (j := 39) d_M_step_51 shM_0 rfl fI11 (by decide) k_993 rfl ?_
    refine EV_if_ne (tgt := 62) d_M_step_54 (by decide) (fun hc => ?_) (fun hc => ?_)
    · have H := H.1 hc
      exact EV_vret d_M_step_62 rfl (hK _ H)
    · have H := H.2 hc
      refine EV_aload_n 0 d_M_step_57 rfl rfl ?_
      refine EV_iconst d_M_step_58 ⟨by decide, by decide⟩ ?_
      refine EV_callV (as := [vI 0]) (st := []) d_M_step_59 k_1228 k_1230 kp_59 k_12 k_1231 shM_0 rfl pd_29 ⟨by decide, by decide, Nat.le_of_ble_eq_true rfl⟩ rfl (ct_M_end H (fun m_2 H => ?_))
      exact EV_vret d_M_step_62 rfl (hK _ H)
theorem ct_M_step_19 {l : Launch} {K : Ob → Prop} {K' : Option AV → List AC → Prop} {m : Ob} (H : M_step_19 m K) (hK : ∀ (m' : Ob), K m' → K' none (shM m')) : EV l prog_13_method_44_code "PrunedSearchModel" 1 none 7 19 [(0, vR 0)] [] (shM m) K' := by
  refine EV_aload_n 0 d_M_step_19 rfl rfl ?_
  refine EV_get (j := 33) d_M_step_20 shM_0 rfl fI11 (by decide) k_987 rfl ?_
  refine EV_iconst d_M_step_23 ⟨by decide, by decide⟩ ?_
  refine EV_icmp_ne (tgt := 42) d_M_step_24 (by decide) (fun hc => ?_) (fun hc => ?_)
  · have H := H.1 hc
    exact ct_M_step_42 H hK
  · have H := H.2 hc
    refine EV_aload_n 0 d_M_step_27 rfl rfl ?_
    refine EV_get (j := 42) d_M_step_28 shM_0 rfl fI11 (by decide) k_996 rfl ?_
    refine EV_if_ne (tgt := 42) d_M_step_31 (by decide) (fun hc => ?_) (fun hc => ?_)
    · have H := H.1 hc
      exact ct_M_step_42 H hK
    · have H := H.2 hc
      refine EV_aload_n 0 d_M_step_34 rfl rfl ?_
      refine EV_iconst d_M_step_35 ⟨by decide, by decide⟩ ?_
      refine EV_put (j := 33) d_M_step_36 shM_0 rfl fI11 fO11 fN11 (by decide) k_987 rfl rfl (fun ad => nf_int ad _) (Nat.le_of_ble_eq_true rfl) shM_0_33 ?_
      refine EV_goto (tgt := 62) d_M_step_39 (by decide) ?_
      exact EV_vret d_M_step_62 rfl (hK _ H)
theorem ct_M_step {l : Launch} {m : Ob} {K : Ob → Prop} {K' : Option AV → List AC → Prop} (H : wp_M_step m K) (hK : ∀ (m' : Ob), K m' → K' none (shM m')) : MT l ⟨"PrunedSearchModel", "step", "()V"⟩ prog_13_method_44_code 1 none 7 [vR 0] (shM m) K' := by
  unfold wp_M_step at H
  refine MT_of (lv := [(0, vR 0)]) rfl rfl (Nat.le_of_ble_eq_true rfl) rfl ?_
  refine EV_aload_n 0 d_M_step_0 rfl rfl ?_
  refine EV_get (j := 33) d_M_step_1 shM_0 rfl fI11 (by decide) k_987 rfl ?_
  refine EV_iconst d_M_step_4 ⟨by decide, by decide⟩ ?_
  refine EV_icmp_ne (tgt := 15) d_M_step_5 (by decide) (fun hc => ?_) (fun hc => ?_)
  · have H := H.1 hc
    refine EV_aload_n 0 d_M_step_15 rfl rfl ?_
    refine EV_callV (as := []) (st := []) d_M_step_16 k_1286 k_1288 kp_73 k_12 k_1289 shM_0 rfl pd_37 ⟨by decide, by decide, Nat.le_of_ble_eq_true rfl⟩ rfl (ct_M_back H (fun m_1 H => ?_))
    exact ct_M_step_19 H hK
  · have H := H.2 hc
    refine EV_aload_n 0 d_M_step_8 rfl rfl ?_
    refine EV_callV (as := []) (st := []) d_M_step_9 k_1236 k_1238 kp_61 k_12 k_1239 shM_0 rfl pd_38 ⟨by decide, by decide, Nat.le_of_ble_eq_true rfl⟩ rfl (ct_M_forward H (fun m_3 H => ?_))
    refine EV_goto (tgt := 19) d_M_step_12 (by decide) ?_
    exact ct_M_step_19 H hK
theorem ct_M_run_75 {l : Launch} {K : Int → Ob → Prop} {K' : Option AV → List AC → Prop} {m : Ob} (H : M_run_75 m K) (hK : ∀ (r : Int) (m' : Ob), K r m' → K' (some (vI r)) (shM m')) : EV l prog_13_method_45_code "PrunedSearchModel" 3 (some .int) 8 75 [(0, vR 0)] [] (shM m) K' := by
  refine EV_aload_n 0 d_M_run_75 rfl rfl ?_
  refine EV_get (j := 33) d_M_run_76 shM_0 rfl fI11 (by decide) k_987 rfl ?_
  refine EV_iconst d_M_run_79 ⟨by decide, by decide⟩ ?_
  refine EV_icmp_ne (tgt := 90) d_M_run_80 (by decide) (fun hc => ?_) (fun hc => ?_)
  · have H := H.1 hc
    refine EV_iconst d_M_run_90 ⟨by decide, by decide⟩ ?_
    exact EV_iret d_M_run_91 rfl (nw_int _) (hK _ _ H)
  · have H := H.2 hc
    refine EV_aload_n 0 d_M_run_83 rfl rfl ?_
    refine EV_get (j := 34) d_M_run_84 shM_0 rfl fI11 (by decide) k_988 rfl ?_
    refine EV_goto (tgt := 91) d_M_run_87 (by decide) ?_
    exact EV_iret d_M_run_91 rfl (nw_int _) (hK _ _ H)
theorem ct_M_run_42 {l : Launch} {K : Int → Ob → Prop} {K' : Option AV → List AC → Prop} (hK : ∀ (r : Int) (m' : Ob), K r m' → K' (some (vI r)) (shM m')) : ∀ (n : Nat) (x1 : Int) (x2 : Int) (m : Ob), M_run_42 n x1 x2 m K → EV l prog_13_method_45_code "PrunedSearchModel" 3 (some .int) 8 42 [(0, vR 0), (1, vI x1), (2, vI x2)] [] (shM m) K' := by
  intro n
  induction n with
  | zero =>
    intro x1 x2 m H
    exact H.elim
  | succ n ih =>
    intro x1 x2 m H
    refine EV_iload_n 2 d_M_run_42 rfl rfl ?_
    refine EV_iload_n 1 d_M_run_43 rfl rfl ?_
    refine EV_icmp_ge (tgt := 75) d_M_run_44 (by decide) (fun hc => ?_) (fun hc => ?_)
    · have H := H.1 hc
      refine EV_lv (lv' := [(0, vR 0)]) [0] rfl ?_
      exact ct_M_run_75 H hK
    · have H := H.2 hc
      refine EV_aload_n 0 d_M_run_47 rfl rfl ?_
      refine EV_get (j := 33) d_M_run_48 shM_0 rfl fI11 (by decide) k_987 rfl ?_
      refine EV_iconst d_M_run_51 ⟨by decide, by decide⟩ ?_
      refine EV_icmp_eq (tgt := 75) d_M_run_52 (by decide) (fun hc => ?_) (fun hc => ?_)
      · have H := H.1 hc
        refine EV_lv (lv' := [(0, vR 0)]) [0] rfl ?_
        exact ct_M_run_75 H hK
      · have H := H.2 hc
        refine EV_aload_n 0 d_M_run_55 rfl rfl ?_
        refine EV_callV (as := []) (st := []) d_M_run_56 k_1232 k_1234 kp_60 k_12 k_1235 shM_0 rfl pd_39 ⟨by decide, by decide, Nat.le_of_ble_eq_true rfl⟩ rfl (ct_M_step H (fun m_1 H => ?_))
        refine EV_aload_n 0 d_M_run_59 rfl rfl ?_
        refine EV_get (j := 33) d_M_run_60 shM_0 rfl fI11 (by decide) k_987 rfl ?_
        refine EV_iconst d_M_run_63 ⟨by decide, by decide⟩ ?_
        refine EV_icmp_ne (tgt := 69) d_M_run_64 (by decide) (fun hc => ?_) (fun hc => ?_)
        · have H := H.1 hc
          obtain ⟨hr, H⟩ := H
          refine EV_iinc (lv' := [(0, vR 0), (1, vI x1), (2, vI (x2 + 1))]) 2 [1, 2, 0] d_M_run_69 rfl (by decide) hr rfl ?_
          refine EV_goto (tgt := 42) d_M_run_72 (by decide) ?_
          exact ih x1 (x2 + 1) m_1 H
        · have H := H.2 hc
          refine EV_iconst d_M_run_67 ⟨by decide, by decide⟩ ?_
          exact EV_iret d_M_run_68 rfl (nw_int _) (hK _ _ H)
theorem ct_M_run_40 {l : Launch} {K : Int → Ob → Prop} {K' : Option AV → List AC → Prop} {x1 : Int} {m : Ob} (H : M_run_40 x1 m K) (hK : ∀ (r : Int) (m' : Ob), K r m' → K' (some (vI r)) (shM m')) : EV l prog_13_method_45_code "PrunedSearchModel" 3 (some .int) 8 40 [(0, vR 0), (1, vI x1)] [] (shM m) K' := by
  refine EV_iconst d_M_run_40 ⟨by decide, by decide⟩ ?_
  refine EV_istore_n (lv' := [(0, vR 0), (1, vI x1), (2, vI 0)]) [1, 2, 0] d_M_run_41 rfl (by decide) rfl ?_
  obtain ⟨n, H⟩ := H
  exact ct_M_run_42 hK n x1 0 m H
theorem ct_M_run {l : Launch} {m : Ob} {x1 : Int} {K : Int → Ob → Prop} {K' : Option AV → List AC → Prop} (H : wp_M_run x1 m K) (hK : ∀ (r : Int) (m' : Ob), K r m' → K' (some (vI r)) (shM m')) : MT l ⟨"PrunedSearchModel", "run", "(I)I"⟩ prog_13_method_45_code 3 (some .int) 8 [vR 0, vI x1] (shM m) K' := by
  unfold wp_M_run at H
  refine MT_of (lv := [(0, vR 0), (1, vI x1)]) rfl rfl (Nat.le_of_ble_eq_true rfl) rfl ?_
  refine EV_aload_n 0 d_M_run_0 rfl rfl ?_
  refine EV_get (j := 33) d_M_run_1 shM_0 rfl fI11 (by decide) k_987 rfl ?_
  refine EV_if_eq (tgt := 18) d_M_run_4 (by decide) (fun hc => ?_) (fun hc => ?_)
  · have H := H.1 hc
    refine EV_iconst d_M_run_18 ⟨by decide, by decide⟩ ?_
    exact EV_iret d_M_run_19 rfl (nw_int _) (hK _ _ H)
  · have H := H.2 hc
    refine EV_iload_n 1 d_M_run_7 rfl rfl ?_
    refine EV_iconst d_M_run_8 ⟨by decide, by decide⟩ ?_
    refine EV_icmp_lt (tgt := 18) d_M_run_9 (by decide) (fun hc => ?_) (fun hc => ?_)
    · have H := H.1 hc
      refine EV_iconst d_M_run_18 ⟨by decide, by decide⟩ ?_
      exact EV_iret d_M_run_19 rfl (nw_int _) (hK _ _ H)
    · have H := H.2 hc
      refine EV_iload_n 1 d_M_run_12 rfl rfl ?_
      refine EV_bipush d_M_run_13 (by decide +kernel) ⟨by decide, by decide⟩ ?_
      refine EV_icmp_le (tgt := 20) d_M_run_15 (by decide) (fun hc => ?_) (fun hc => ?_)
      · have H := H.1 hc
        refine EV_aload_n 0 d_M_run_20 rfl rfl ?_
        refine EV_get (j := 33) d_M_run_21 shM_0 rfl fI11 (by decide) k_987 rfl ?_
        refine EV_iconst d_M_run_24 ⟨by decide, by decide⟩ ?_
        refine EV_icmp_ne (tgt := 40) d_M_run_25 (by decide) (fun hc => ?_) (fun hc => ?_)
        · have H := H.1 hc
          exact ct_M_run_40 H hK
        · have H := H.2 hc
          refine EV_aload_n 0 d_M_run_28 rfl rfl ?_
          refine EV_get (j := 39) d_M_run_29 shM_0 rfl fI11 (by decide) k_993 rfl ?_
          refine EV_if_ne (tgt := 40) d_M_run_32 (by decide) (fun hc => ?_) (fun hc => ?_)
          · have H := H.1 hc
            exact ct_M_run_40 H hK
          · have H := H.2 hc
            refine EV_aload_n 0 d_M_run_35 rfl rfl ?_
            refine EV_iconst d_M_run_36 ⟨by decide, by decide⟩ ?_
            refine EV_callV (as := [vI 0]) (st := []) d_M_run_37 k_1228 k_1230 kp_59 k_12 k_1231 shM_0 rfl pd_29 ⟨by decide, by decide, Nat.le_of_ble_eq_true rfl⟩ rfl (ct_M_end H (fun m_2 H => ?_))
            exact ct_M_run_40 H hK
      · have H := H.2 hc
        refine EV_iconst d_M_run_18 ⟨by decide, by decide⟩ ?_
        exact EV_iret d_M_run_19 rfl (nw_int _) (hK _ _ H)
theorem ct_M_later {l : Launch} {m : Ob} {x1 : Int} {x2 : Int} {x3 : Int} {x4 : Int} {K : Int → Ob → Prop} {K' : Option AV → List AC → Prop} (H : wp_M_later x1 x2 x3 x4 m K) (hK : ∀ (r : Int) (m' : Ob), K r m' → K' (some (vI r)) (shM m')) : MT l ⟨"PrunedSearchModel", "later", "(IIII)I"⟩ prog_13_method_49_code 5 (some .int) 0 [vR 0, vI x1, vI x2, vI x3, vI x4] (shM m) K' := by
  unfold wp_M_later at H
  refine MT_of (lv := [(0, vR 0), (1, vI x1), (2, vI x2), (3, vI x3), (4, vI x4)]) rfl rfl (Nat.le_of_ble_eq_true rfl) rfl ?_
  refine EV_aload_n 0 d_M_later_0 rfl rfl ?_
  refine EV_get (j := 50) d_M_later_1 shM_0 rfl fI11 (by decide) k_1004 rfl ?_
  refine EV_iload_n 1 d_M_later_4 rfl rfl ?_
  refine EV_iload_n 2 d_M_later_5 rfl rfl ?_
  obtain ⟨hi, H⟩ := H
  refine EV_iast d_M_later_6 shM_29 hi shM_29_s ?_
  refine EV_aload_n 0 d_M_later_7 rfl rfl ?_
  refine EV_get (j := 50) d_M_later_8 shM_0 rfl fI11 (by decide) k_1004 rfl ?_
  refine EV_iload_n 1 d_M_later_11 rfl rfl ?_
  refine EV_iconst d_M_later_12 ⟨by decide, by decide⟩ ?_
  obtain ⟨hr, H⟩ := H
  refine EV_iadd d_M_later_13 hr ?_
  refine EV_iload_n 3 d_M_later_14 rfl rfl ?_
  obtain ⟨hi, H⟩ := H
  refine EV_iast d_M_later_15 shM_29 hi shM_29_s ?_
  refine EV_aload_n 0 d_M_later_16 rfl rfl ?_
  refine EV_get (j := 50) d_M_later_17 shM_0 rfl fI11 (by decide) k_1004 rfl ?_
  refine EV_iload_n 1 d_M_later_20 rfl rfl ?_
  refine EV_iconst d_M_later_21 ⟨by decide, by decide⟩ ?_
  obtain ⟨hr, H⟩ := H
  refine EV_iadd d_M_later_22 hr ?_
  refine EV_iload 4 d_M_later_23 rfl ?_
  obtain ⟨hi, H⟩ := H
  refine EV_iast d_M_later_25 shM_29 hi shM_29_s ?_
  refine EV_iload_n 1 d_M_later_26 rfl rfl ?_
  refine EV_iconst d_M_later_27 ⟨by decide, by decide⟩ ?_
  obtain ⟨hr, H⟩ := H
  refine EV_iadd d_M_later_28 hr ?_
  exact EV_iret d_M_later_29 rfl (nw_int _) (hK _ _ H)
theorem ct_M_put {l : Launch} {m : Ob} {x1 : Int} {K : Ob → Prop} {K' : Option AV → List AC → Prop} (H : wp_M_put x1 m K) (hK : ∀ (m' : Ob), K m' → K' none (shM m')) : MT l ⟨"PrunedSearchModel", "put", "(I)V"⟩ prog_13_method_46_code 2 none 0 [vR 0, vI x1] (shM m) K' := by
  unfold wp_M_put at H
  refine MT_of (lv := [(0, vR 0), (1, vI x1)]) rfl rfl (Nat.le_of_ble_eq_true rfl) rfl ?_
  refine EV_aload_n 0 d_M_put_0 rfl rfl ?_
  refine EV_get (j := 51) d_M_put_1 shM_0 rfl fI11 (by decide) k_1005 rfl ?_
  refine EV_aload_n 0 d_M_put_4 rfl rfl ?_
  refine EV_get (j := 52) d_M_put_5 shM_0 rfl fI11 (by decide) k_1006 rfl ?_
  refine EV_iload_n 1 d_M_put_8 rfl rfl ?_
  obtain ⟨hi, H⟩ := H
  refine EV_iast d_M_put_9 shM_30 hi shM_30_s ?_
  refine EV_aload_n 0 d_M_put_10 rfl rfl ?_
  refine EV_aload_n 0 d_M_put_11 rfl rfl ?_
  refine EV_get (j := 52) d_M_put_12 shM_0 rfl fI11 (by decide) k_1006 rfl ?_
  refine EV_iconst d_M_put_15 ⟨by decide, by decide⟩ ?_
  obtain ⟨hr, H⟩ := H
  refine EV_iadd d_M_put_16 hr ?_
  refine EV_put (j := 52) d_M_put_17 shM_0 rfl fI11 fO11 fN11 (by decide) k_1006 rfl rfl (fun ad => nf_int ad _) (Nat.le_of_ble_eq_true rfl) shM_0_52 ?_
  exact EV_vret d_M_put_20 rfl (hK _ H)
theorem ct_M_putVariable_92 {l : Launch} {K : Ob → Prop} {K' : Option AV → List AC → Prop} {x1 : Int} {m : Ob} (H : M_putVariable_92 x1 m K) (hK : ∀ (m' : Ob), K m' → K' none (shM m')) : EV l prog_13_method_48_code "PrunedSearchModel" 2 none 1 92 [(0, vR 0), (1, vI x1)] [] (shM m) K' := by
  refine EV_aload_n 0 d_M_putVariable_92 rfl rfl ?_
  refine EV_bipush d_M_putVariable_93 (by decide +kernel) ⟨by decide, by decide⟩ ?_
  refine EV_aload_n 0 d_M_putVariable_95 rfl rfl ?_
  refine EV_get (j := 53) d_M_putVariable_96 shM_0 rfl fI11 (by decide) k_1007 rfl ?_
  refine EV_iload_n 1 d_M_putVariable_99 rfl rfl ?_
  obtain ⟨hi, H⟩ := H
  refine EV_iald d_M_putVariable_100 shM_31 hi ?_
  refine EV_bipush d_M_putVariable_101 (by decide +kernel) ⟨by decide, by decide⟩ ?_
  obtain ⟨h0, H⟩ := H
  refine EV_irem d_M_putVariable_103 h0 (by decide) ?_
  obtain ⟨hr, H⟩ := H
  refine EV_iadd d_M_putVariable_104 hr ?_
  refine EV_callV (as := [vI (48 + ((m.2.1 26 x1) % 10))]) (st := []) d_M_putVariable_105 k_1310 k_1312 kp_78 k_12 k_1313 shM_0 rfl pd_40 ⟨by decide, by decide, Nat.le_of_ble_eq_true rfl⟩ rfl (ct_M_put H (fun m_2 H => ?_))
  exact EV_vret d_M_putVariable_108 rfl (hK _ H)
theorem ct_M_putVariable_62 {l : Launch} {K : Ob → Prop} {K' : Option AV → List AC → Prop} {x1 : Int} {m : Ob} (H : M_putVariable_62 x1 m K) (hK : ∀ (m' : Ob), K m' → K' none (shM m')) : EV l prog_13_method_48_code "PrunedSearchModel" 2 none 1 62 [(0, vR 0), (1, vI x1)] [] (shM m) K' := by
  refine EV_aload_n 0 d_M_putVariable_62 rfl rfl ?_
  refine EV_get (j := 53) d_M_putVariable_63 shM_0 rfl fI11 (by decide) k_1007 rfl ?_
  refine EV_iload_n 1 d_M_putVariable_66 rfl rfl ?_
  obtain ⟨hi, H⟩ := H
  refine EV_iald d_M_putVariable_67 shM_31 hi ?_
  refine EV_bipush d_M_putVariable_68 (by decide +kernel) ⟨by decide, by decide⟩ ?_
  refine EV_icmp_le (tgt := 92) d_M_putVariable_70 (by decide) (fun hc => ?_) (fun hc => ?_)
  · have H := H.1 hc
    exact ct_M_putVariable_92 H hK
  · have H := H.2 hc
    refine EV_aload_n 0 d_M_putVariable_73 rfl rfl ?_
    refine EV_bipush d_M_putVariable_74 (by decide +kernel) ⟨by decide, by decide⟩ ?_
    refine EV_aload_n 0 d_M_putVariable_76 rfl rfl ?_
    refine EV_get (j := 53) d_M_putVariable_77 shM_0 rfl fI11 (by decide) k_1007 rfl ?_
    refine EV_iload_n 1 d_M_putVariable_80 rfl rfl ?_
    obtain ⟨hi, H⟩ := H
    refine EV_iald d_M_putVariable_81 shM_31 hi ?_
    refine EV_bipush d_M_putVariable_82 (by decide +kernel) ⟨by decide, by decide⟩ ?_
    obtain ⟨h0, H⟩ := H
    refine EV_idiv d_M_putVariable_84 h0 (by decide) ?_
    refine EV_bipush d_M_putVariable_85 (by decide +kernel) ⟨by decide, by decide⟩ ?_
    obtain ⟨h0, H⟩ := H
    refine EV_irem d_M_putVariable_87 h0 (by decide) ?_
    obtain ⟨hr, H⟩ := H
    refine EV_iadd d_M_putVariable_88 hr ?_
    refine EV_callV (as := [vI (48 + (((m.2.1 26 x1) / 10) % 10))]) (st := []) d_M_putVariable_89 k_1310 k_1312 kp_78 k_12 k_1313 shM_0 rfl pd_40 ⟨by decide, by decide, Nat.le_of_ble_eq_true rfl⟩ rfl (ct_M_put H (fun m_3 H => ?_))
    exact ct_M_putVariable_92 H hK
theorem ct_M_putVariable_29 {l : Launch} {K : Ob → Prop} {K' : Option AV → List AC → Prop} {x1 : Int} {m : Ob} (H : M_putVariable_29 x1 m K) (hK : ∀ (m' : Ob), K m' → K' none (shM m')) : EV l prog_13_method_48_code "PrunedSearchModel" 2 none 1 29 [(0, vR 0), (1, vI x1)] [] (shM m) K' := by
  refine EV_aload_n 0 d_M_putVariable_29 rfl rfl ?_
  refine EV_bipush d_M_putVariable_30 (by decide +kernel) ⟨by decide, by decide⟩ ?_
  refine EV_callV (as := [vI 95]) (st := []) d_M_putVariable_32 k_1310 k_1312 kp_78 k_12 k_1313 shM_0 rfl pd_40 ⟨by decide, by decide, Nat.le_of_ble_eq_true rfl⟩ rfl (ct_M_put H (fun m_1 H => ?_))
  refine EV_aload_n 0 d_M_putVariable_35 rfl rfl ?_
  refine EV_get (j := 53) d_M_putVariable_36 shM_0 rfl fI11 (by decide) k_1007 rfl ?_
  refine EV_iload_n 1 d_M_putVariable_39 rfl rfl ?_
  obtain ⟨hi, H⟩ := H
  refine EV_iald d_M_putVariable_40 shM_31 hi ?_
  refine EV_bipush d_M_putVariable_41 (by decide +kernel) ⟨by decide, by decide⟩ ?_
  refine EV_icmp_le (tgt := 62) d_M_putVariable_43 (by decide) (fun hc => ?_) (fun hc => ?_)
  · have H := H.1 hc
    exact ct_M_putVariable_62 H hK
  · have H := H.2 hc
    refine EV_aload_n 0 d_M_putVariable_46 rfl rfl ?_
    refine EV_bipush d_M_putVariable_47 (by decide +kernel) ⟨by decide, by decide⟩ ?_
    refine EV_aload_n 0 d_M_putVariable_49 rfl rfl ?_
    refine EV_get (j := 53) d_M_putVariable_50 shM_0 rfl fI11 (by decide) k_1007 rfl ?_
    refine EV_iload_n 1 d_M_putVariable_53 rfl rfl ?_
    obtain ⟨hi, H⟩ := H
    refine EV_iald d_M_putVariable_54 shM_31 hi ?_
    refine EV_bipush d_M_putVariable_55 (by decide +kernel) ⟨by decide, by decide⟩ ?_
    obtain ⟨h0, H⟩ := H
    refine EV_idiv d_M_putVariable_57 h0 (by decide) ?_
    obtain ⟨hr, H⟩ := H
    refine EV_iadd d_M_putVariable_58 hr ?_
    refine EV_callV (as := [vI (48 + ((m_1.2.1 26 x1) / 100))]) (st := []) d_M_putVariable_59 k_1310 k_1312 kp_78 k_12 k_1313 shM_0 rfl pd_40 ⟨by decide, by decide, Nat.le_of_ble_eq_true rfl⟩ rfl (ct_M_put H (fun m_4 H => ?_))
    exact ct_M_putVariable_62 H hK
theorem ct_M_putVariable {l : Launch} {m : Ob} {x1 : Int} {K : Ob → Prop} {K' : Option AV → List AC → Prop} (H : wp_M_putVariable x1 m K) (hK : ∀ (m' : Ob), K m' → K' none (shM m')) : MT l ⟨"PrunedSearchModel", "putVariable", "(I)V"⟩ prog_13_method_48_code 2 none 1 [vR 0, vI x1] (shM m) K' := by
  unfold wp_M_putVariable at H
  refine MT_of (lv := [(0, vR 0), (1, vI x1)]) rfl rfl (Nat.le_of_ble_eq_true rfl) rfl ?_
  refine EV_aload_n 0 d_M_putVariable_0 rfl rfl ?_
  refine EV_get (j := 53) d_M_putVariable_1 shM_0 rfl fI11 (by decide) k_1007 rfl ?_
  refine EV_iload_n 1 d_M_putVariable_4 rfl rfl ?_
  obtain ⟨hi, H⟩ := H
  refine EV_iald d_M_putVariable_5 shM_31 hi ?_
  refine EV_if_ge (tgt := 29) d_M_putVariable_6 (by decide) (fun hc => ?_) (fun hc => ?_)
  · have H := H.1 hc
    exact ct_M_putVariable_29 H hK
  · have H := H.2 hc
    refine EV_aload_n 0 d_M_putVariable_9 rfl rfl ?_
    refine EV_get (j := 53) d_M_putVariable_10 shM_0 rfl fI11 (by decide) k_1007 rfl ?_
    refine EV_iload_n 1 d_M_putVariable_13 rfl rfl ?_
    refine EV_aload_n 0 d_M_putVariable_14 rfl rfl ?_
    refine EV_get (j := 54) d_M_putVariable_15 shM_0 rfl fI11 (by decide) k_1008 rfl ?_
    obtain ⟨hi, H⟩ := H
    refine EV_iast d_M_putVariable_18 shM_31 hi shM_31_s ?_
    refine EV_aload_n 0 d_M_putVariable_19 rfl rfl ?_
    refine EV_aload_n 0 d_M_putVariable_20 rfl rfl ?_
    refine EV_get (j := 54) d_M_putVariable_21 shM_0 rfl fI11 (by decide) k_1008 rfl ?_
    refine EV_iconst d_M_putVariable_24 ⟨by decide, by decide⟩ ?_
    obtain ⟨hr, H⟩ := H
    refine EV_iadd d_M_putVariable_25 hr ?_
    refine EV_put (j := 54) d_M_putVariable_26 shM_0 rfl fI11 fO11 fN11 (by decide) k_1008 rfl rfl (fun ad => nf_int ad _) (Nat.le_of_ble_eq_true rfl) shM_0_54 ?_
    exact ct_M_putVariable_29 H hK
theorem ct_M_putWord_32 {l : Launch} {K : Ob → Prop} {K' : Option AV → List AC → Prop} {L2 : Nat → Int → Ob → Prop} {y1 : Nat} {x3 : Int} {m : Ob} (hL2 : ∀ (y1 : Nat) (x3 : Int) (m : Ob), L2 y1 x3 m → EV l prog_13_method_47_code "PrunedSearchModel" 5 none 1 2 [(0, vR 0), (1, vL y1), (3, vI x3)] [] (shM m) K') (H : M_putWord_32 L2 y1 x3 m K) (hK : ∀ (m' : Ob), K m' → K' none (shM m')) : EV l prog_13_method_47_code "PrunedSearchModel" 5 none 1 32 [(0, vR 0), (1, vL y1), (3, vI x3)] [] (shM m) K' := by
  obtain ⟨hr, H⟩ := H
  refine EV_iinc (lv' := [(0, vR 0), (1, vL y1), (3, vI (x3 + 1))]) 2 [1, 2, 0] d_M_putWord_32 rfl (by decide) hr rfl ?_
  refine EV_goto (tgt := 2) d_M_putWord_35 (by decide) ?_
  exact hL2 y1 (x3 + 1) m H
theorem ct_M_putWord_2 {l : Launch} {K : Ob → Prop} {K' : Option AV → List AC → Prop} (hK : ∀ (m' : Ob), K m' → K' none (shM m')) : ∀ (n : Nat) (y1 : Nat) (x3 : Int) (m : Ob), M_putWord_2 n y1 x3 m K → EV l prog_13_method_47_code "PrunedSearchModel" 5 none 1 2 [(0, vR 0), (1, vL y1), (3, vI x3)] [] (shM m) K' := by
  intro n
  induction n with
  | zero =>
    intro y1 x3 m H
    exact H.elim
  | succ n ih =>
    intro y1 x3 m H
    refine EV_iload_n 2 d_M_putWord_2 rfl rfl ?_
    refine EV_bipush d_M_putWord_3 (by decide +kernel) ⟨by decide, by decide⟩ ?_
    refine EV_icmp_ge (tgt := 38) d_M_putWord_5 (by decide) (fun hc => ?_) (fun hc => ?_)
    · have H := H.1 hc
      exact EV_vret d_M_putWord_38 rfl (hK _ H)
    · have H := H.2 hc
      refine EV_lload_n 1 d_M_putWord_8 rfl rfl ?_
      refine EV_bipush d_M_putWord_9 (by decide +kernel) ⟨by decide, by decide⟩ ?_
      refine EV_iload_n 2 d_M_putWord_11 rfl rfl ?_
      obtain ⟨hr, H⟩ := H
      refine EV_imul d_M_putWord_12 hr ?_
      obtain ⟨h1, H⟩ := H
      refine EV_lshr d_M_putWord_13 h1 ?_
      refine EV_ldc2 (n := 255) d_M_putWord_14 k_1124 (by decide +kernel) (by decide) ?_
      refine EV_land d_M_putWord_17 ?_
      obtain ⟨h0, H⟩ := H
      refine EV_l2i d_M_putWord_18 h0 ?_
      refine EV_istore (lv' := [(0, vR 0), (1, vL y1), (3, vI x3), (4, vI (((sar y1 (8 * x3).toNat) &&& 255 : Nat) : Int))]) [1, 2, 3, 0] d_M_putWord_19 (by decide) rfl ?_
      refine EV_iload 3 d_M_putWord_21 rfl ?_
      refine EV_if_eq (tgt := 32) d_M_putWord_23 (by decide) (fun hc => ?_) (fun hc => ?_)
      · have H := H.1 hc
        refine EV_lv (lv' := [(0, vR 0), (1, vL y1), (3, vI x3)]) [0, 1, 2] rfl ?_
        exact ct_M_putWord_32 (fun y1 x3 m' H => ih y1 x3 m' H) H hK
      · have H := H.2 hc
        refine EV_aload_n 0 d_M_putWord_26 rfl rfl ?_
        refine EV_iload 3 d_M_putWord_27 rfl ?_
        refine EV_callV (as := [vI (((sar y1 (8 * x3).toNat) &&& 255 : Nat) : Int)]) (st := []) d_M_putWord_29 k_1310 k_1312 kp_78 k_12 k_1313 shM_0 rfl pd_40 ⟨by decide, by decide, Nat.le_of_ble_eq_true rfl⟩ rfl (ct_M_put H (fun m_1 H => ?_))
        refine EV_lv (lv' := [(0, vR 0), (1, vL y1), (3, vI x3)]) [0, 1, 2] rfl ?_
        exact ct_M_putWord_32 (fun y1 x3 m' H => ih y1 x3 m' H) H hK
theorem ct_M_putWord {l : Launch} {m : Ob} {y1 : Nat} {K : Ob → Prop} {K' : Option AV → List AC → Prop} (H : wp_M_putWord y1 m K) (hK : ∀ (m' : Ob), K m' → K' none (shM m')) : MT l ⟨"PrunedSearchModel", "putWord", "(J)V"⟩ prog_13_method_47_code 5 none 1 [vR 0, vL y1] (shM m) K' := by
  unfold wp_M_putWord at H
  refine MT_of (lv := [(0, vR 0), (1, vL y1)]) rfl rfl (Nat.le_of_ble_eq_true rfl) rfl ?_
  refine EV_iconst d_M_putWord_0 ⟨by decide, by decide⟩ ?_
  refine EV_istore_n (lv' := [(0, vR 0), (1, vL y1), (3, vI 0)]) [1, 2, 0] d_M_putWord_1 rfl (by decide) rfl ?_
  obtain ⟨n, H⟩ := H
  exact ct_M_putWord_2 hK n y1 0 m H
theorem ct_M_writeTerm_221 {l : Launch} {K : Int → Ob → Prop} {K' : Option AV → List AC → Prop} {L155 : Int → Int → Int → Int → Ob → Prop} {x1 : Int} {x2 : Int} {x5 : Int} {s0 : Int} {m : Ob} (hL155 : ∀ (x1 : Int) (x2 : Int) (x4 : Int) (x5 : Int) (m : Ob), L155 x1 x2 x4 x5 m → EV l prog_13_method_50_code "PrunedSearchModel" 8 (some .int) 2 155 [(0, vR 0), (1, vI x1), (2, vI x2), (4, vI x4), (5, vI x5)] [] (shM m) K') (H : M_writeTerm_221 L155 x1 x2 x5 s0 m K) (hK : ∀ (r : Int) (m' : Ob), K r m' → K' (some (vI r)) (shM m')) : EV l prog_13_method_50_code "PrunedSearchModel" 8 (some .int) 2 221 [(0, vR 0), (1, vI x1), (2, vI x2), (5, vI x5)] [vI s0] (shM m) K' := by
  refine EV_istore (lv' := [(0, vR 0), (1, vI x1), (2, vI x2), (4, vI s0), (5, vI x5)]) [1, 2, 3, 0, 4] d_M_writeTerm_221 (by decide) rfl ?_
  obtain ⟨hr, H⟩ := H
  refine EV_iinc (lv' := [(0, vR 0), (1, vI x1), (2, vI x2), (4, vI s0), (5, vI (x5 + (-1)))]) 4 [1, 2, 3, 4, 0] d_M_writeTerm_223 rfl (by decide) hr rfl ?_
  refine EV_goto (tgt := 155) d_M_writeTerm_226 (by decide) ?_
  exact hL155 x1 x2 s0 (x5 + (-1)) m H
theorem ct_M_writeTerm_189 {l : Launch} {K : Int → Ob → Prop} {K' : Option AV → List AC → Prop} {L155 : Int → Int → Int → Int → Ob → Prop} {x1 : Int} {x2 : Int} {x4 : Int} {x5 : Int} {x6 : Int} {m : Ob} (hL155 : ∀ (x1 : Int) (x2 : Int) (x4 : Int) (x5 : Int) (m : Ob), L155 x1 x2 x4 x5 m → EV l prog_13_method_50_code "PrunedSearchModel" 8 (some .int) 2 155 [(0, vR 0), (1, vI x1), (2, vI x2), (4, vI x4), (5, vI x5)] [] (shM m) K') (H : M_writeTerm_189 L155 x1 x2 x4 x5 x6 m K) (hK : ∀ (r : Int) (m' : Ob), K r m' → K' (some (vI r)) (shM m')) : EV l prog_13_method_50_code "PrunedSearchModel" 8 (some .int) 2 189 [(0, vR 0), (1, vI x1), (2, vI x2), (4, vI x4), (5, vI x5), (6, vI x6)] [] (shM m) K' := by
  refine EV_aload_n 0 d_M_writeTerm_189 rfl rfl ?_
  refine EV_iload 3 d_M_writeTerm_190 rfl ?_
  refine EV_iconst d_M_writeTerm_192 ⟨by decide, by decide⟩ ?_
  refine EV_iload 5 d_M_writeTerm_193 rfl ?_
  refine EV_iload_n 2 d_M_writeTerm_195 rfl rfl ?_
  refine EV_callV (as := [vI x4, vI 0, vI x6, vI x2]) (st := []) d_M_writeTerm_196 k_1306 k_1308 kp_77 k_12 k_1309 shM_0 rfl pd_41 ⟨by decide, by decide, Nat.le_of_ble_eq_true rfl⟩ rfl (ct_M_later H (fun r_6 m_5 H => ?_))
  refine EV_istore (lv' := [(0, vR 0), (1, vI x1), (2, vI x2), (4, vI r_6), (5, vI x5), (6, vI x6)]) [1, 2, 3, 0, 4, 5] d_M_writeTerm_199 (by decide) rfl ?_
  refine EV_iload 4 d_M_writeTerm_201 rfl ?_
  refine EV_if_le (tgt := 219) d_M_writeTerm_203 (by decide) (fun hc => ?_) (fun hc => ?_)
  · have H := H.1 hc
    refine EV_iload 3 d_M_writeTerm_219 rfl ?_
    refine EV_lv (lv' := [(0, vR 0), (1, vI x1), (2, vI x2), (5, vI x5)]) [0, 1, 2, 4] rfl ?_
    exact ct_M_writeTerm_221 hL155 H hK
  · have H := H.2 hc
    refine EV_aload_n 0 d_M_writeTerm_206 rfl rfl ?_
    refine EV_iload 3 d_M_writeTerm_207 rfl ?_
    refine EV_iconst d_M_writeTerm_209 ⟨by decide, by decide⟩ ?_
    refine EV_bipush d_M_writeTerm_210 (by decide +kernel) ⟨by decide, by decide⟩ ?_
    refine EV_iconst d_M_writeTerm_212 ⟨by decide, by decide⟩ ?_
    refine EV_callV (as := [vI r_6, vI 1, vI 44, vI 0]) (st := []) d_M_writeTerm_213 k_1306 k_1308 kp_77 k_12 k_1309 shM_0 rfl pd_41 ⟨by decide, by decide, Nat.le_of_ble_eq_true rfl⟩ rfl (ct_M_later H (fun r_8 m_7 H => ?_))
    refine EV_goto (tgt := 221) d_M_writeTerm_216 (by decide) ?_
    refine EV_lv (lv' := [(0, vR 0), (1, vI x1), (2, vI x2), (5, vI x5)]) [0, 1, 2, 4] rfl ?_
    exact ct_M_writeTerm_221 hL155 H hK
theorem ct_M_writeTerm_168 {l : Launch} {K : Int → Ob → Prop} {K' : Option AV → List AC → Prop} {L155 : Int → Int → Int → Int → Ob → Prop} (hL155 : ∀ (x1 : Int) (x2 : Int) (x4 : Int) (x5 : Int) (m : Ob), L155 x1 x2 x4 x5 m → EV l prog_13_method_50_code "PrunedSearchModel" 8 (some .int) 2 155 [(0, vR 0), (1, vI x1), (2, vI x2), (4, vI x4), (5, vI x5)] [] (shM m) K') (hK : ∀ (r : Int) (m' : Ob), K r m' → K' (some (vI r)) (shM m')) : ∀ (n : Nat) (x1 : Int) (x2 : Int) (x4 : Int) (x5 : Int) (x6 : Int) (x7 : Int) (m : Ob), M_writeTerm_168 L155 n x1 x2 x4 x5 x6 x7 m K → EV l prog_13_method_50_code "PrunedSearchModel" 8 (some .int) 2 168 [(0, vR 0), (1, vI x1), (2, vI x2), (4, vI x4), (5, vI x5), (6, vI x6), (7, vI x7)] [] (shM m) K' := by
  intro n
  induction n with
  | zero =>
    intro x1 x2 x4 x5 x6 x7 m H
    exact H.elim
  | succ n ih =>
    intro x1 x2 x4 x5 x6 x7 m H
    refine EV_iload 6 d_M_writeTerm_168 rfl ?_
    refine EV_iload 4 d_M_writeTerm_170 rfl ?_
    refine EV_icmp_ge (tgt := 189) d_M_writeTerm_172 (by decide) (fun hc => ?_) (fun hc => ?_)
    · have H := H.1 hc
      refine EV_lv (lv' := [(0, vR 0), (1, vI x1), (2, vI x2), (4, vI x4), (5, vI x5), (6, vI x6)]) [0, 1, 2, 3, 4, 5] rfl ?_
      exact ct_M_writeTerm_189 hL155 H hK
    · have H := H.2 hc
      refine EV_aload_n 0 d_M_writeTerm_175 rfl rfl ?_
      refine EV_iload 5 d_M_writeTerm_176 rfl ?_
      refine EV_callV (as := [vI x6]) (st := []) d_M_writeTerm_178 k_1274 k_1276 kp_70 k_12 k_1277 shM_0 rfl pd_24 ⟨by decide, by decide, Nat.le_of_ble_eq_true rfl⟩ rfl (ct_M_behind H (fun r_9 H => ?_))
      refine EV_istore (lv' := [(0, vR 0), (1, vI x1), (2, vI x2), (4, vI x4), (5, vI x5), (6, vI r_9), (7, vI x7)]) [1, 2, 3, 4, 5, 0, 6] d_M_writeTerm_181 (by decide) rfl ?_
      obtain ⟨hr, H⟩ := H
      refine EV_iinc (lv' := [(0, vR 0), (1, vI x1), (2, vI x2), (4, vI x4), (5, vI x5), (6, vI r_9), (7, vI (x7 + 1))]) 6 [1, 2, 3, 4, 5, 6, 0] d_M_writeTerm_183 rfl (by decide) hr rfl ?_
      refine EV_goto (tgt := 168) d_M_writeTerm_186 (by decide) ?_
      exact ih x1 x2 x4 x5 r_9 (x7 + 1) m H
theorem ct_M_writeTerm_155 {l : Launch} {K : Int → Ob → Prop} {K' : Option AV → List AC → Prop} (hK : ∀ (r : Int) (m' : Ob), K r m' → K' (some (vI r)) (shM m')) : ∀ (n : Nat) (x1 : Int) (x2 : Int) (x4 : Int) (x5 : Int) (m : Ob), M_writeTerm_155 n x1 x2 x4 x5 m K → EV l prog_13_method_50_code "PrunedSearchModel" 8 (some .int) 2 155 [(0, vR 0), (1, vI x1), (2, vI x2), (4, vI x4), (5, vI x5)] [] (shM m) K' := by
  intro n
  induction n with
  | zero =>
    intro x1 x2 x4 x5 m H
    exact H.elim
  | succ n ih =>
    intro x1 x2 x4 x5 m H
    refine EV_iload 4 d_M_writeTerm_155 rfl ?_
    refine EV_if_lt (tgt := 229) d_M_writeTerm_157 (by decide) (fun hc => ?_) (fun hc => ?_)
    · have H := H.1 hc
      refine EV_iload 3 d_M_writeTerm_229 rfl ?_
      exact EV_iret d_M_writeTerm_231 rfl (nw_int _) (hK _ _ H)
    · have H := H.2 hc
      refine EV_iload_n 1 d_M_writeTerm_160 rfl rfl ?_
      refine EV_iconst d_M_writeTerm_161 ⟨by decide, by decide⟩ ?_
      obtain ⟨hr, H⟩ := H
      refine EV_iadd d_M_writeTerm_162 hr ?_
      refine EV_istore (lv' := [(0, vR 0), (1, vI x1), (2, vI x2), (4, vI x4), (5, vI x5), (6, vI (x1 + 1))]) [1, 2, 3, 4, 5, 0] d_M_writeTerm_163 (by decide) rfl ?_
      refine EV_iconst d_M_writeTerm_165 ⟨by decide, by decide⟩ ?_
      refine EV_istore (lv' := [(0, vR 0), (1, vI x1), (2, vI x2), (4, vI x4), (5, vI x5), (6, vI (x1 + 1)), (7, vI 0)]) [1, 2, 3, 4, 5, 6, 0] d_M_writeTerm_166 (by decide) rfl ?_
      obtain ⟨n, H⟩ := H
      exact ct_M_writeTerm_168 (fun x1 x2 x4 x5 m' H => ih x1 x2 x4 x5 m' H) hK n x1 x2 x4 x5 (x1 + 1) 0 m H
theorem ct_M_writeTerm {l : Launch} {m : Ob} {x1 : Int} {x2 : Int} {x3 : Int} {K : Int → Ob → Prop} {K' : Option AV → List AC → Prop} (H : wp_M_writeTerm x1 x2 x3 m K) (hK : ∀ (r : Int) (m' : Ob), K r m' → K' (some (vI r)) (shM m')) : MT l ⟨"PrunedSearchModel", "writeTerm", "(III)I"⟩ prog_13_method_50_code 8 (some .int) 2 [vR 0, vI x1, vI x2, vI x3] (shM m) K' := by
  unfold wp_M_writeTerm at H
  refine MT_of (lv := [(0, vR 0), (1, vI x1), (2, vI x2), (3, vI x3)]) rfl rfl (Nat.le_of_ble_eq_true rfl) rfl ?_
  refine EV_aload_n 0 d_M_writeTerm_0 rfl rfl ?_
  refine EV_get (j := 24) d_M_writeTerm_1 shM_0 rfl fI11 (by decide) k_978 rfl ?_
  refine EV_iload_n 1 d_M_writeTerm_4 rfl rfl ?_
  obtain ⟨hi, H⟩ := H
  refine EV_iald d_M_writeTerm_5 shM_14 hi ?_
  refine EV_iconst d_M_writeTerm_6 ⟨by decide, by decide⟩ ?_
  refine EV_icmp_ne (tgt := 28) d_M_writeTerm_7 (by decide) (fun hc => ?_) (fun hc => ?_)
  · have H := H.1 hc
    refine EV_iload_n 3 d_M_writeTerm_28 rfl rfl ?_
    refine EV_istore (lv' := [(0, vR 0), (1, vI x1), (2, vI x2), (3, vI x3), (4, vI x3)]) [1, 2, 3, 4, 0] d_M_writeTerm_29 (by decide) rfl ?_
    refine EV_aload_n 0 d_M_writeTerm_31 rfl rfl ?_
    refine EV_get (j := 23) d_M_writeTerm_32 shM_0 rfl fI11 (by decide) k_977 rfl ?_
    refine EV_iload_n 1 d_M_writeTerm_35 rfl rfl ?_
    obtain ⟨hi, H⟩ := H
    refine EV_lald d_M_writeTerm_36 shM_13 hi ?_
    refine EV_lconst (v := 1) d_M_writeTerm_37 rfl ?_
    refine EV_lcmp_ne (tgt := 77) d_M_writeTerm_38 d_M_writeTerm_39 (by decide) (fun hc => ?_) (fun hc => ?_)
    · have H := H.1 hc
      refine EV_aload_n 0 d_M_writeTerm_77 rfl rfl ?_
      refine EV_get (j := 23) d_M_writeTerm_78 shM_0 rfl fI11 (by decide) k_977 rfl ?_
      refine EV_iload_n 1 d_M_writeTerm_81 rfl rfl ?_
      obtain ⟨hi, H⟩ := H
      refine EV_lald d_M_writeTerm_82 shM_13 hi ?_
      refine EV_ldc2 (n := 2) d_M_writeTerm_83 k_1174 (by decide +kernel) (by decide) ?_
      refine EV_lcmp_ne (tgt := 105) d_M_writeTerm_86 d_M_writeTerm_87 (by decide) (fun hc => ?_) (fun hc => ?_)
      · have H := H.1 hc
        refine EV_aload_n 0 d_M_writeTerm_105 rfl rfl ?_
        refine EV_aload_n 0 d_M_writeTerm_106 rfl rfl ?_
        refine EV_get (j := 23) d_M_writeTerm_107 shM_0 rfl fI11 (by decide) k_977 rfl ?_
        refine EV_iload_n 1 d_M_writeTerm_110 rfl rfl ?_
        obtain ⟨hi, H⟩ := H
        refine EV_lald d_M_writeTerm_111 shM_13 hi ?_
        refine EV_callV (as := [vL (m.2.2.2 2 x1)]) (st := []) d_M_writeTerm_112 k_1322 k_1324 kp_81 k_12 k_1325 shM_0 rfl pd_42 ⟨by decide, by decide, Nat.le_of_ble_eq_true rfl⟩ rfl (ct_M_putWord H (fun m_1 H => ?_))
        refine EV_aload_n 0 d_M_writeTerm_115 rfl rfl ?_
        refine EV_get (j := 24) d_M_writeTerm_116 shM_0 rfl fI11 (by decide) k_978 rfl ?_
        refine EV_iload_n 1 d_M_writeTerm_119 rfl rfl ?_
        obtain ⟨hi, H⟩ := H
        refine EV_iald d_M_writeTerm_120 shM_14 hi ?_
        refine EV_if_ne (tgt := 127) d_M_writeTerm_121 (by decide) (fun hc => ?_) (fun hc => ?_)
        · have H := H.1 hc
          refine EV_aload_n 0 d_M_writeTerm_127 rfl rfl ?_
          refine EV_bipush d_M_writeTerm_128 (by decide +kernel) ⟨by decide, by decide⟩ ?_
          refine EV_callV (as := [vI 40]) (st := []) d_M_writeTerm_130 k_1310 k_1312 kp_78 k_12 k_1313 shM_0 rfl pd_40 ⟨by decide, by decide, Nat.le_of_ble_eq_true rfl⟩ rfl (ct_M_put H (fun m_2 H => ?_))
          refine EV_aload_n 0 d_M_writeTerm_133 rfl rfl ?_
          refine EV_iload 4 d_M_writeTerm_134 rfl ?_
          refine EV_iconst d_M_writeTerm_136 ⟨by decide, by decide⟩ ?_
          refine EV_bipush d_M_writeTerm_137 (by decide +kernel) ⟨by decide, by decide⟩ ?_
          refine EV_iconst d_M_writeTerm_139 ⟨by decide, by decide⟩ ?_
          refine EV_callV (as := [vI x3, vI 1, vI 41, vI 0]) (st := []) d_M_writeTerm_140 k_1306 k_1308 kp_77 k_12 k_1309 shM_0 rfl pd_41 ⟨by decide, by decide, Nat.le_of_ble_eq_true rfl⟩ rfl (ct_M_later H (fun r_4 m_3 H => ?_))
          refine EV_istore (lv' := [(0, vR 0), (1, vI x1), (2, vI x2), (3, vI x3), (4, vI r_4)]) [1, 2, 3, 4, 0] d_M_writeTerm_143 (by decide) rfl ?_
          refine EV_aload_n 0 d_M_writeTerm_145 rfl rfl ?_
          refine EV_get (j := 24) d_M_writeTerm_146 shM_0 rfl fI11 (by decide) k_978 rfl ?_
          refine EV_iload_n 1 d_M_writeTerm_149 rfl rfl ?_
          obtain ⟨hi, H⟩ := H
          refine EV_iald d_M_writeTerm_150 shM_14 hi ?_
          refine EV_iconst d_M_writeTerm_151 ⟨by decide, by decide⟩ ?_
          obtain ⟨hr, H⟩ := H
          refine EV_isub d_M_writeTerm_152 hr ?_
          refine EV_istore (lv' := [(0, vR 0), (1, vI x1), (2, vI x2), (3, vI x3), (4, vI r_4), (5, vI ((m_3.2.1 10 x1) - 1))]) [1, 2, 3, 4, 5, 0] d_M_writeTerm_153 (by decide) rfl ?_
          refine EV_lv (lv' := [(0, vR 0), (1, vI x1), (2, vI x2), (4, vI r_4), (5, vI ((m_3.2.1 10 x1) - 1))]) [0, 1, 2, 4, 5] rfl ?_
          obtain ⟨n, H⟩ := H
          exact ct_M_writeTerm_155 hK n x1 x2 r_4 ((m_3.2.1 10 x1) - 1) m_3 H
        · have H := H.2 hc
          refine EV_iload 4 d_M_writeTerm_124 rfl ?_
          exact EV_iret d_M_writeTerm_126 rfl (nw_int _) (hK _ _ H)
      · have H := H.2 hc
        refine EV_aload_n 0 d_M_writeTerm_90 rfl rfl ?_
        refine EV_bipush d_M_writeTerm_91 (by decide +kernel) ⟨by decide, by decide⟩ ?_
        refine EV_callV (as := [vI 91]) (st := []) d_M_writeTerm_93 k_1310 k_1312 kp_78 k_12 k_1313 shM_0 rfl pd_40 ⟨by decide, by decide, Nat.le_of_ble_eq_true rfl⟩ rfl (ct_M_put H (fun m_10 H => ?_))
        refine EV_aload_n 0 d_M_writeTerm_96 rfl rfl ?_
        refine EV_bipush d_M_writeTerm_97 (by decide +kernel) ⟨by decide, by decide⟩ ?_
        refine EV_callV (as := [vI 93]) (st := []) d_M_writeTerm_99 k_1310 k_1312 kp_78 k_12 k_1313 shM_0 rfl pd_40 ⟨by decide, by decide, Nat.le_of_ble_eq_true rfl⟩ rfl (ct_M_put H (fun m_11 H => ?_))
        refine EV_iload 4 d_M_writeTerm_102 rfl ?_
        exact EV_iret d_M_writeTerm_104 rfl (nw_int _) (hK _ _ H)
    · have H := H.2 hc
      refine EV_aload_n 0 d_M_writeTerm_42 rfl rfl ?_
      refine EV_bipush d_M_writeTerm_43 (by decide +kernel) ⟨by decide, by decide⟩ ?_
      refine EV_callV (as := [vI 91]) (st := []) d_M_writeTerm_45 k_1310 k_1312 kp_78 k_12 k_1313 shM_0 rfl pd_40 ⟨by decide, by decide, Nat.le_of_ble_eq_true rfl⟩ rfl (ct_M_put H (fun m_12 H => ?_))
      refine EV_aload_n 0 d_M_writeTerm_48 rfl rfl ?_
      refine EV_iload 4 d_M_writeTerm_49 rfl ?_
      refine EV_iconst d_M_writeTerm_51 ⟨by decide, by decide⟩ ?_
      refine EV_aload_n 0 d_M_writeTerm_52 rfl rfl ?_
      refine EV_iload_n 1 d_M_writeTerm_53 rfl rfl ?_
      refine EV_iconst d_M_writeTerm_54 ⟨by decide, by decide⟩ ?_
      obtain ⟨hr, H⟩ := H
      refine EV_iadd d_M_writeTerm_55 hr ?_
      refine EV_callV (as := [vI (x1 + 1)]) (st := [vI 2, vI x3, vR 0]) d_M_writeTerm_56 k_1274 k_1276 kp_70 k_12 k_1277 shM_0 rfl pd_24 ⟨by decide, by decide, Nat.le_of_ble_eq_true rfl⟩ rfl (ct_M_behind H (fun r_13 H => ?_))
      refine EV_iload_n 2 d_M_writeTerm_59 rfl rfl ?_
      refine EV_callV (as := [vI x3, vI 2, vI r_13, vI x2]) (st := []) d_M_writeTerm_60 k_1306 k_1308 kp_77 k_12 k_1309 shM_0 rfl pd_41 ⟨by decide, by decide, Nat.le_of_ble_eq_true rfl⟩ rfl (ct_M_later H (fun r_15 m_14 H => ?_))
      refine EV_istore (lv' := [(0, vR 0), (1, vI x1), (2, vI x2), (3, vI x3), (4, vI r_15)]) [1, 2, 3, 4, 0] d_M_writeTerm_63 (by decide) rfl ?_
      refine EV_aload_n 0 d_M_writeTerm_65 rfl rfl ?_
      refine EV_iload 4 d_M_writeTerm_66 rfl ?_
      refine EV_iconst d_M_writeTerm_68 ⟨by decide, by decide⟩ ?_
      refine EV_iload_n 1 d_M_writeTerm_69 rfl rfl ?_
      refine EV_iconst d_M_writeTerm_70 ⟨by decide, by decide⟩ ?_
      obtain ⟨hr, H⟩ := H
      refine EV_iadd d_M_writeTerm_71 hr ?_
      refine EV_iload_n 2 d_M_writeTerm_72 rfl rfl ?_
      refine EV_callV (as := [vI r_15, vI 0, vI (x1 + 1), vI x2]) (st := []) d_M_writeTerm_73 k_1306 k_1308 kp_77 k_12 k_1309 shM_0 rfl pd_41 ⟨by decide, by decide, Nat.le_of_ble_eq_true rfl⟩ rfl (ct_M_later H (fun r_17 m_16 H => ?_))
      exact EV_iret d_M_writeTerm_76 rfl (nw_int _) (hK _ _ H)
  · have H := H.2 hc
    refine EV_aload_n 0 d_M_writeTerm_10 rfl rfl ?_
    refine EV_bipush d_M_writeTerm_11 (by decide +kernel) ⟨by decide, by decide⟩ ?_
    refine EV_iload_n 2 d_M_writeTerm_13 rfl rfl ?_
    obtain ⟨hr, H⟩ := H
    refine EV_imul d_M_writeTerm_14 hr ?_
    refine EV_aload_n 0 d_M_writeTerm_15 rfl rfl ?_
    refine EV_get (j := 23) d_M_writeTerm_16 shM_0 rfl fI11 (by decide) k_977 rfl ?_
    refine EV_iload_n 1 d_M_writeTerm_19 rfl rfl ?_
    obtain ⟨hi, H⟩ := H
    refine EV_lald d_M_writeTerm_20 shM_13 hi ?_
    obtain ⟨h0, H⟩ := H
    refine EV_l2i d_M_writeTerm_21 h0 ?_
    obtain ⟨hr, H⟩ := H
    refine EV_iadd d_M_writeTerm_22 hr ?_
    refine EV_callV (as := [vI ((8 * x2) + (((m.2.2.2 2 x1) : Nat) : Int))]) (st := []) d_M_writeTerm_23 k_1318 k_1320 kp_80 k_12 k_1321 shM_0 rfl pd_43 ⟨by decide, by decide, Nat.le_of_ble_eq_true rfl⟩ rfl (ct_M_putVariable H (fun m_18 H => ?_))
    refine EV_iload_n 3 d_M_writeTerm_26 rfl rfl ?_
    exact EV_iret d_M_writeTerm_27 rfl (nw_int _) (hK _ _ H)
theorem ct_M_writeRest_85 {l : Launch} {K : Int → Ob → Prop} {K' : Option AV → List AC → Prop} {x1 : Int} {x2 : Int} {x3 : Int} {m : Ob} (H : M_writeRest_85 x1 x2 x3 m K) (hK : ∀ (r : Int) (m' : Ob), K r m' → K' (some (vI r)) (shM m')) : EV l prog_13_method_51_code "PrunedSearchModel" 5 (some .int) 1 85 [(0, vR 0), (1, vI x1), (2, vI x2), (3, vI x3)] [] (shM m) K' := by
  refine EV_aload_n 0 d_M_writeRest_85 rfl rfl ?_
  refine EV_bipush d_M_writeRest_86 (by decide +kernel) ⟨by decide, by decide⟩ ?_
  refine EV_callV (as := [vI 124]) (st := []) d_M_writeRest_88 k_1310 k_1312 kp_78 k_12 k_1313 shM_0 rfl pd_40 ⟨by decide, by decide, Nat.le_of_ble_eq_true rfl⟩ rfl (ct_M_put H (fun m_1 H => ?_))
  refine EV_aload_n 0 d_M_writeRest_91 rfl rfl ?_
  refine EV_iload_n 3 d_M_writeRest_92 rfl rfl ?_
  refine EV_iconst d_M_writeRest_93 ⟨by decide, by decide⟩ ?_
  refine EV_bipush d_M_writeRest_94 (by decide +kernel) ⟨by decide, by decide⟩ ?_
  refine EV_iconst d_M_writeRest_96 ⟨by decide, by decide⟩ ?_
  refine EV_callV (as := [vI x3, vI 1, vI 93, vI 0]) (st := []) d_M_writeRest_97 k_1306 k_1308 kp_77 k_12 k_1309 shM_0 rfl pd_41 ⟨by decide, by decide, Nat.le_of_ble_eq_true rfl⟩ rfl (ct_M_later H (fun r_3 m_2 H => ?_))
  refine EV_istore (lv' := [(0, vR 0), (1, vI x1), (2, vI x2), (3, vI x3), (4, vI r_3)]) [1, 2, 3, 4, 0] d_M_writeRest_100 (by decide) rfl ?_
  refine EV_aload_n 0 d_M_writeRest_102 rfl rfl ?_
  refine EV_iload 4 d_M_writeRest_103 rfl ?_
  refine EV_iconst d_M_writeRest_105 ⟨by decide, by decide⟩ ?_
  refine EV_iload_n 1 d_M_writeRest_106 rfl rfl ?_
  refine EV_iload_n 2 d_M_writeRest_107 rfl rfl ?_
  refine EV_callV (as := [vI r_3, vI 0, vI x1, vI x2]) (st := []) d_M_writeRest_108 k_1306 k_1308 kp_77 k_12 k_1309 shM_0 rfl pd_41 ⟨by decide, by decide, Nat.le_of_ble_eq_true rfl⟩ rfl (ct_M_later H (fun r_5 m_4 H => ?_))
  exact EV_iret d_M_writeRest_111 rfl (nw_int _) (hK _ _ H)
theorem ct_M_writeRest_30 {l : Launch} {K : Int → Ob → Prop} {K' : Option AV → List AC → Prop} {x1 : Int} {x2 : Int} {x3 : Int} {m : Ob} (H : M_writeRest_30 x1 x2 x3 m K) (hK : ∀ (r : Int) (m' : Ob), K r m' → K' (some (vI r)) (shM m')) : EV l prog_13_method_51_code "PrunedSearchModel" 5 (some .int) 1 30 [(0, vR 0), (1, vI x1), (2, vI x2), (3, vI x3)] [] (shM m) K' := by
  refine EV_aload_n 0 d_M_writeRest_30 rfl rfl ?_
  refine EV_get (j := 24) d_M_writeRest_31 shM_0 rfl fI11 (by decide) k_978 rfl ?_
  refine EV_iload_n 1 d_M_writeRest_34 rfl rfl ?_
  obtain ⟨hi, H⟩ := H
  refine EV_iald d_M_writeRest_35 shM_14 hi ?_
  refine EV_iconst d_M_writeRest_36 ⟨by decide, by decide⟩ ?_
  refine EV_icmp_ne (tgt := 85) d_M_writeRest_37 (by decide) (fun hc => ?_) (fun hc => ?_)
  · have H := H.1 hc
    exact ct_M_writeRest_85 H hK
  · have H := H.2 hc
    refine EV_aload_n 0 d_M_writeRest_40 rfl rfl ?_
    refine EV_get (j := 23) d_M_writeRest_41 shM_0 rfl fI11 (by decide) k_977 rfl ?_
    refine EV_iload_n 1 d_M_writeRest_44 rfl rfl ?_
    obtain ⟨hi, H⟩ := H
    refine EV_lald d_M_writeRest_45 shM_13 hi ?_
    refine EV_lconst (v := 1) d_M_writeRest_46 rfl ?_
    refine EV_lcmp_ne (tgt := 85) d_M_writeRest_47 d_M_writeRest_48 (by decide) (fun hc => ?_) (fun hc => ?_)
    · have H := H.1 hc
      exact ct_M_writeRest_85 H hK
    · have H := H.2 hc
      refine EV_aload_n 0 d_M_writeRest_51 rfl rfl ?_
      refine EV_bipush d_M_writeRest_52 (by decide +kernel) ⟨by decide, by decide⟩ ?_
      refine EV_callV (as := [vI 44]) (st := []) d_M_writeRest_54 k_1310 k_1312 kp_78 k_12 k_1313 shM_0 rfl pd_40 ⟨by decide, by decide, Nat.le_of_ble_eq_true rfl⟩ rfl (ct_M_put H (fun m_6 H => ?_))
      refine EV_aload_n 0 d_M_writeRest_57 rfl rfl ?_
      refine EV_iload_n 3 d_M_writeRest_58 rfl rfl ?_
      refine EV_iconst d_M_writeRest_59 ⟨by decide, by decide⟩ ?_
      refine EV_aload_n 0 d_M_writeRest_60 rfl rfl ?_
      refine EV_iload_n 1 d_M_writeRest_61 rfl rfl ?_
      refine EV_iconst d_M_writeRest_62 ⟨by decide, by decide⟩ ?_
      obtain ⟨hr, H⟩ := H
      refine EV_iadd d_M_writeRest_63 hr ?_
      refine EV_callV (as := [vI (x1 + 1)]) (st := [vI 2, vI x3, vR 0]) d_M_writeRest_64 k_1274 k_1276 kp_70 k_12 k_1277 shM_0 rfl pd_24 ⟨by decide, by decide, Nat.le_of_ble_eq_true rfl⟩ rfl (ct_M_behind H (fun r_7 H => ?_))
      refine EV_iload_n 2 d_M_writeRest_67 rfl rfl ?_
      refine EV_callV (as := [vI x3, vI 2, vI r_7, vI x2]) (st := []) d_M_writeRest_68 k_1306 k_1308 kp_77 k_12 k_1309 shM_0 rfl pd_41 ⟨by decide, by decide, Nat.le_of_ble_eq_true rfl⟩ rfl (ct_M_later H (fun r_9 m_8 H => ?_))
      refine EV_istore (lv' := [(0, vR 0), (1, vI x1), (2, vI x2), (3, vI x3), (4, vI r_9)]) [1, 2, 3, 4, 0] d_M_writeRest_71 (by decide) rfl ?_
      refine EV_aload_n 0 d_M_writeRest_73 rfl rfl ?_
      refine EV_iload 4 d_M_writeRest_74 rfl ?_
      refine EV_iconst d_M_writeRest_76 ⟨by decide, by decide⟩ ?_
      refine EV_iload_n 1 d_M_writeRest_77 rfl rfl ?_
      refine EV_iconst d_M_writeRest_78 ⟨by decide, by decide⟩ ?_
      obtain ⟨hr, H⟩ := H
      refine EV_iadd d_M_writeRest_79 hr ?_
      refine EV_iload_n 2 d_M_writeRest_80 rfl rfl ?_
      refine EV_callV (as := [vI r_9, vI 0, vI (x1 + 1), vI x2]) (st := []) d_M_writeRest_81 k_1306 k_1308 kp_77 k_12 k_1309 shM_0 rfl pd_41 ⟨by decide, by decide, Nat.le_of_ble_eq_true rfl⟩ rfl (ct_M_later H (fun r_11 m_10 H => ?_))
      exact EV_iret d_M_writeRest_84 rfl (nw_int _) (hK _ _ H)
theorem ct_M_writeRest {l : Launch} {m : Ob} {x1 : Int} {x2 : Int} {x3 : Int} {K : Int → Ob → Prop} {K' : Option AV → List AC → Prop} (H : wp_M_writeRest x1 x2 x3 m K) (hK : ∀ (r : Int) (m' : Ob), K r m' → K' (some (vI r)) (shM m')) : MT l ⟨"PrunedSearchModel", "writeRest", "(III)I"⟩ prog_13_method_51_code 5 (some .int) 1 [vR 0, vI x1, vI x2, vI x3] (shM m) K' := by
  unfold wp_M_writeRest at H
  refine MT_of (lv := [(0, vR 0), (1, vI x1), (2, vI x2), (3, vI x3)]) rfl rfl (Nat.le_of_ble_eq_true rfl) rfl ?_
  refine EV_aload_n 0 d_M_writeRest_0 rfl rfl ?_
  refine EV_get (j := 24) d_M_writeRest_1 shM_0 rfl fI11 (by decide) k_978 rfl ?_
  refine EV_iload_n 1 d_M_writeRest_4 rfl rfl ?_
  obtain ⟨hi, H⟩ := H
  refine EV_iald d_M_writeRest_5 shM_14 hi ?_
  refine EV_if_ne (tgt := 30) d_M_writeRest_6 (by decide) (fun hc => ?_) (fun hc => ?_)
  · have H := H.1 hc
    exact ct_M_writeRest_30 H hK
  · have H := H.2 hc
    refine EV_aload_n 0 d_M_writeRest_9 rfl rfl ?_
    refine EV_get (j := 23) d_M_writeRest_10 shM_0 rfl fI11 (by decide) k_977 rfl ?_
    refine EV_iload_n 1 d_M_writeRest_13 rfl rfl ?_
    obtain ⟨hi, H⟩ := H
    refine EV_lald d_M_writeRest_14 shM_13 hi ?_
    refine EV_ldc2 (n := 2) d_M_writeRest_15 k_1174 (by decide +kernel) (by decide) ?_
    refine EV_lcmp_ne (tgt := 30) d_M_writeRest_18 d_M_writeRest_19 (by decide) (fun hc => ?_) (fun hc => ?_)
    · have H := H.1 hc
      exact ct_M_writeRest_30 H hK
    · have H := H.2 hc
      refine EV_aload_n 0 d_M_writeRest_22 rfl rfl ?_
      refine EV_bipush d_M_writeRest_23 (by decide +kernel) ⟨by decide, by decide⟩ ?_
      refine EV_callV (as := [vI 93]) (st := []) d_M_writeRest_25 k_1310 k_1312 kp_78 k_12 k_1313 shM_0 rfl pd_40 ⟨by decide, by decide, Nat.le_of_ble_eq_true rfl⟩ rfl (ct_M_put H (fun m_12 H => ?_))
      refine EV_iload_n 3 d_M_writeRest_28 rfl rfl ?_
      exact EV_iret d_M_writeRest_29 rfl (nw_int _) (hK _ _ H)
theorem ct_M_write_101 {l : Launch} {K : Ob → Prop} {K' : Option AV → List AC → Prop} {L14 : Int → Ob → Prop} {x2 : Int} {m : Ob} (hL14 : ∀ (x2 : Int) (m : Ob), L14 x2 m → EV l prog_13_method_52_code "PrunedSearchModel" 5 none 3 14 [(0, vR 0), (2, vI x2)] [] (shM m) K') (H : M_write_101 L14 x2 m K) (hK : ∀ (m' : Ob), K m' → K' none (shM m')) : EV l prog_13_method_52_code "PrunedSearchModel" 5 none 3 101 [(0, vR 0), (2, vI x2)] [] (shM m) K' := by
  refine EV_goto (tgt := 14) d_M_write_101 (by decide) ?_
  exact hL14 x2 m H
theorem ct_M_write_100 {l : Launch} {K : Ob → Prop} {K' : Option AV → List AC → Prop} {L14 : Int → Ob → Prop} {s0 : Int} {m : Ob} (hL14 : ∀ (x2 : Int) (m : Ob), L14 x2 m → EV l prog_13_method_52_code "PrunedSearchModel" 5 none 3 14 [(0, vR 0), (2, vI x2)] [] (shM m) K') (H : M_write_100 L14 s0 m K) (hK : ∀ (m' : Ob), K m' → K' none (shM m')) : EV l prog_13_method_52_code "PrunedSearchModel" 5 none 3 100 [(0, vR 0)] [vI s0] (shM m) K' := by
  refine EV_istore_n (lv' := [(0, vR 0), (2, vI s0)]) [1, 0] d_M_write_100 rfl (by decide) rfl ?_
  exact ct_M_write_101 hL14 H hK
theorem ct_M_write_14 {l : Launch} {K : Ob → Prop} {K' : Option AV → List AC → Prop} (hK : ∀ (m' : Ob), K m' → K' none (shM m')) : ∀ (n : Nat) (x2 : Int) (m : Ob), M_write_14 n x2 m K → EV l prog_13_method_52_code "PrunedSearchModel" 5 none 3 14 [(0, vR 0), (2, vI x2)] [] (shM m) K' := by
  intro n
  induction n with
  | zero =>
    intro x2 m H
    exact H.elim
  | succ n ih =>
    intro x2 m H
    refine EV_iload_n 1 d_M_write_14 rfl rfl ?_
    refine EV_if_le (tgt := 104) d_M_write_15 (by decide) (fun hc => ?_) (fun hc => ?_)
    · have H := H.1 hc
      exact EV_vret d_M_write_104 rfl (hK _ H)
    · have H := H.2 hc
      refine EV_iload_n 1 d_M_write_18 rfl rfl ?_
      refine EV_iconst d_M_write_19 ⟨by decide, by decide⟩ ?_
      obtain ⟨hr, H⟩ := H
      refine EV_isub d_M_write_20 hr ?_
      refine EV_istore_n (lv' := [(0, vR 0), (2, vI (x2 - 3))]) [1, 0] d_M_write_21 rfl (by decide) rfl ?_
      refine EV_aload_n 0 d_M_write_22 rfl rfl ?_
      refine EV_get (j := 50) d_M_write_23 shM_0 rfl fI11 (by decide) k_1004 rfl ?_
      refine EV_iload_n 1 d_M_write_26 rfl rfl ?_
      obtain ⟨hi, H⟩ := H
      refine EV_iald d_M_write_27 shM_29 hi ?_
      refine EV_istore_n (lv' := [(0, vR 0), (2, vI (x2 - 3)), (3, vI (m.2.1 24 (x2 - 3)))]) [1, 2, 0] d_M_write_28 rfl (by decide) rfl ?_
      refine EV_aload_n 0 d_M_write_29 rfl rfl ?_
      refine EV_get (j := 50) d_M_write_30 shM_0 rfl fI11 (by decide) k_1004 rfl ?_
      refine EV_iload_n 1 d_M_write_33 rfl rfl ?_
      refine EV_iconst d_M_write_34 ⟨by decide, by decide⟩ ?_
      obtain ⟨hr, H⟩ := H
      refine EV_iadd d_M_write_35 hr ?_
      obtain ⟨hi, H⟩ := H
      refine EV_iald d_M_write_36 shM_29 hi ?_
      refine EV_istore (lv' := [(0, vR 0), (2, vI (x2 - 3)), (3, vI (m.2.1 24 (x2 - 3))), (4, vI (m.2.1 24 ((x2 - 3) + 1)))]) [1, 2, 3, 0] d_M_write_37 (by decide) rfl ?_
      refine EV_iload_n 2 d_M_write_39 rfl rfl ?_
      refine EV_iconst d_M_write_40 ⟨by decide, by decide⟩ ?_
      refine EV_icmp_ne (tgt := 53) d_M_write_41 (by decide) (fun hc => ?_) (fun hc => ?_)
      · have H := H.1 hc
        refine EV_aload_n 0 d_M_write_53 rfl rfl ?_
        refine EV_iload 3 d_M_write_54 rfl ?_
        refine EV_aload_n 0 d_M_write_56 rfl rfl ?_
        refine EV_get (j := 50) d_M_write_57 shM_0 rfl fI11 (by decide) k_1004 rfl ?_
        refine EV_iload_n 1 d_M_write_60 rfl rfl ?_
        refine EV_iconst d_M_write_61 ⟨by decide, by decide⟩ ?_
        obtain ⟨hr, H⟩ := H
        refine EV_iadd d_M_write_62 hr ?_
        obtain ⟨hi, H⟩ := H
        refine EV_iald d_M_write_63 shM_29 hi ?_
        refine EV_callV (as := [vI (m.2.1 24 ((x2 - 3) + 1)), vI (m.2.1 24 ((x2 - 3) + 2))]) (st := []) d_M_write_64 k_1250 k_1252 kp_64 k_12 k_1253 shM_0 rfl pd_23 ⟨by decide, by decide, Nat.le_of_ble_eq_true rfl⟩ rfl (ct_M_follow H (fun m_3 H => ?_))
        refine EV_iload_n 2 d_M_write_67 rfl rfl ?_
        refine EV_if_ne (tgt := 87) d_M_write_68 (by decide) (fun hc => ?_) (fun hc => ?_)
        · have H := H.1 hc
          refine EV_aload_n 0 d_M_write_87 rfl rfl ?_
          refine EV_aload_n 0 d_M_write_88 rfl rfl ?_
          refine EV_get (j := 48) d_M_write_89 shM_0 rfl fI11 (by decide) k_1002 rfl ?_
          refine EV_aload_n 0 d_M_write_92 rfl rfl ?_
          refine EV_get (j := 49) d_M_write_93 shM_0 rfl fI11 (by decide) k_1003 rfl ?_
          refine EV_iload_n 1 d_M_write_96 rfl rfl ?_
          refine EV_callV (as := [vI (m_3.1 19), vI (m_3.1 20), vI (x2 - 3)]) (st := []) d_M_write_97 k_1326 k_1328 kp_82 k_12 k_1329 shM_0 rfl pd_44 ⟨by decide, by decide, Nat.le_of_ble_eq_true rfl⟩ rfl (ct_M_writeRest H (fun r_5 m_4 H => ?_))
          refine EV_lv (lv' := [(0, vR 0)]) [0] rfl ?_
          exact ct_M_write_100 (fun x2 m' H => ih x2 m' H) H hK
        · have H := H.2 hc
          refine EV_aload_n 0 d_M_write_71 rfl rfl ?_
          refine EV_aload_n 0 d_M_write_72 rfl rfl ?_
          refine EV_get (j := 48) d_M_write_73 shM_0 rfl fI11 (by decide) k_1002 rfl ?_
          refine EV_aload_n 0 d_M_write_76 rfl rfl ?_
          refine EV_get (j := 49) d_M_write_77 shM_0 rfl fI11 (by decide) k_1003 rfl ?_
          refine EV_iload_n 1 d_M_write_80 rfl rfl ?_
          refine EV_callV (as := [vI (m_3.1 19), vI (m_3.1 20), vI (x2 - 3)]) (st := []) d_M_write_81 k_1314 k_1316 kp_79 k_12 k_1317 shM_0 rfl pd_45 ⟨by decide, by decide, Nat.le_of_ble_eq_true rfl⟩ rfl (ct_M_writeTerm H (fun r_7 m_6 H => ?_))
          refine EV_goto (tgt := 100) d_M_write_84 (by decide) ?_
          refine EV_lv (lv' := [(0, vR 0)]) [0] rfl ?_
          exact ct_M_write_100 (fun x2 m' H => ih x2 m' H) H hK
      · have H := H.2 hc
        refine EV_aload_n 0 d_M_write_44 rfl rfl ?_
        refine EV_iload 3 d_M_write_45 rfl ?_
        refine EV_callV (as := [vI (m.2.1 24 ((x2 - 3) + 1))]) (st := []) d_M_write_47 k_1310 k_1312 kp_78 k_12 k_1313 shM_0 rfl pd_40 ⟨by decide, by decide, Nat.le_of_ble_eq_true rfl⟩ rfl (ct_M_put H (fun m_8 H => ?_))
        refine EV_goto (tgt := 101) d_M_write_50 (by decide) ?_
        refine EV_lv (lv' := [(0, vR 0), (2, vI (x2 - 3))]) [0, 1] rfl ?_
        exact ct_M_write_101 (fun x2 m' H => ih x2 m' H) H hK
theorem ct_M_write {l : Launch} {m : Ob} {x1 : Int} {K : Ob → Prop} {K' : Option AV → List AC → Prop} (H : wp_M_write x1 m K) (hK : ∀ (m' : Ob), K m' → K' none (shM m')) : MT l ⟨"PrunedSearchModel", "write", "(I)V"⟩ prog_13_method_52_code 5 none 3 [vR 0, vI x1] (shM m) K' := by
  unfold wp_M_write at H
  refine MT_of (lv := [(0, vR 0), (1, vI x1)]) rfl rfl (Nat.le_of_ble_eq_true rfl) rfl ?_
  refine EV_aload_n 0 d_M_write_0 rfl rfl ?_
  refine EV_iconst d_M_write_1 ⟨by decide, by decide⟩ ?_
  refine EV_put (j := 52) d_M_write_2 shM_0 rfl fI11 fO11 fN11 (by decide) k_1006 rfl rfl (fun ad => nf_int ad _) (Nat.le_of_ble_eq_true rfl) shM_0_52 ?_
  refine EV_aload_n 0 d_M_write_5 rfl rfl ?_
  refine EV_iconst d_M_write_6 ⟨by decide, by decide⟩ ?_
  refine EV_iconst d_M_write_7 ⟨by decide, by decide⟩ ?_
  refine EV_iload_n 1 d_M_write_8 rfl rfl ?_
  refine EV_iconst d_M_write_9 ⟨by decide, by decide⟩ ?_
  refine EV_callV (as := [vI 0, vI 0, vI x1, vI 0]) (st := []) d_M_write_10 k_1306 k_1308 kp_77 k_12 k_1309 shM_0 rfl pd_41 ⟨by decide, by decide, Nat.le_of_ble_eq_true rfl⟩ rfl (ct_M_later H (fun r_2 m_1 H => ?_))
  refine EV_istore_n (lv' := [(0, vR 0), (1, vI x1), (2, vI r_2)]) [1, 2, 0] d_M_write_13 rfl (by decide) rfl ?_
  refine EV_lv (lv' := [(0, vR 0), (2, vI r_2)]) [0, 2] rfl ?_
  obtain ⟨n, H⟩ := H
  exact ct_M_write_14 hK n r_2 m_1 H
theorem ct_M_answer_76 {l : Launch} {K : Int → Ob → Prop} {K' : Option AV → List AC → Prop} {x2 : Int} {m : Ob} (H : M_answer_76 x2 m K) (hK : ∀ (r : Int) (m' : Ob), K r m' → K' (some (vI r)) (shM m')) : EV l prog_13_method_53_code "PrunedSearchModel" 4 (some .char) 4 76 [(0, vR 0), (2, vI x2)] [] (shM m) K' := by
  refine EV_iload_n 1 d_M_answer_76 rfl rfl ?_
  refine EV_aload_n 0 d_M_answer_77 rfl rfl ?_
  refine EV_get (j := 52) d_M_answer_78 shM_0 rfl fI11 (by decide) k_1006 rfl ?_
  refine EV_icmp_ge (tgt := 94) d_M_answer_81 (by decide) (fun hc => ?_) (fun hc => ?_)
  · have H := H.1 hc
    refine EV_iconst d_M_answer_94 ⟨by decide, by decide⟩ ?_
    exact EV_iret d_M_answer_95 rfl (nw_char ⟨by decide, by decide⟩) (hK _ _ H)
  · have H := H.2 hc
    refine EV_aload_n 0 d_M_answer_84 rfl rfl ?_
    refine EV_get (j := 51) d_M_answer_85 shM_0 rfl fI11 (by decide) k_1005 rfl ?_
    refine EV_iload_n 1 d_M_answer_88 rfl rfl ?_
    obtain ⟨hi, H⟩ := H
    refine EV_iald d_M_answer_89 shM_30 hi ?_
    obtain ⟨h0, H⟩ := H
    refine EV_i2c d_M_answer_90 h0 ?_
    refine EV_goto (tgt := 95) d_M_answer_91 (by decide) ?_
    obtain ⟨hb, H⟩ := H
    exact EV_iret d_M_answer_95 rfl (nw_char hb) (hK _ _ H)
theorem ct_M_answer_55 {l : Launch} {K : Int → Ob → Prop} {K' : Option AV → List AC → Prop} (hK : ∀ (r : Int) (m' : Ob), K r m' → K' (some (vI r)) (shM m')) : ∀ (n : Nat) (x1 : Int) (x2 : Int) (x3 : Int) (m : Ob), M_answer_55 n x1 x2 x3 m K → EV l prog_13_method_53_code "PrunedSearchModel" 4 (some .char) 4 55 [(0, vR 0), (1, vI x1), (2, vI x2), (3, vI x3)] [] (shM m) K' := by
  intro n
  induction n with
  | zero =>
    intro x1 x2 x3 m H
    exact H.elim
  | succ n ih =>
    intro x1 x2 x3 m H
    refine EV_iload_n 3 d_M_answer_55 rfl rfl ?_
    refine EV_iload_n 1 d_M_answer_56 rfl rfl ?_
    refine EV_icmp_gt (tgt := 76) d_M_answer_57 (by decide) (fun hc => ?_) (fun hc => ?_)
    · have H := H.1 hc
      refine EV_lv (lv' := [(0, vR 0), (2, vI x2)]) [0, 2] rfl ?_
      exact ct_M_answer_76 H hK
    · have H := H.2 hc
      refine EV_aload_n 0 d_M_answer_60 rfl rfl ?_
      refine EV_aload_n 0 d_M_answer_61 rfl rfl ?_
      refine EV_get (j := 32) d_M_answer_62 shM_0 rfl fI11 (by decide) k_986 rfl ?_
      refine EV_iload_n 3 d_M_answer_65 rfl rfl ?_
      obtain ⟨hi, H⟩ := H
      refine EV_iald d_M_answer_66 shM_19 hi ?_
      refine EV_callV (as := [vI (m.2.1 14 x3)]) (st := []) d_M_answer_67 k_1302 k_1304 kp_76 k_12 k_1305 shM_0 rfl pd_46 ⟨by decide, by decide, Nat.le_of_ble_eq_true rfl⟩ rfl (ct_M_write H (fun m_1 H => ?_))
      obtain ⟨hr, H⟩ := H
      refine EV_iinc (lv' := [(0, vR 0), (1, vI x1), (2, vI x2), (3, vI (x3 + 1))]) 3 [1, 2, 3, 0] d_M_answer_70 rfl (by decide) hr rfl ?_
      refine EV_goto (tgt := 55) d_M_answer_73 (by decide) ?_
      exact ih x1 x2 (x3 + 1) m_1 H
theorem ct_M_answer_48 {l : Launch} {K : Int → Ob → Prop} {K' : Option AV → List AC → Prop} {x1 : Int} {x2 : Int} {m : Ob} (H : M_answer_48 x1 x2 m K) (hK : ∀ (r : Int) (m' : Ob), K r m' → K' (some (vI r)) (shM m')) : EV l prog_13_method_53_code "PrunedSearchModel" 4 (some .char) 4 48 [(0, vR 0), (1, vI x1), (2, vI x2)] [] (shM m) K' := by
  refine EV_aload_n 0 d_M_answer_48 rfl rfl ?_
  refine EV_iconst d_M_answer_49 ⟨by decide, by decide⟩ ?_
  refine EV_put (j := 54) d_M_answer_50 shM_0 rfl fI11 fO11 fN11 (by decide) k_1008 rfl rfl (fun ad => nf_int ad _) (Nat.le_of_ble_eq_true rfl) shM_0_54 ?_
  refine EV_iconst d_M_answer_53 ⟨by decide, by decide⟩ ?_
  refine EV_istore_n (lv' := [(0, vR 0), (1, vI x1), (2, vI x2), (3, vI 0)]) [1, 2, 3, 0] d_M_answer_54 rfl (by decide) rfl ?_
  obtain ⟨n, H⟩ := H
  exact ct_M_answer_55 hK n x1 x2 0 (sI m 22 0) H
theorem ct_M_answer_28 {l : Launch} {K : Int → Ob → Prop} {K' : Option AV → List AC → Prop} (hK : ∀ (r : Int) (m' : Ob), K r m' → K' (some (vI r)) (shM m')) : ∀ (n : Nat) (x1 : Int) (x2 : Int) (x3 : Int) (m : Ob), M_answer_28 n x1 x2 x3 m K → EV l prog_13_method_53_code "PrunedSearchModel" 4 (some .char) 4 28 [(0, vR 0), (1, vI x1), (2, vI x2), (3, vI x3)] [] (shM m) K' := by
  intro n
  induction n with
  | zero =>
    intro x1 x2 x3 m H
    exact H.elim
  | succ n ih =>
    intro x1 x2 x3 m H
    refine EV_iload_n 3 d_M_answer_28 rfl rfl ?_
    refine EV_sipush d_M_answer_29 (by decide +kernel) ⟨by decide, by decide⟩ ?_
    refine EV_icmp_ge (tgt := 48) d_M_answer_32 (by decide) (fun hc => ?_) (fun hc => ?_)
    · have H := H.1 hc
      refine EV_lv (lv' := [(0, vR 0), (1, vI x1), (2, vI x2)]) [0, 1, 2] rfl ?_
      exact ct_M_answer_48 H hK
    · have H := H.2 hc
      refine EV_aload_n 0 d_M_answer_35 rfl rfl ?_
      refine EV_get (j := 53) d_M_answer_36 shM_0 rfl fI11 (by decide) k_1007 rfl ?_
      refine EV_iload_n 3 d_M_answer_39 rfl rfl ?_
      refine EV_iconst d_M_answer_40 ⟨by decide, by decide⟩ ?_
      obtain ⟨hi, H⟩ := H
      refine EV_iast d_M_answer_41 shM_31 hi shM_31_s ?_
      obtain ⟨hr, H⟩ := H
      refine EV_iinc (lv' := [(0, vR 0), (1, vI x1), (2, vI x2), (3, vI (x3 + 1))]) 3 [1, 2, 3, 0] d_M_answer_42 rfl (by decide) hr rfl ?_
      refine EV_goto (tgt := 28) d_M_answer_45 (by decide) ?_
      exact ih x1 x2 (x3 + 1) (sA m 26 x3 (-1)) H
theorem ct_M_answer {l : Launch} {m : Ob} {x1 : Int} {x2 : Int} {K : Int → Ob → Prop} {K' : Option AV → List AC → Prop} (H : wp_M_answer x1 x2 m K) (hK : ∀ (r : Int) (m' : Ob), K r m' → K' (some (vI r)) (shM m')) : MT l ⟨"PrunedSearchModel", "answer", "(II)C"⟩ prog_13_method_53_code 4 (some .char) 4 [vR 0, vI x1, vI x2] (shM m) K' := by
  unfold wp_M_answer at H
  refine MT_of (lv := [(0, vR 0), (1, vI x1), (2, vI x2)]) rfl rfl (Nat.le_of_ble_eq_true rfl) rfl ?_
  refine EV_aload_n 0 d_M_answer_0 rfl rfl ?_
  refine EV_get (j := 33) d_M_answer_1 shM_0 rfl fI11 (by decide) k_987 rfl ?_
  refine EV_iconst d_M_answer_4 ⟨by decide, by decide⟩ ?_
  refine EV_icmp_ne (tgt := 24) d_M_answer_5 (by decide) (fun hc => ?_) (fun hc => ?_)
  · have H := H.1 hc
    refine EV_iconst d_M_answer_24 ⟨by decide, by decide⟩ ?_
    exact EV_iret d_M_answer_25 rfl (nw_char ⟨by decide, by decide⟩) (hK _ _ H)
  · have H := H.2 hc
    refine EV_iload_n 1 d_M_answer_8 rfl rfl ?_
    refine EV_if_lt (tgt := 24) d_M_answer_9 (by decide) (fun hc => ?_) (fun hc => ?_)
    · have H := H.1 hc
      refine EV_iconst d_M_answer_24 ⟨by decide, by decide⟩ ?_
      exact EV_iret d_M_answer_25 rfl (nw_char ⟨by decide, by decide⟩) (hK _ _ H)
    · have H := H.2 hc
      refine EV_iload_n 1 d_M_answer_12 rfl rfl ?_
      refine EV_aload_n 0 d_M_answer_13 rfl rfl ?_
      refine EV_get (j := 31) d_M_answer_14 shM_0 rfl fI11 (by decide) k_985 rfl ?_
      refine EV_icmp_ge (tgt := 24) d_M_answer_17 (by decide) (fun hc => ?_) (fun hc => ?_)
      · have H := H.1 hc
        refine EV_iconst d_M_answer_24 ⟨by decide, by decide⟩ ?_
        exact EV_iret d_M_answer_25 rfl (nw_char ⟨by decide, by decide⟩) (hK _ _ H)
      · have H := H.2 hc
        refine EV_iload_n 2 d_M_answer_20 rfl rfl ?_
        refine EV_if_ge (tgt := 26) d_M_answer_21 (by decide) (fun hc => ?_) (fun hc => ?_)
        · have H := H.1 hc
          refine EV_iconst d_M_answer_26 ⟨by decide, by decide⟩ ?_
          refine EV_istore_n (lv' := [(0, vR 0), (1, vI x1), (2, vI x2), (3, vI 0)]) [1, 2, 3, 0] d_M_answer_27 rfl (by decide) rfl ?_
          obtain ⟨n, H⟩ := H
          exact ct_M_answer_28 hK n x1 x2 0 m H
        · have H := H.2 hc
          refine EV_iconst d_M_answer_24 ⟨by decide, by decide⟩ ?_
          exact EV_iret d_M_answer_25 rfl (nw_char ⟨by decide, by decide⟩) (hK _ _ H)
theorem ct_M_clauses {l : Launch} {m : Ob} {K : Int → Prop} {K' : Option AV → List AC → Prop} (H : wp_M_clauses m K) (hK : ∀ (r : Int), K r → K' (some (vI r)) (shM m)) : MT l ⟨"PrunedSearchModel", "clauses", "()I"⟩ prog_13_method_54_code 1 (some .int) 0 [vR 0] (shM m) K' := by
  unfold wp_M_clauses at H
  refine MT_of (lv := [(0, vR 0)]) rfl rfl (Nat.le_of_ble_eq_true rfl) rfl ?_
  refine EV_aload_n 0 d_M_clauses_0 rfl rfl ?_
  refine EV_get (j := 25) d_M_clauses_1 shM_0 rfl fI11 (by decide) k_979 rfl ?_
  exact EV_iret d_M_clauses_4 rfl (nw_int _) (hK _ H)
theorem ct_M_tries {l : Launch} {m : Ob} {K : Int → Prop} {K' : Option AV → List AC → Prop} (H : wp_M_tries m K) (hK : ∀ (r : Int), K r → K' (some (vI r)) (shM m)) : MT l ⟨"PrunedSearchModel", "tries", "()I"⟩ prog_13_method_55_code 1 (some .int) 0 [vR 0] (shM m) K' := by
  unfold wp_M_tries at H
  refine MT_of (lv := [(0, vR 0)]) rfl rfl (Nat.le_of_ble_eq_true rfl) rfl ?_
  refine EV_aload_n 0 d_M_tries_0 rfl rfl ?_
  refine EV_get (j := 35) d_M_tries_1 shM_0 rfl fI11 (by decide) k_989 rfl ?_
  exact EV_iret d_M_tries_4 rfl (nw_int _) (hK _ H)
theorem ct_M_choices {l : Launch} {m : Ob} {K : Int → Prop} {K' : Option AV → List AC → Prop} (H : wp_M_choices m K) (hK : ∀ (r : Int), K r → K' (some (vI r)) (shM m)) : MT l ⟨"PrunedSearchModel", "choices", "()I"⟩ prog_13_method_56_code 1 (some .int) 0 [vR 0] (shM m) K' := by
  unfold wp_M_choices at H
  refine MT_of (lv := [(0, vR 0)]) rfl rfl (Nat.le_of_ble_eq_true rfl) rfl ?_
  refine EV_aload_n 0 d_M_choices_0 rfl rfl ?_
  refine EV_get (j := 39) d_M_choices_1 shM_0 rfl fI11 (by decide) k_993 rfl ?_
  exact EV_iret d_M_choices_4 rfl (nw_int _) (hK _ H)
theorem ct_M_length {l : Launch} {m : Ob} {K : Int → Prop} {K' : Option AV → List AC → Prop} (H : wp_M_length m K) (hK : ∀ (r : Int), K r → K' (some (vI r)) (shM m)) : MT l ⟨"PrunedSearchModel", "length", "()I"⟩ prog_13_method_57_code 1 (some .int) 0 [vR 0] (shM m) K' := by
  unfold wp_M_length at H
  refine MT_of (lv := [(0, vR 0)]) rfl rfl (Nat.le_of_ble_eq_true rfl) rfl ?_
  refine EV_aload_n 0 d_M_length_0 rfl rfl ?_
  refine EV_get (j := 36) d_M_length_1 shM_0 rfl fI11 (by decide) k_990 rfl ?_
  exact EV_iret d_M_length_4 rfl (nw_int _) (hK _ H)
theorem ct_M_goals_27 {l : Launch} {m : Ob} {K : Int → Prop} {K' : Option AV → List AC → Prop} (H : M_goals_27 m K) (hK : ∀ (r : Int), K r → K' (some (vI r)) (shM m)) : EV l prog_13_method_58_code "PrunedSearchModel" 1 (some .int) 0 27 [(0, vR 0)] [] (shM m) K' := by
  refine EV_aload_n 0 d_M_goals_27 rfl rfl ?_
  refine EV_get (j := 42) d_M_goals_28 shM_0 rfl fI11 (by decide) k_996 rfl ?_
  exact EV_iret d_M_goals_31 rfl (nw_int _) (hK _ H)
theorem ct_M_goals {l : Launch} {m : Ob} {K : Int → Prop} {K' : Option AV → List AC → Prop} (H : wp_M_goals m K) (hK : ∀ (r : Int), K r → K' (some (vI r)) (shM m)) : MT l ⟨"PrunedSearchModel", "goals", "()I"⟩ prog_13_method_58_code 1 (some .int) 0 [vR 0] (shM m) K' := by
  unfold wp_M_goals at H
  refine MT_of (lv := [(0, vR 0)]) rfl rfl (Nat.le_of_ble_eq_true rfl) rfl ?_
  refine EV_aload_n 0 d_M_goals_0 rfl rfl ?_
  refine EV_get (j := 33) d_M_goals_1 shM_0 rfl fI11 (by decide) k_987 rfl ?_
  refine EV_iconst d_M_goals_4 ⟨by decide, by decide⟩ ?_
  refine EV_icmp_eq (tgt := 23) d_M_goals_5 (by decide) (fun hc => ?_) (fun hc => ?_)
  · have H := H.1 hc
    refine EV_iconst d_M_goals_23 ⟨by decide, by decide⟩ ?_
    refine EV_goto (tgt := 31) d_M_goals_24 (by decide) ?_
    exact EV_iret d_M_goals_31 rfl (nw_int _) (hK _ H)
  · have H := H.2 hc
    refine EV_aload_n 0 d_M_goals_8 rfl rfl ?_
    refine EV_get (j := 33) d_M_goals_9 shM_0 rfl fI11 (by decide) k_987 rfl ?_
    refine EV_iconst d_M_goals_12 ⟨by decide, by decide⟩ ?_
    refine EV_icmp_ne (tgt := 27) d_M_goals_13 (by decide) (fun hc => ?_) (fun hc => ?_)
    · have H := H.1 hc
      exact ct_M_goals_27 H hK
    · have H := H.2 hc
      refine EV_aload_n 0 d_M_goals_16 rfl rfl ?_
      refine EV_get (j := 34) d_M_goals_17 shM_0 rfl fI11 (by decide) k_988 rfl ?_
      refine EV_if_ne (tgt := 27) d_M_goals_20 (by decide) (fun hc => ?_) (fun hc => ?_)
      · have H := H.1 hc
        exact ct_M_goals_27 H hK
      · have H := H.2 hc
        refine EV_iconst d_M_goals_23 ⟨by decide, by decide⟩ ?_
        refine EV_goto (tgt := 31) d_M_goals_24 (by decide) ?_
        exact EV_iret d_M_goals_31 rfl (nw_int _) (hK _ H)
theorem ct_M_forget {l : Launch} {m : Ob} {K : Ob → Prop} {K' : Option AV → List AC → Prop} (H : wp_M_forget m K) (hK : ∀ (m' : Ob), K m' → K' none (shM m')) : MT l ⟨"PrunedSearchModel", "forget", "()V"⟩ prog_13_method_59_code 1 none 1 [vR 0] (shM m) K' := by
  unfold wp_M_forget at H
  refine MT_of (lv := [(0, vR 0)]) rfl rfl (Nat.le_of_ble_eq_true rfl) rfl ?_
  refine EV_aload_n 0 d_M_forget_0 rfl rfl ?_
  refine EV_iconst d_M_forget_1 ⟨by decide, by decide⟩ ?_
  refine EV_put (j := 25) d_M_forget_2 shM_0 rfl fI11 fO11 fN11 (by decide) k_979 rfl rfl (fun ad => nf_int ad _) (Nat.le_of_ble_eq_true rfl) shM_0_25 ?_
  refine EV_aload_n 0 d_M_forget_5 rfl rfl ?_
  refine EV_iconst d_M_forget_6 ⟨by decide, by decide⟩ ?_
  refine EV_put (j := 29) d_M_forget_7 shM_0 rfl fI11 fO11 fN11 (by decide) k_983 rfl rfl (fun ad => nf_int ad _) (Nat.le_of_ble_eq_true rfl) shM_0_29 ?_
  refine EV_aload_n 0 d_M_forget_10 rfl rfl ?_
  refine EV_callV (as := []) (st := []) d_M_forget_11 k_1188 k_1190 kp_51 k_12 k_1191 shM_0 rfl pd_18 ⟨by decide, by decide, Nat.le_of_ble_eq_true rfl⟩ rfl (ct_M_noSearch H (fun m_1 H => ?_))
  exact EV_vret d_M_forget_14 rfl (hK _ H)
end
