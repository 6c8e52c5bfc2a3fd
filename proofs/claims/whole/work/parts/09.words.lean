/-! printed by wip/gen/drive.py -/
theorem t_in {w : Cond} (h : w ∈ tables_1) : w ∈ lw_tbl := List.mem_append_right _ h
theorem t_in1 {w : Cond} (h : w ∈ tables_1_1) : w ∈ tables_1 := List.mem_append_left _ (h)
theorem t_in2 {w : Cond} (h : w ∈ tables_1_2) : w ∈ tables_1 := List.mem_append_right _ (List.mem_append_left _ (h))
theorem t_in3 {w : Cond} (h : w ∈ tables_1_3) : w ∈ tables_1 := List.mem_append_right _ (List.mem_append_right _ (List.mem_append_left _ (h)))
theorem t_in4 {w : Cond} (h : w ∈ tables_1_4) : w ∈ tables_1 := List.mem_append_right _ (List.mem_append_right _ (List.mem_append_right _ (List.mem_append_left _ (h))))
theorem t_in5 {w : Cond} (h : w ∈ tables_1_5) : w ∈ tables_1 := List.mem_append_right _ (List.mem_append_right _ (List.mem_append_right _ (List.mem_append_right _ (List.mem_append_left _ (h)))))
theorem t_in6 {w : Cond} (h : w ∈ tables_1_6) : w ∈ tables_1 := List.mem_append_right _ (List.mem_append_right _ (List.mem_append_right _ (List.mem_append_right _ (List.mem_append_right _ (h)))))
set_option maxRecDepth 20000 in
theorem k_12 : (Jvm.Cond.initialized "PrunedSearchModel") ∈ Wt := List.mem_filter.mpr ⟨t_in (t_in1 (List.mem_of_getElem? (i := 12) rfl)), rfl⟩
set_option maxRecDepth 20000 in
theorem k_954 : (Jvm.Cond.fieldLink "PrunedSearchModel" (7 : Nat) "PrunedSearchModel" "text" "[I") ∈ Wt := List.mem_filter.mpr ⟨t_in (t_in4 (List.mem_of_getElem? (i := 234) rfl)), rfl⟩
set_option maxRecDepth 20000 in
theorem k_955 : (Jvm.Cond.fieldLink "PrunedSearchModel" (116 : Nat) "PrunedSearchModel" "typed" "I") ∈ Wt := List.mem_filter.mpr ⟨t_in (t_in4 (List.mem_of_getElem? (i := 235) rfl)), rfl⟩
set_option maxRecDepth 20000 in
theorem k_956 : (Jvm.Cond.fieldLink "PrunedSearchModel" (130 : Nat) "PrunedSearchModel" "token" "I") ∈ Wt := List.mem_filter.mpr ⟨t_in (t_in4 (List.mem_of_getElem? (i := 236) rfl)), rfl⟩
set_option maxRecDepth 20000 in
theorem k_957 : (Jvm.Cond.fieldLink "PrunedSearchModel" (123 : Nat) "PrunedSearchModel" "place" "I") ∈ Wt := List.mem_filter.mpr ⟨t_in (t_in4 (List.mem_of_getElem? (i := 237) rfl)), rfl⟩
set_option maxRecDepth 20000 in
theorem k_958 : (Jvm.Cond.fieldLink "PrunedSearchModel" (120 : Nat) "PrunedSearchModel" "after" "I") ∈ Wt := List.mem_filter.mpr ⟨t_in (t_in4 (List.mem_of_getElem? (i := 238) rfl)), rfl⟩
set_option maxRecDepth 20000 in
theorem k_959 : (Jvm.Cond.fieldLink "PrunedSearchModel" (133 : Nat) "PrunedSearchModel" "word" "J") ∈ Wt := List.mem_filter.mpr ⟨t_in (t_in4 (List.mem_of_getElem? (i := 239) rfl)), rfl⟩
set_option maxRecDepth 20000 in
theorem k_960 : (Jvm.Cond.fieldLink "PrunedSearchModel" (13 : Nat) "PrunedSearchModel" "readCode" "[J") ∈ Wt := List.mem_filter.mpr ⟨t_in (t_in5 (List.mem_of_getElem? (i := 0) rfl)), rfl⟩
set_option maxRecDepth 20000 in
theorem k_961 : (Jvm.Cond.fieldLink "PrunedSearchModel" (17 : Nat) "PrunedSearchModel" "readArity" "[I") ∈ Wt := List.mem_filter.mpr ⟨t_in (t_in5 (List.mem_of_getElem? (i := 1) rfl)), rfl⟩
set_option maxRecDepth 20000 in
theorem k_962 : (Jvm.Cond.fieldLink "PrunedSearchModel" (137 : Nat) "PrunedSearchModel" "symbols" "I") ∈ Wt := List.mem_filter.mpr ⟨t_in (t_in5 (List.mem_of_getElem? (i := 2) rfl)), rfl⟩
set_option maxRecDepth 20000 in
theorem k_963 : (Jvm.Cond.fieldLink "PrunedSearchModel" (149 : Nat) "PrunedSearchModel" "pieces" "I") ∈ Wt := List.mem_filter.mpr ⟨t_in (t_in5 (List.mem_of_getElem? (i := 3) rfl)), rfl⟩
set_option maxRecDepth 20000 in
theorem k_964 : (Jvm.Cond.fieldLink "PrunedSearchModel" (20 : Nat) "PrunedSearchModel" "pieceAt" "[I") ∈ Wt := List.mem_filter.mpr ⟨t_in (t_in5 (List.mem_of_getElem? (i := 4) rfl)), rfl⟩
set_option maxRecDepth 20000 in
theorem k_965 : (Jvm.Cond.fieldLink "PrunedSearchModel" (23 : Nat) "PrunedSearchModel" "pieceGoals" "[I") ∈ Wt := List.mem_filter.mpr ⟨t_in (t_in5 (List.mem_of_getElem? (i := 5) rfl)), rfl⟩
set_option maxRecDepth 20000 in
theorem k_966 : (Jvm.Cond.fieldLink "PrunedSearchModel" (26 : Nat) "PrunedSearchModel" "pieceVars" "[I") ∈ Wt := List.mem_filter.mpr ⟨t_in (t_in5 (List.mem_of_getElem? (i := 6) rfl)), rfl⟩
set_option maxRecDepth 20000 in
theorem k_967 : (Jvm.Cond.fieldLink "PrunedSearchModel" (152 : Nat) "PrunedSearchModel" "goalsRead" "I") ∈ Wt := List.mem_filter.mpr ⟨t_in (t_in5 (List.mem_of_getElem? (i := 7) rfl)), rfl⟩
set_option maxRecDepth 20000 in
theorem k_968 : (Jvm.Cond.fieldLink "PrunedSearchModel" (29 : Nat) "PrunedSearchModel" "readGoal" "[I") ∈ Wt := List.mem_filter.mpr ⟨t_in (t_in5 (List.mem_of_getElem? (i := 8) rfl)), rfl⟩
set_option maxRecDepth 20000 in
theorem k_969 : (Jvm.Cond.fieldLink "PrunedSearchModel" (32 : Nat) "PrunedSearchModel" "varWord" "[J") ∈ Wt := List.mem_filter.mpr ⟨t_in (t_in5 (List.mem_of_getElem? (i := 9) rfl)), rfl⟩
set_option maxRecDepth 20000 in
theorem k_970 : (Jvm.Cond.fieldLink "PrunedSearchModel" (35 : Nat) "PrunedSearchModel" "varAt" "[I") ∈ Wt := List.mem_filter.mpr ⟨t_in (t_in5 (List.mem_of_getElem? (i := 10) rfl)), rfl⟩
set_option maxRecDepth 20000 in
theorem k_971 : (Jvm.Cond.fieldLink "PrunedSearchModel" (140 : Nat) "PrunedSearchModel" "vars" "I") ∈ Wt := List.mem_filter.mpr ⟨t_in (t_in5 (List.mem_of_getElem? (i := 11) rfl)), rfl⟩
set_option maxRecDepth 20000 in
theorem k_972 : (Jvm.Cond.fieldLink "PrunedSearchModel" (155 : Nat) "PrunedSearchModel" "open" "I") ∈ Wt := List.mem_filter.mpr ⟨t_in (t_in5 (List.mem_of_getElem? (i := 12) rfl)), rfl⟩
set_option maxRecDepth 20000 in
theorem k_973 : (Jvm.Cond.fieldLink "PrunedSearchModel" (38 : Nat) "PrunedSearchModel" "kind" "[I") ∈ Wt := List.mem_filter.mpr ⟨t_in (t_in5 (List.mem_of_getElem? (i := 13) rfl)), rfl⟩
set_option maxRecDepth 20000 in
theorem k_974 : (Jvm.Cond.fieldLink "PrunedSearchModel" (41 : Nat) "PrunedSearchModel" "owner" "[I") ∈ Wt := List.mem_filter.mpr ⟨t_in (t_in5 (List.mem_of_getElem? (i := 14) rfl)), rfl⟩
set_option maxRecDepth 20000 in
theorem k_975 : (Jvm.Cond.fieldLink "PrunedSearchModel" (44 : Nat) "PrunedSearchModel" "count" "[I") ∈ Wt := List.mem_filter.mpr ⟨t_in (t_in5 (List.mem_of_getElem? (i := 15) rfl)), rfl⟩
set_option maxRecDepth 20000 in
theorem k_976 : (Jvm.Cond.fieldLink "PrunedSearchModel" (158 : Nat) "PrunedSearchModel" "fresh" "Z") ∈ Wt := List.mem_filter.mpr ⟨t_in (t_in5 (List.mem_of_getElem? (i := 16) rfl)), rfl⟩
set_option maxRecDepth 20000 in
theorem k_977 : (Jvm.Cond.fieldLink "PrunedSearchModel" (47 : Nat) "PrunedSearchModel" "code" "[J") ∈ Wt := List.mem_filter.mpr ⟨t_in (t_in5 (List.mem_of_getElem? (i := 17) rfl)), rfl⟩
set_option maxRecDepth 20000 in
theorem k_978 : (Jvm.Cond.fieldLink "PrunedSearchModel" (50 : Nat) "PrunedSearchModel" "arity" "[I") ∈ Wt := List.mem_filter.mpr ⟨t_in (t_in5 (List.mem_of_getElem? (i := 18) rfl)), rfl⟩
set_option maxRecDepth 20000 in
theorem k_979 : (Jvm.Cond.fieldLink "PrunedSearchModel" (221 : Nat) "PrunedSearchModel" "known" "I") ∈ Wt := List.mem_filter.mpr ⟨t_in (t_in5 (List.mem_of_getElem? (i := 19) rfl)), rfl⟩
set_option maxRecDepth 20000 in
theorem k_980 : (Jvm.Cond.fieldLink "PrunedSearchModel" (53 : Nat) "PrunedSearchModel" "size" "[I") ∈ Wt := List.mem_filter.mpr ⟨t_in (t_in5 (List.mem_of_getElem? (i := 20) rfl)), rfl⟩
set_option maxRecDepth 20000 in
theorem k_981 : (Jvm.Cond.fieldLink "PrunedSearchModel" (56 : Nat) "PrunedSearchModel" "goalCount" "[I") ∈ Wt := List.mem_filter.mpr ⟨t_in (t_in5 (List.mem_of_getElem? (i := 21) rfl)), rfl⟩
set_option maxRecDepth 20000 in
theorem k_982 : (Jvm.Cond.fieldLink "PrunedSearchModel" (59 : Nat) "PrunedSearchModel" "goalAt" "[I") ∈ Wt := List.mem_filter.mpr ⟨t_in (t_in5 (List.mem_of_getElem? (i := 22) rfl)), rfl⟩
set_option maxRecDepth 20000 in
theorem k_983 : (Jvm.Cond.fieldLink "PrunedSearchModel" (196 : Nat) "PrunedSearchModel" "names" "I") ∈ Wt := List.mem_filter.mpr ⟨t_in (t_in5 (List.mem_of_getElem? (i := 23) rfl)), rfl⟩
set_option maxRecDepth 20000 in
theorem k_984 : (Jvm.Cond.fieldLink "PrunedSearchModel" (62 : Nat) "PrunedSearchModel" "nameOf" "[J") ∈ Wt := List.mem_filter.mpr ⟨t_in (t_in5 (List.mem_of_getElem? (i := 24) rfl)), rfl⟩
set_option maxRecDepth 20000 in
theorem k_985 : (Jvm.Cond.fieldLink "PrunedSearchModel" (235 : Nat) "PrunedSearchModel" "asked" "I") ∈ Wt := List.mem_filter.mpr ⟨t_in (t_in5 (List.mem_of_getElem? (i := 25) rfl)), rfl⟩
set_option maxRecDepth 20000 in
theorem k_986 : (Jvm.Cond.fieldLink "PrunedSearchModel" (65 : Nat) "PrunedSearchModel" "askedAt" "[I") ∈ Wt := List.mem_filter.mpr ⟨t_in (t_in5 (List.mem_of_getElem? (i := 26) rfl)), rfl⟩
set_option maxRecDepth 20000 in
theorem k_987 : (Jvm.Cond.fieldLink "PrunedSearchModel" (199 : Nat) "PrunedSearchModel" "status" "I") ∈ Wt := List.mem_filter.mpr ⟨t_in (t_in5 (List.mem_of_getElem? (i := 27) rfl)), rfl⟩
set_option maxRecDepth 20000 in
theorem k_988 : (Jvm.Cond.fieldLink "PrunedSearchModel" (288 : Nat) "PrunedSearchModel" "ending" "I") ∈ Wt := List.mem_filter.mpr ⟨t_in (t_in5 (List.mem_of_getElem? (i := 28) rfl)), rfl⟩
set_option maxRecDepth 20000 in
theorem k_989 : (Jvm.Cond.fieldLink "PrunedSearchModel" (202 : Nat) "PrunedSearchModel" "tried" "I") ∈ Wt := List.mem_filter.mpr ⟨t_in (t_in5 (List.mem_of_getElem? (i := 29) rfl)), rfl⟩
set_option maxRecDepth 20000 in
theorem k_990 : (Jvm.Cond.fieldLink "PrunedSearchModel" (205 : Nat) "PrunedSearchModel" "depth" "I") ∈ Wt := List.mem_filter.mpr ⟨t_in (t_in5 (List.mem_of_getElem? (i := 30) rfl)), rfl⟩
set_option maxRecDepth 20000 in
theorem k_991 : (Jvm.Cond.fieldLink "PrunedSearchModel" (68 : Nat) "PrunedSearchModel" "pathClause" "[I") ∈ Wt := List.mem_filter.mpr ⟨t_in (t_in5 (List.mem_of_getElem? (i := 31) rfl)), rfl⟩
set_option maxRecDepth 20000 in
theorem k_992 : (Jvm.Cond.fieldLink "PrunedSearchModel" (71 : Nat) "PrunedSearchModel" "pathCut" "[I") ∈ Wt := List.mem_filter.mpr ⟨t_in (t_in5 (List.mem_of_getElem? (i := 32) rfl)), rfl⟩
set_option maxRecDepth 20000 in
theorem k_993 : (Jvm.Cond.fieldLink "PrunedSearchModel" (208 : Nat) "PrunedSearchModel" "picks" "I") ∈ Wt := List.mem_filter.mpr ⟨t_in (t_in5 (List.mem_of_getElem? (i := 33) rfl)), rfl⟩
set_option maxRecDepth 20000 in
theorem k_994 : (Jvm.Cond.fieldLink "PrunedSearchModel" (74 : Nat) "PrunedSearchModel" "choiceDepth" "[I") ∈ Wt := List.mem_filter.mpr ⟨t_in (t_in5 (List.mem_of_getElem? (i := 34) rfl)), rfl⟩
set_option maxRecDepth 20000 in
theorem k_995 : (Jvm.Cond.fieldLink "PrunedSearchModel" (77 : Nat) "PrunedSearchModel" "choiceLast" "[I") ∈ Wt := List.mem_filter.mpr ⟨t_in (t_in5 (List.mem_of_getElem? (i := 35) rfl)), rfl⟩
set_option maxRecDepth 20000 in
theorem k_996 : (Jvm.Cond.fieldLink "PrunedSearchModel" (211 : Nat) "PrunedSearchModel" "left" "I") ∈ Wt := List.mem_filter.mpr ⟨t_in (t_in5 (List.mem_of_getElem? (i := 36) rfl)), rfl⟩
set_option maxRecDepth 20000 in
theorem k_997 : (Jvm.Cond.fieldLink "PrunedSearchModel" (80 : Nat) "PrunedSearchModel" "goal" "[I") ∈ Wt := List.mem_filter.mpr ⟨t_in (t_in5 (List.mem_of_getElem? (i := 37) rfl)), rfl⟩
set_option maxRecDepth 20000 in
theorem k_998 : (Jvm.Cond.fieldLink "PrunedSearchModel" (83 : Nat) "PrunedSearchModel" "goalFrame" "[I") ∈ Wt := List.mem_filter.mpr ⟨t_in (t_in5 (List.mem_of_getElem? (i := 38) rfl)), rfl⟩
set_option maxRecDepth 20000 in
theorem k_999 : (Jvm.Cond.fieldLink "PrunedSearchModel" (86 : Nat) "PrunedSearchModel" "goalCut" "[I") ∈ Wt := List.mem_filter.mpr ⟨t_in (t_in5 (List.mem_of_getElem? (i := 39) rfl)), rfl⟩
set_option maxRecDepth 20000 in
theorem k_1000 : (Jvm.Cond.fieldLink "PrunedSearchModel" (89 : Nat) "PrunedSearchModel" "standsAt" "[I") ∈ Wt := List.mem_filter.mpr ⟨t_in (t_in5 (List.mem_of_getElem? (i := 40) rfl)), rfl⟩
set_option maxRecDepth 20000 in
theorem k_1001 : (Jvm.Cond.fieldLink "PrunedSearchModel" (92 : Nat) "PrunedSearchModel" "standsIn" "[I") ∈ Wt := List.mem_filter.mpr ⟨t_in (t_in5 (List.mem_of_getElem? (i := 41) rfl)), rfl⟩
set_option maxRecDepth 20000 in
theorem k_1002 : (Jvm.Cond.fieldLink "PrunedSearchModel" (241 : Nat) "PrunedSearchModel" "seenAt" "I") ∈ Wt := List.mem_filter.mpr ⟨t_in (t_in5 (List.mem_of_getElem? (i := 42) rfl)), rfl⟩
set_option maxRecDepth 20000 in
theorem k_1003 : (Jvm.Cond.fieldLink "PrunedSearchModel" (244 : Nat) "PrunedSearchModel" "seenIn" "I") ∈ Wt := List.mem_filter.mpr ⟨t_in (t_in5 (List.mem_of_getElem? (i := 43) rfl)), rfl⟩
set_option maxRecDepth 20000 in
theorem k_1004 : (Jvm.Cond.fieldLink "PrunedSearchModel" (95 : Nat) "PrunedSearchModel" "stack" "[I") ∈ Wt := List.mem_filter.mpr ⟨t_in (t_in5 (List.mem_of_getElem? (i := 44) rfl)), rfl⟩
set_option maxRecDepth 20000 in
theorem k_1005 : (Jvm.Cond.fieldLink "PrunedSearchModel" (98 : Nat) "PrunedSearchModel" "out" "[I") ∈ Wt := List.mem_filter.mpr ⟨t_in (t_in5 (List.mem_of_getElem? (i := 45) rfl)), rfl⟩
set_option maxRecDepth 20000 in
theorem k_1006 : (Jvm.Cond.fieldLink "PrunedSearchModel" (317 : Nat) "PrunedSearchModel" "written" "I") ∈ Wt := List.mem_filter.mpr ⟨t_in (t_in5 (List.mem_of_getElem? (i := 46) rfl)), rfl⟩
set_option maxRecDepth 20000 in
theorem k_1007 : (Jvm.Cond.fieldLink "PrunedSearchModel" (101 : Nat) "PrunedSearchModel" "shown" "[I") ∈ Wt := List.mem_filter.mpr ⟨t_in (t_in5 (List.mem_of_getElem? (i := 47) rfl)), rfl⟩
set_option maxRecDepth 20000 in
theorem k_1008 : (Jvm.Cond.fieldLink "PrunedSearchModel" (323 : Nat) "PrunedSearchModel" "numbered" "I") ∈ Wt := List.mem_filter.mpr ⟨t_in (t_in5 (List.mem_of_getElem? (i := 48) rfl)), rfl⟩
set_option maxRecDepth 20000 in
theorem k_1124 : (Jvm.Cond.constantLong "PrunedSearchModel" (108 : Nat) (255 : Int64)) ∈ Wt := List.mem_filter.mpr ⟨t_in (t_in5 (List.mem_of_getElem? (i := 164) rfl)), rfl⟩
set_option maxRecDepth 20000 in
theorem k_1125 : (Jvm.Cond.methodLink "PrunedSearchModel" (110 : Nat) ({ cls := "PrunedSearchModel", name := "isWord", desc := "(I)Z" } : Jvm.MethodName)) ∈ Wt := List.mem_filter.mpr ⟨t_in (t_in5 (List.mem_of_getElem? (i := 165) rfl)), rfl⟩
set_option maxRecDepth 20000 in
theorem k_1126 : (Jvm.Cond.static ({ cls := "PrunedSearchModel", name := "isWord", desc := "(I)Z" } : Jvm.MethodName)) ∈ Wt := List.mem_filter.mpr ⟨t_in (t_in5 (List.mem_of_getElem? (i := 166) rfl)), rfl⟩
set_option maxRecDepth 20000 in
theorem k_1127 : (Jvm.Cond.code ({ cls := "PrunedSearchModel", name := "isWord", desc := "(I)Z" } : Jvm.MethodName) prog_13_method_3_code (1 : Nat) (Option.some Jvm.ClassFile.FieldType.boolean)) ∈ Wt := List.mem_filter.mpr ⟨t_in (t_in5 (List.mem_of_getElem? (i := 167) rfl)), rfl⟩
set_option maxRecDepth 20000 in
theorem k_1128 : (Jvm.Cond.methodLink "PrunedSearchModel" (104 : Nat) ({ cls := "PrunedSearchModel", name := "isSmall", desc := "(I)Z" } : Jvm.MethodName)) ∈ Wt := List.mem_filter.mpr ⟨t_in (t_in5 (List.mem_of_getElem? (i := 168) rfl)), rfl⟩
set_option maxRecDepth 20000 in
theorem k_1129 : (Jvm.Cond.static ({ cls := "PrunedSearchModel", name := "isSmall", desc := "(I)Z" } : Jvm.MethodName)) ∈ Wt := List.mem_filter.mpr ⟨t_in (t_in5 (List.mem_of_getElem? (i := 169) rfl)), rfl⟩
set_option maxRecDepth 20000 in
theorem k_1130 : (Jvm.Cond.code ({ cls := "PrunedSearchModel", name := "isSmall", desc := "(I)Z" } : Jvm.MethodName) prog_13_method_2_code (1 : Nat) (Option.some Jvm.ClassFile.FieldType.boolean)) ∈ Wt := List.mem_filter.mpr ⟨t_in (t_in5 (List.mem_of_getElem? (i := 170) rfl)), rfl⟩
set_option maxRecDepth 20000 in
theorem k_1131 : (Jvm.Cond.methodLink "PrunedSearchModel" (113 : Nat) ({ cls := "PrunedSearchModel", name := "isSign", desc := "(I)Z" } : Jvm.MethodName)) ∈ Wt := List.mem_filter.mpr ⟨t_in (t_in5 (List.mem_of_getElem? (i := 171) rfl)), rfl⟩
set_option maxRecDepth 20000 in
theorem k_1132 : (Jvm.Cond.static ({ cls := "PrunedSearchModel", name := "isSign", desc := "(I)Z" } : Jvm.MethodName)) ∈ Wt := List.mem_filter.mpr ⟨t_in (t_in5 (List.mem_of_getElem? (i := 172) rfl)), rfl⟩
set_option maxRecDepth 20000 in
theorem k_1133 : (Jvm.Cond.code ({ cls := "PrunedSearchModel", name := "isSign", desc := "(I)Z" } : Jvm.MethodName) prog_13_method_4_code (1 : Nat) (Option.some Jvm.ClassFile.FieldType.boolean)) ∈ Wt := List.mem_filter.mpr ⟨t_in (t_in5 (List.mem_of_getElem? (i := 173) rfl)), rfl⟩
set_option maxRecDepth 20000 in
theorem k_1138 : (Jvm.Cond.methodLink "PrunedSearchModel" (214 : Nat) ({ cls := "PrunedSearchModel", name := "read", desc := "(Z)I" } : Jvm.MethodName)) ∈ Wt := List.mem_filter.mpr ⟨t_in (t_in5 (List.mem_of_getElem? (i := 178) rfl)), rfl⟩
set_option maxRecDepth 20000 in
theorem k_1140 : (Jvm.Cond.instanceMethod ({ cls := "PrunedSearchModel", name := "read", desc := "(Z)I" } : Jvm.MethodName)) ∈ Wt := List.mem_filter.mpr ⟨t_in (t_in5 (List.mem_of_getElem? (i := 180) rfl)), rfl⟩
set_option maxRecDepth 20000 in
theorem k_1141 : (Jvm.Cond.code ({ cls := "PrunedSearchModel", name := "read", desc := "(Z)I" } : Jvm.MethodName) prog_13_method_17_code (6 : Nat) (Option.some Jvm.ClassFile.FieldType.int)) ∈ Wt := List.mem_filter.mpr ⟨t_in (t_in5 (List.mem_of_getElem? (i := 181) rfl)), rfl⟩
set_option maxRecDepth 20000 in
theorem k_1142 : (Jvm.Cond.methodLink "PrunedSearchModel" (170 : Nat) ({ cls := "PrunedSearchModel", name := "beginPiece", desc := "()V" } : Jvm.MethodName)) ∈ Wt := List.mem_filter.mpr ⟨t_in (t_in5 (List.mem_of_getElem? (i := 182) rfl)), rfl⟩
set_option maxRecDepth 20000 in
theorem k_1144 : (Jvm.Cond.instanceMethod ({ cls := "PrunedSearchModel", name := "beginPiece", desc := "()V" } : Jvm.MethodName)) ∈ Wt := List.mem_filter.mpr ⟨t_in (t_in5 (List.mem_of_getElem? (i := 184) rfl)), rfl⟩
set_option maxRecDepth 20000 in
theorem k_1145 : (Jvm.Cond.code ({ cls := "PrunedSearchModel", name := "beginPiece", desc := "()V" } : Jvm.MethodName) prog_13_method_10_code (1 : Nat) (Option.none : Option Jvm.ClassFile.FieldType)) ∈ Wt := List.mem_filter.mpr ⟨t_in (t_in5 (List.mem_of_getElem? (i := 185) rfl)), rfl⟩
set_option maxRecDepth 20000 in
theorem k_1146 : (Jvm.Cond.methodLink "PrunedSearchModel" (179 : Nat) ({ cls := "PrunedSearchModel", name := "take", desc := "()V" } : Jvm.MethodName)) ∈ Wt := List.mem_filter.mpr ⟨t_in (t_in5 (List.mem_of_getElem? (i := 186) rfl)), rfl⟩
set_option maxRecDepth 20000 in
theorem k_1148 : (Jvm.Cond.instanceMethod ({ cls := "PrunedSearchModel", name := "take", desc := "()V" } : Jvm.MethodName)) ∈ Wt := List.mem_filter.mpr ⟨t_in (t_in5 (List.mem_of_getElem? (i := 188) rfl)), rfl⟩
set_option maxRecDepth 20000 in
theorem k_1149 : (Jvm.Cond.code ({ cls := "PrunedSearchModel", name := "take", desc := "()V" } : Jvm.MethodName) prog_13_method_7_code (2 : Nat) (Option.none : Option Jvm.ClassFile.FieldType)) ∈ Wt := List.mem_filter.mpr ⟨t_in (t_in5 (List.mem_of_getElem? (i := 189) rfl)), rfl⟩
set_option maxRecDepth 20000 in
theorem k_1150 : (Jvm.Cond.methodLink "PrunedSearchModel" (126 : Nat) ({ cls := "PrunedSearchModel", name := "at", desc := "(I)I" } : Jvm.MethodName)) ∈ Wt := List.mem_filter.mpr ⟨t_in (t_in5 (List.mem_of_getElem? (i := 190) rfl)), rfl⟩
set_option maxRecDepth 20000 in
theorem k_1152 : (Jvm.Cond.instanceMethod ({ cls := "PrunedSearchModel", name := "at", desc := "(I)I" } : Jvm.MethodName)) ∈ Wt := List.mem_filter.mpr ⟨t_in (t_in5 (List.mem_of_getElem? (i := 192) rfl)), rfl⟩
set_option maxRecDepth 20000 in
theorem k_1153 : (Jvm.Cond.code ({ cls := "PrunedSearchModel", name := "at", desc := "(I)I" } : Jvm.MethodName) prog_13_method_6_code (2 : Nat) (Option.some Jvm.ClassFile.FieldType.int)) ∈ Wt := List.mem_filter.mpr ⟨t_in (t_in5 (List.mem_of_getElem? (i := 193) rfl)), rfl⟩
set_option maxRecDepth 20000 in
theorem k_1154 : (Jvm.Cond.methodLink "PrunedSearchModel" (165 : Nat) ({ cls := "PrunedSearchModel", name := "push", desc := "(I)Z" } : Jvm.MethodName)) ∈ Wt := List.mem_filter.mpr ⟨t_in (t_in5 (List.mem_of_getElem? (i := 194) rfl)), rfl⟩
set_option maxRecDepth 20000 in
theorem k_1156 : (Jvm.Cond.instanceMethod ({ cls := "PrunedSearchModel", name := "push", desc := "(I)Z" } : Jvm.MethodName)) ∈ Wt := List.mem_filter.mpr ⟨t_in (t_in5 (List.mem_of_getElem? (i := 196) rfl)), rfl⟩
set_option maxRecDepth 20000 in
theorem k_1157 : (Jvm.Cond.code ({ cls := "PrunedSearchModel", name := "push", desc := "(I)Z" } : Jvm.MethodName) prog_13_method_13_code (2 : Nat) (Option.some Jvm.ClassFile.FieldType.boolean)) ∈ Wt := List.mem_filter.mpr ⟨t_in (t_in5 (List.mem_of_getElem? (i := 197) rfl)), rfl⟩
set_option maxRecDepth 20000 in
theorem k_1158 : (Jvm.Cond.methodLink "PrunedSearchModel" (182 : Nat) ({ cls := "PrunedSearchModel", name := "outside", desc := "(IZ)I" } : Jvm.MethodName)) ∈ Wt := List.mem_filter.mpr ⟨t_in (t_in5 (List.mem_of_getElem? (i := 198) rfl)), rfl⟩
set_option maxRecDepth 20000 in
theorem k_1160 : (Jvm.Cond.instanceMethod ({ cls := "PrunedSearchModel", name := "outside", desc := "(IZ)I" } : Jvm.MethodName)) ∈ Wt := List.mem_filter.mpr ⟨t_in (t_in5 (List.mem_of_getElem? (i := 200) rfl)), rfl⟩
set_option maxRecDepth 20000 in
theorem k_1161 : (Jvm.Cond.code ({ cls := "PrunedSearchModel", name := "outside", desc := "(IZ)I" } : Jvm.MethodName) prog_13_method_16_code (3 : Nat) (Option.some Jvm.ClassFile.FieldType.int)) ∈ Wt := List.mem_filter.mpr ⟨t_in (t_in5 (List.mem_of_getElem? (i := 201) rfl)), rfl⟩
set_option maxRecDepth 20000 in
theorem k_1162 : (Jvm.Cond.methodLink "PrunedSearchModel" (173 : Nat) ({ cls := "PrunedSearchModel", name := "beginGoal", desc := "()V" } : Jvm.MethodName)) ∈ Wt := List.mem_filter.mpr ⟨t_in (t_in5 (List.mem_of_getElem? (i := 202) rfl)), rfl⟩
set_option maxRecDepth 20000 in
theorem k_1164 : (Jvm.Cond.instanceMethod ({ cls := "PrunedSearchModel", name := "beginGoal", desc := "()V" } : Jvm.MethodName)) ∈ Wt := List.mem_filter.mpr ⟨t_in (t_in5 (List.mem_of_getElem? (i := 204) rfl)), rfl⟩
set_option maxRecDepth 20000 in
theorem k_1165 : (Jvm.Cond.code ({ cls := "PrunedSearchModel", name := "beginGoal", desc := "()V" } : Jvm.MethodName) prog_13_method_11_code (1 : Nat) (Option.none : Option Jvm.ClassFile.FieldType)) ∈ Wt := List.mem_filter.mpr ⟨t_in (t_in5 (List.mem_of_getElem? (i := 205) rfl)), rfl⟩
set_option maxRecDepth 20000 in
theorem k_1166 : (Jvm.Cond.methodLink "PrunedSearchModel" (145 : Nat) ({ cls := "PrunedSearchModel", name := "emit", desc := "(JI)V" } : Jvm.MethodName)) ∈ Wt := List.mem_filter.mpr ⟨t_in (t_in5 (List.mem_of_getElem? (i := 206) rfl)), rfl⟩
set_option maxRecDepth 20000 in
theorem k_1168 : (Jvm.Cond.instanceMethod ({ cls := "PrunedSearchModel", name := "emit", desc := "(JI)V" } : Jvm.MethodName)) ∈ Wt := List.mem_filter.mpr ⟨t_in (t_in5 (List.mem_of_getElem? (i := 208) rfl)), rfl⟩
set_option maxRecDepth 20000 in
theorem k_1169 : (Jvm.Cond.code ({ cls := "PrunedSearchModel", name := "emit", desc := "(JI)V" } : Jvm.MethodName) prog_13_method_8_code (4 : Nat) (Option.none : Option Jvm.ClassFile.FieldType)) ∈ Wt := List.mem_filter.mpr ⟨t_in (t_in5 (List.mem_of_getElem? (i := 209) rfl)), rfl⟩
set_option maxRecDepth 20000 in
theorem k_1170 : (Jvm.Cond.methodLink "PrunedSearchModel" (176 : Nat) ({ cls := "PrunedSearchModel", name := "endPiece", desc := "()V" } : Jvm.MethodName)) ∈ Wt := List.mem_filter.mpr ⟨t_in (t_in5 (List.mem_of_getElem? (i := 210) rfl)), rfl⟩
set_option maxRecDepth 20000 in
theorem k_1172 : (Jvm.Cond.instanceMethod ({ cls := "PrunedSearchModel", name := "endPiece", desc := "()V" } : Jvm.MethodName)) ∈ Wt := List.mem_filter.mpr ⟨t_in (t_in5 (List.mem_of_getElem? (i := 212) rfl)), rfl⟩
set_option maxRecDepth 20000 in
theorem k_1173 : (Jvm.Cond.code ({ cls := "PrunedSearchModel", name := "endPiece", desc := "()V" } : Jvm.MethodName) prog_13_method_12_code (1 : Nat) (Option.none : Option Jvm.ClassFile.FieldType)) ∈ Wt := List.mem_filter.mpr ⟨t_in (t_in5 (List.mem_of_getElem? (i := 213) rfl)), rfl⟩
set_option maxRecDepth 20000 in
theorem k_1174 : (Jvm.Cond.constantLong "PrunedSearchModel" (168 : Nat) (2 : Int64)) ∈ Wt := List.mem_filter.mpr ⟨t_in (t_in5 (List.mem_of_getElem? (i := 214) rfl)), rfl⟩
set_option maxRecDepth 20000 in
theorem k_1175 : (Jvm.Cond.methodLink "PrunedSearchModel" (186 : Nat) ({ cls := "PrunedSearchModel", name := "beginTerm", desc := "()Z" } : Jvm.MethodName)) ∈ Wt := List.mem_filter.mpr ⟨t_in (t_in5 (List.mem_of_getElem? (i := 215) rfl)), rfl⟩
set_option maxRecDepth 20000 in
theorem k_1177 : (Jvm.Cond.instanceMethod ({ cls := "PrunedSearchModel", name := "beginTerm", desc := "()Z" } : Jvm.MethodName)) ∈ Wt := List.mem_filter.mpr ⟨t_in (t_in5 (List.mem_of_getElem? (i := 217) rfl)), rfl⟩
set_option maxRecDepth 20000 in
theorem k_1178 : (Jvm.Cond.code ({ cls := "PrunedSearchModel", name := "beginTerm", desc := "()Z" } : Jvm.MethodName) prog_13_method_14_code (1 : Nat) (Option.some Jvm.ClassFile.FieldType.boolean)) ∈ Wt := List.mem_filter.mpr ⟨t_in (t_in5 (List.mem_of_getElem? (i := 218) rfl)), rfl⟩
set_option maxRecDepth 20000 in
theorem k_1179 : (Jvm.Cond.methodLink "PrunedSearchModel" (162 : Nat) ({ cls := "PrunedSearchModel", name := "emitVariable", desc := "()V" } : Jvm.MethodName)) ∈ Wt := List.mem_filter.mpr ⟨t_in (t_in5 (List.mem_of_getElem? (i := 219) rfl)), rfl⟩
set_option maxRecDepth 20000 in
theorem k_1181 : (Jvm.Cond.instanceMethod ({ cls := "PrunedSearchModel", name := "emitVariable", desc := "()V" } : Jvm.MethodName)) ∈ Wt := List.mem_filter.mpr ⟨t_in (t_in5 (List.mem_of_getElem? (i := 221) rfl)), rfl⟩
set_option maxRecDepth 20000 in
theorem k_1182 : (Jvm.Cond.code ({ cls := "PrunedSearchModel", name := "emitVariable", desc := "()V" } : Jvm.MethodName) prog_13_method_9_code (3 : Nat) (Option.none : Option Jvm.ClassFile.FieldType)) ∈ Wt := List.mem_filter.mpr ⟨t_in (t_in5 (List.mem_of_getElem? (i := 222) rfl)), rfl⟩
set_option maxRecDepth 20000 in
theorem k_1183 : (Jvm.Cond.constantLong "PrunedSearchModel" (143 : Nat) (95 : Int64)) ∈ Wt := List.mem_filter.mpr ⟨t_in (t_in5 (List.mem_of_getElem? (i := 223) rfl)), rfl⟩
set_option maxRecDepth 20000 in
theorem k_1184 : (Jvm.Cond.methodLink "PrunedSearchModel" (190 : Nat) ({ cls := "PrunedSearchModel", name := "goOn", desc := "()Z" } : Jvm.MethodName)) ∈ Wt := List.mem_filter.mpr ⟨t_in (t_in5 (List.mem_of_getElem? (i := 224) rfl)), rfl⟩
set_option maxRecDepth 20000 in
theorem k_1186 : (Jvm.Cond.instanceMethod ({ cls := "PrunedSearchModel", name := "goOn", desc := "()Z" } : Jvm.MethodName)) ∈ Wt := List.mem_filter.mpr ⟨t_in (t_in5 (List.mem_of_getElem? (i := 226) rfl)), rfl⟩
set_option maxRecDepth 20000 in
theorem k_1187 : (Jvm.Cond.code ({ cls := "PrunedSearchModel", name := "goOn", desc := "()Z" } : Jvm.MethodName) prog_13_method_15_code (2 : Nat) (Option.some Jvm.ClassFile.FieldType.boolean)) ∈ Wt := List.mem_filter.mpr ⟨t_in (t_in5 (List.mem_of_getElem? (i := 227) rfl)), rfl⟩
set_option maxRecDepth 20000 in
theorem k_1188 : (Jvm.Cond.methodLink "PrunedSearchModel" (218 : Nat) ({ cls := "PrunedSearchModel", name := "noSearch", desc := "()V" } : Jvm.MethodName)) ∈ Wt := List.mem_filter.mpr ⟨t_in (t_in5 (List.mem_of_getElem? (i := 228) rfl)), rfl⟩
set_option maxRecDepth 20000 in
theorem k_1190 : (Jvm.Cond.instanceMethod ({ cls := "PrunedSearchModel", name := "noSearch", desc := "()V" } : Jvm.MethodName)) ∈ Wt := List.mem_filter.mpr ⟨t_in (t_in5 (List.mem_of_getElem? (i := 230) rfl)), rfl⟩
set_option maxRecDepth 20000 in
theorem k_1191 : (Jvm.Cond.code ({ cls := "PrunedSearchModel", name := "noSearch", desc := "()V" } : Jvm.MethodName) prog_13_method_22_code (1 : Nat) (Option.none : Option Jvm.ClassFile.FieldType)) ∈ Wt := List.mem_filter.mpr ⟨t_in (t_in5 (List.mem_of_getElem? (i := 231) rfl)), rfl⟩
set_option maxRecDepth 20000 in
theorem k_1192 : (Jvm.Cond.methodLink "PrunedSearchModel" (224 : Nat) ({ cls := "PrunedSearchModel", name := "tooMuch", desc := "(I)Z" } : Jvm.MethodName)) ∈ Wt := List.mem_filter.mpr ⟨t_in (t_in5 (List.mem_of_getElem? (i := 232) rfl)), rfl⟩
set_option maxRecDepth 20000 in
theorem k_1194 : (Jvm.Cond.instanceMethod ({ cls := "PrunedSearchModel", name := "tooMuch", desc := "(I)Z" } : Jvm.MethodName)) ∈ Wt := List.mem_filter.mpr ⟨t_in (t_in5 (List.mem_of_getElem? (i := 234) rfl)), rfl⟩
set_option maxRecDepth 20000 in
theorem k_1195 : (Jvm.Cond.code ({ cls := "PrunedSearchModel", name := "tooMuch", desc := "(I)Z" } : Jvm.MethodName) prog_13_method_19_code (4 : Nat) (Option.some Jvm.ClassFile.FieldType.boolean)) ∈ Wt := List.mem_filter.mpr ⟨t_in (t_in5 (List.mem_of_getElem? (i := 235) rfl)), rfl⟩
set_option maxRecDepth 20000 in
theorem k_1196 : (Jvm.Cond.methodLink "PrunedSearchModel" (193 : Nat) ({ cls := "PrunedSearchModel", name := "endOf", desc := "(I)I" } : Jvm.MethodName)) ∈ Wt := List.mem_filter.mpr ⟨t_in (t_in5 (List.mem_of_getElem? (i := 236) rfl)), rfl⟩
set_option maxRecDepth 20000 in
theorem k_1198 : (Jvm.Cond.instanceMethod ({ cls := "PrunedSearchModel", name := "endOf", desc := "(I)I" } : Jvm.MethodName)) ∈ Wt := List.mem_filter.mpr ⟨t_in (t_in5 (List.mem_of_getElem? (i := 238) rfl)), rfl⟩
set_option maxRecDepth 20000 in
theorem k_1199 : (Jvm.Cond.code ({ cls := "PrunedSearchModel", name := "endOf", desc := "(I)I" } : Jvm.MethodName) prog_13_method_18_code (2 : Nat) (Option.some Jvm.ClassFile.FieldType.int)) ∈ Wt := List.mem_filter.mpr ⟨t_in (t_in5 (List.mem_of_getElem? (i := 239) rfl)), rfl⟩
set_option maxRecDepth 20000 in
theorem k_1200 : (Jvm.Cond.methodLink "PrunedSearchModel" (227 : Nat) ({ cls := "PrunedSearchModel", name := "addNames", desc := "()I" } : Jvm.MethodName)) ∈ Wt := List.mem_filter.mpr ⟨t_in (t_in6 (List.mem_of_getElem? (i := 0) rfl)), rfl⟩
set_option maxRecDepth 20000 in
theorem k_1202 : (Jvm.Cond.instanceMethod ({ cls := "PrunedSearchModel", name := "addNames", desc := "()I" } : Jvm.MethodName)) ∈ Wt := List.mem_filter.mpr ⟨t_in (t_in6 (List.mem_of_getElem? (i := 2) rfl)), rfl⟩
set_option maxRecDepth 20000 in
theorem k_1203 : (Jvm.Cond.code ({ cls := "PrunedSearchModel", name := "addNames", desc := "()I" } : Jvm.MethodName) prog_13_method_20_code (5 : Nat) (Option.some Jvm.ClassFile.FieldType.int)) ∈ Wt := List.mem_filter.mpr ⟨t_in (t_in6 (List.mem_of_getElem? (i := 3) rfl)), rfl⟩
set_option maxRecDepth 20000 in
theorem k_1204 : (Jvm.Cond.methodLink "PrunedSearchModel" (231 : Nat) ({ cls := "PrunedSearchModel", name := "keep", desc := "(III)V" } : Jvm.MethodName)) ∈ Wt := List.mem_filter.mpr ⟨t_in (t_in6 (List.mem_of_getElem? (i := 4) rfl)), rfl⟩
set_option maxRecDepth 20000 in
theorem k_1206 : (Jvm.Cond.instanceMethod ({ cls := "PrunedSearchModel", name := "keep", desc := "(III)V" } : Jvm.MethodName)) ∈ Wt := List.mem_filter.mpr ⟨t_in (t_in6 (List.mem_of_getElem? (i := 6) rfl)), rfl⟩
set_option maxRecDepth 20000 in
theorem k_1207 : (Jvm.Cond.code ({ cls := "PrunedSearchModel", name := "keep", desc := "(III)V" } : Jvm.MethodName) prog_13_method_21_code (5 : Nat) (Option.none : Option Jvm.ClassFile.FieldType)) ∈ Wt := List.mem_filter.mpr ⟨t_in (t_in6 (List.mem_of_getElem? (i := 7) rfl)), rfl⟩
set_option maxRecDepth 20000 in
theorem k_1212 : (Jvm.Cond.methodLink "PrunedSearchModel" (238 : Nat) ({ cls := "PrunedSearchModel", name := "begin", desc := "()V" } : Jvm.MethodName)) ∈ Wt := List.mem_filter.mpr ⟨t_in (t_in6 (List.mem_of_getElem? (i := 12) rfl)), rfl⟩
set_option maxRecDepth 20000 in
theorem k_1214 : (Jvm.Cond.instanceMethod ({ cls := "PrunedSearchModel", name := "begin", desc := "()V" } : Jvm.MethodName)) ∈ Wt := List.mem_filter.mpr ⟨t_in (t_in6 (List.mem_of_getElem? (i := 14) rfl)), rfl⟩
set_option maxRecDepth 20000 in
theorem k_1215 : (Jvm.Cond.code ({ cls := "PrunedSearchModel", name := "begin", desc := "()V" } : Jvm.MethodName) prog_13_method_34_code (1 : Nat) (Option.none : Option Jvm.ClassFile.FieldType)) ∈ Wt := List.mem_filter.mpr ⟨t_in (t_in6 (List.mem_of_getElem? (i := 15) rfl)), rfl⟩
set_option maxRecDepth 20000 in
theorem k_1216 : (Jvm.Cond.methodLink "PrunedSearchModel" (265 : Nat) ({ cls := "PrunedSearchModel", name := "clearFrame", desc := "(I)V" } : Jvm.MethodName)) ∈ Wt := List.mem_filter.mpr ⟨t_in (t_in6 (List.mem_of_getElem? (i := 16) rfl)), rfl⟩
set_option maxRecDepth 20000 in
theorem k_1218 : (Jvm.Cond.instanceMethod ({ cls := "PrunedSearchModel", name := "clearFrame", desc := "(I)V" } : Jvm.MethodName)) ∈ Wt := List.mem_filter.mpr ⟨t_in (t_in6 (List.mem_of_getElem? (i := 18) rfl)), rfl⟩
set_option maxRecDepth 20000 in
theorem k_1219 : (Jvm.Cond.code ({ cls := "PrunedSearchModel", name := "clearFrame", desc := "(I)V" } : Jvm.MethodName) prog_13_method_32_code (3 : Nat) (Option.none : Option Jvm.ClassFile.FieldType)) ∈ Wt := List.mem_filter.mpr ⟨t_in (t_in6 (List.mem_of_getElem? (i := 19) rfl)), rfl⟩
set_option maxRecDepth 20000 in
theorem k_1220 : (Jvm.Cond.methodLink "PrunedSearchModel" (269 : Nat) ({ cls := "PrunedSearchModel", name := "prepend", desc := "(III)V" } : Jvm.MethodName)) ∈ Wt := List.mem_filter.mpr ⟨t_in (t_in6 (List.mem_of_getElem? (i := 20) rfl)), rfl⟩
set_option maxRecDepth 20000 in
theorem k_1222 : (Jvm.Cond.instanceMethod ({ cls := "PrunedSearchModel", name := "prepend", desc := "(III)V" } : Jvm.MethodName)) ∈ Wt := List.mem_filter.mpr ⟨t_in (t_in6 (List.mem_of_getElem? (i := 22) rfl)), rfl⟩
set_option maxRecDepth 20000 in
theorem k_1223 : (Jvm.Cond.code ({ cls := "PrunedSearchModel", name := "prepend", desc := "(III)V" } : Jvm.MethodName) prog_13_method_33_code (5 : Nat) (Option.none : Option Jvm.ClassFile.FieldType)) ∈ Wt := List.mem_filter.mpr ⟨t_in (t_in6 (List.mem_of_getElem? (i := 23) rfl)), rfl⟩
set_option maxRecDepth 20000 in
theorem k_1228 : (Jvm.Cond.methodLink "PrunedSearchModel" (294 : Nat) ({ cls := "PrunedSearchModel", name := "end", desc := "(I)V" } : Jvm.MethodName)) ∈ Wt := List.mem_filter.mpr ⟨t_in (t_in6 (List.mem_of_getElem? (i := 28) rfl)), rfl⟩
set_option maxRecDepth 20000 in
theorem k_1230 : (Jvm.Cond.instanceMethod ({ cls := "PrunedSearchModel", name := "end", desc := "(I)V" } : Jvm.MethodName)) ∈ Wt := List.mem_filter.mpr ⟨t_in (t_in6 (List.mem_of_getElem? (i := 30) rfl)), rfl⟩
set_option maxRecDepth 20000 in
theorem k_1231 : (Jvm.Cond.code ({ cls := "PrunedSearchModel", name := "end", desc := "(I)V" } : Jvm.MethodName) prog_13_method_40_code (2 : Nat) (Option.none : Option Jvm.ClassFile.FieldType)) ∈ Wt := List.mem_filter.mpr ⟨t_in (t_in6 (List.mem_of_getElem? (i := 31) rfl)), rfl⟩
set_option maxRecDepth 20000 in
theorem k_1232 : (Jvm.Cond.methodLink "PrunedSearchModel" (314 : Nat) ({ cls := "PrunedSearchModel", name := "step", desc := "()V" } : Jvm.MethodName)) ∈ Wt := List.mem_filter.mpr ⟨t_in (t_in6 (List.mem_of_getElem? (i := 32) rfl)), rfl⟩
set_option maxRecDepth 20000 in
theorem k_1234 : (Jvm.Cond.instanceMethod ({ cls := "PrunedSearchModel", name := "step", desc := "()V" } : Jvm.MethodName)) ∈ Wt := List.mem_filter.mpr ⟨t_in (t_in6 (List.mem_of_getElem? (i := 34) rfl)), rfl⟩
set_option maxRecDepth 20000 in
theorem k_1235 : (Jvm.Cond.code ({ cls := "PrunedSearchModel", name := "step", desc := "()V" } : Jvm.MethodName) prog_13_method_44_code (1 : Nat) (Option.none : Option Jvm.ClassFile.FieldType)) ∈ Wt := List.mem_filter.mpr ⟨t_in (t_in6 (List.mem_of_getElem? (i := 35) rfl)), rfl⟩
set_option maxRecDepth 20000 in
theorem k_1236 : (Jvm.Cond.methodLink "PrunedSearchModel" (308 : Nat) ({ cls := "PrunedSearchModel", name := "forward", desc := "()V" } : Jvm.MethodName)) ∈ Wt := List.mem_filter.mpr ⟨t_in (t_in6 (List.mem_of_getElem? (i := 36) rfl)), rfl⟩
set_option maxRecDepth 20000 in
theorem k_1238 : (Jvm.Cond.instanceMethod ({ cls := "PrunedSearchModel", name := "forward", desc := "()V" } : Jvm.MethodName)) ∈ Wt := List.mem_filter.mpr ⟨t_in (t_in6 (List.mem_of_getElem? (i := 38) rfl)), rfl⟩
set_option maxRecDepth 20000 in
theorem k_1239 : (Jvm.Cond.code ({ cls := "PrunedSearchModel", name := "forward", desc := "()V" } : Jvm.MethodName) prog_13_method_42_code (5 : Nat) (Option.none : Option Jvm.ClassFile.FieldType)) ∈ Wt := List.mem_filter.mpr ⟨t_in (t_in6 (List.mem_of_getElem? (i := 39) rfl)), rfl⟩
set_option maxRecDepth 20000 in
theorem k_1240 : (Jvm.Cond.constantLong "PrunedSearchModel" (272 : Nat) (1702195828 : Int64)) ∈ Wt := List.mem_filter.mpr ⟨t_in (t_in6 (List.mem_of_getElem? (i := 40) rfl)), rfl⟩
set_option maxRecDepth 20000 in
theorem k_1241 : (Jvm.Cond.methodLink "PrunedSearchModel" (274 : Nat) ({ cls := "PrunedSearchModel", name := "isWordAlone", desc := "(IJ)Z" } : Jvm.MethodName)) ∈ Wt := List.mem_filter.mpr ⟨t_in (t_in6 (List.mem_of_getElem? (i := 41) rfl)), rfl⟩
set_option maxRecDepth 20000 in
theorem k_1243 : (Jvm.Cond.instanceMethod ({ cls := "PrunedSearchModel", name := "isWordAlone", desc := "(IJ)Z" } : Jvm.MethodName)) ∈ Wt := List.mem_filter.mpr ⟨t_in (t_in6 (List.mem_of_getElem? (i := 43) rfl)), rfl⟩
set_option maxRecDepth 20000 in
theorem k_1244 : (Jvm.Cond.code ({ cls := "PrunedSearchModel", name := "isWordAlone", desc := "(IJ)Z" } : Jvm.MethodName) prog_13_method_35_code (4 : Nat) (Option.some Jvm.ClassFile.FieldType.boolean)) ∈ Wt := List.mem_filter.mpr ⟨t_in (t_in6 (List.mem_of_getElem? (i := 44) rfl)), rfl⟩
set_option maxRecDepth 20000 in
theorem k_1245 : (Jvm.Cond.constantLong "PrunedSearchModel" (297 : Nat) (1818845542 : Int64)) ∈ Wt := List.mem_filter.mpr ⟨t_in (t_in6 (List.mem_of_getElem? (i := 45) rfl)), rfl⟩
set_option maxRecDepth 20000 in
theorem k_1246 : (Jvm.Cond.methodLink "PrunedSearchModel" (299 : Nat) ({ cls := "PrunedSearchModel", name := "candidate", desc := "(III)I" } : Jvm.MethodName)) ∈ Wt := List.mem_filter.mpr ⟨t_in (t_in6 (List.mem_of_getElem? (i := 46) rfl)), rfl⟩
set_option maxRecDepth 20000 in
theorem k_1248 : (Jvm.Cond.instanceMethod ({ cls := "PrunedSearchModel", name := "candidate", desc := "(III)I" } : Jvm.MethodName)) ∈ Wt := List.mem_filter.mpr ⟨t_in (t_in6 (List.mem_of_getElem? (i := 48) rfl)), rfl⟩
set_option maxRecDepth 20000 in
theorem k_1249 : (Jvm.Cond.code ({ cls := "PrunedSearchModel", name := "candidate", desc := "(III)I" } : Jvm.MethodName) prog_13_method_38_code (8 : Nat) (Option.some Jvm.ClassFile.FieldType.int)) ∈ Wt := List.mem_filter.mpr ⟨t_in (t_in6 (List.mem_of_getElem? (i := 49) rfl)), rfl⟩
set_option maxRecDepth 20000 in
theorem k_1250 : (Jvm.Cond.methodLink "PrunedSearchModel" (250 : Nat) ({ cls := "PrunedSearchModel", name := "follow", desc := "(II)V" } : Jvm.MethodName)) ∈ Wt := List.mem_filter.mpr ⟨t_in (t_in6 (List.mem_of_getElem? (i := 50) rfl)), rfl⟩
set_option maxRecDepth 20000 in
theorem k_1252 : (Jvm.Cond.instanceMethod ({ cls := "PrunedSearchModel", name := "follow", desc := "(II)V" } : Jvm.MethodName)) ∈ Wt := List.mem_filter.mpr ⟨t_in (t_in6 (List.mem_of_getElem? (i := 52) rfl)), rfl⟩
set_option maxRecDepth 20000 in
theorem k_1253 : (Jvm.Cond.code ({ cls := "PrunedSearchModel", name := "follow", desc := "(II)V" } : Jvm.MethodName) prog_13_method_26_code (5 : Nat) (Option.none : Option Jvm.ClassFile.FieldType)) ∈ Wt := List.mem_filter.mpr ⟨t_in (t_in6 (List.mem_of_getElem? (i := 53) rfl)), rfl⟩
set_option maxRecDepth 20000 in
theorem k_1254 : (Jvm.Cond.methodLink "PrunedSearchModel" (302 : Nat) ({ cls := "PrunedSearchModel", name := "resolve", desc := "(II)V" } : Jvm.MethodName)) ∈ Wt := List.mem_filter.mpr ⟨t_in (t_in6 (List.mem_of_getElem? (i := 54) rfl)), rfl⟩
set_option maxRecDepth 20000 in
theorem k_1256 : (Jvm.Cond.instanceMethod ({ cls := "PrunedSearchModel", name := "resolve", desc := "(II)V" } : Jvm.MethodName)) ∈ Wt := List.mem_filter.mpr ⟨t_in (t_in6 (List.mem_of_getElem? (i := 56) rfl)), rfl⟩
set_option maxRecDepth 20000 in
theorem k_1257 : (Jvm.Cond.code ({ cls := "PrunedSearchModel", name := "resolve", desc := "(II)V" } : Jvm.MethodName) prog_13_method_41_code (5 : Nat) (Option.none : Option Jvm.ClassFile.FieldType)) ∈ Wt := List.mem_filter.mpr ⟨t_in (t_in6 (List.mem_of_getElem? (i := 57) rfl)), rfl⟩
set_option maxRecDepth 20000 in
theorem k_1258 : (Jvm.Cond.methodLink "PrunedSearchModel" (281 : Nat) ({ cls := "PrunedSearchModel", name := "equalize", desc := "(IIII)Z" } : Jvm.MethodName)) ∈ Wt := List.mem_filter.mpr ⟨t_in (t_in6 (List.mem_of_getElem? (i := 58) rfl)), rfl⟩
set_option maxRecDepth 20000 in
theorem k_1260 : (Jvm.Cond.instanceMethod ({ cls := "PrunedSearchModel", name := "equalize", desc := "(IIII)Z" } : Jvm.MethodName)) ∈ Wt := List.mem_filter.mpr ⟨t_in (t_in6 (List.mem_of_getElem? (i := 60) rfl)), rfl⟩
set_option maxRecDepth 20000 in
theorem k_1261 : (Jvm.Cond.code ({ cls := "PrunedSearchModel", name := "equalize", desc := "(IIII)Z" } : Jvm.MethodName) prog_13_method_31_code (19 : Nat) (Option.some Jvm.ClassFile.FieldType.boolean)) ∈ Wt := List.mem_filter.mpr ⟨t_in (t_in6 (List.mem_of_getElem? (i := 61) rfl)), rfl⟩
set_option maxRecDepth 20000 in
theorem k_1262 : (Jvm.Cond.methodLink "PrunedSearchModel" (262 : Nat) ({ cls := "PrunedSearchModel", name := "bind", desc := "(IIII)Z" } : Jvm.MethodName)) ∈ Wt := List.mem_filter.mpr ⟨t_in (t_in6 (List.mem_of_getElem? (i := 62) rfl)), rfl⟩
set_option maxRecDepth 20000 in
theorem k_1264 : (Jvm.Cond.instanceMethod ({ cls := "PrunedSearchModel", name := "bind", desc := "(IIII)Z" } : Jvm.MethodName)) ∈ Wt := List.mem_filter.mpr ⟨t_in (t_in6 (List.mem_of_getElem? (i := 64) rfl)), rfl⟩
set_option maxRecDepth 20000 in
theorem k_1265 : (Jvm.Cond.code ({ cls := "PrunedSearchModel", name := "bind", desc := "(IIII)Z" } : Jvm.MethodName) prog_13_method_30_code (5 : Nat) (Option.some Jvm.ClassFile.FieldType.boolean)) ∈ Wt := List.mem_filter.mpr ⟨t_in (t_in6 (List.mem_of_getElem? (i := 65) rfl)), rfl⟩
set_option maxRecDepth 20000 in
theorem k_1266 : (Jvm.Cond.methodLink "PrunedSearchModel" (258 : Nat) ({ cls := "PrunedSearchModel", name := "stands", desc := "(IIII)Z" } : Jvm.MethodName)) ∈ Wt := List.mem_filter.mpr ⟨t_in (t_in6 (List.mem_of_getElem? (i := 66) rfl)), rfl⟩
set_option maxRecDepth 20000 in
theorem k_1268 : (Jvm.Cond.instanceMethod ({ cls := "PrunedSearchModel", name := "stands", desc := "(IIII)Z" } : Jvm.MethodName)) ∈ Wt := List.mem_filter.mpr ⟨t_in (t_in6 (List.mem_of_getElem? (i := 68) rfl)), rfl⟩
set_option maxRecDepth 20000 in
theorem k_1269 : (Jvm.Cond.code ({ cls := "PrunedSearchModel", name := "stands", desc := "(IIII)Z" } : Jvm.MethodName) prog_13_method_29_code (6 : Nat) (Option.some Jvm.ClassFile.FieldType.boolean)) ∈ Wt := List.mem_filter.mpr ⟨t_in (t_in6 (List.mem_of_getElem? (i := 69) rfl)), rfl⟩
set_option maxRecDepth 20000 in
theorem k_1270 : (Jvm.Cond.methodLink "PrunedSearchModel" (254 : Nat) ({ cls := "PrunedSearchModel", name := "pushAll", desc := "(III)I" } : Jvm.MethodName)) ∈ Wt := List.mem_filter.mpr ⟨t_in (t_in6 (List.mem_of_getElem? (i := 70) rfl)), rfl⟩
set_option maxRecDepth 20000 in
theorem k_1272 : (Jvm.Cond.instanceMethod ({ cls := "PrunedSearchModel", name := "pushAll", desc := "(III)I" } : Jvm.MethodName)) ∈ Wt := List.mem_filter.mpr ⟨t_in (t_in6 (List.mem_of_getElem? (i := 72) rfl)), rfl⟩
set_option maxRecDepth 20000 in
theorem k_1273 : (Jvm.Cond.code ({ cls := "PrunedSearchModel", name := "pushAll", desc := "(III)I" } : Jvm.MethodName) prog_13_method_27_code (7 : Nat) (Option.some Jvm.ClassFile.FieldType.int)) ∈ Wt := List.mem_filter.mpr ⟨t_in (t_in6 (List.mem_of_getElem? (i := 73) rfl)), rfl⟩
set_option maxRecDepth 20000 in
theorem k_1274 : (Jvm.Cond.methodLink "PrunedSearchModel" (247 : Nat) ({ cls := "PrunedSearchModel", name := "behind", desc := "(I)I" } : Jvm.MethodName)) ∈ Wt := List.mem_filter.mpr ⟨t_in (t_in6 (List.mem_of_getElem? (i := 74) rfl)), rfl⟩
set_option maxRecDepth 20000 in
theorem k_1276 : (Jvm.Cond.instanceMethod ({ cls := "PrunedSearchModel", name := "behind", desc := "(I)I" } : Jvm.MethodName)) ∈ Wt := List.mem_filter.mpr ⟨t_in (t_in6 (List.mem_of_getElem? (i := 76) rfl)), rfl⟩
set_option maxRecDepth 20000 in
theorem k_1277 : (Jvm.Cond.code ({ cls := "PrunedSearchModel", name := "behind", desc := "(I)I" } : Jvm.MethodName) prog_13_method_25_code (4 : Nat) (Option.some Jvm.ClassFile.FieldType.int)) ∈ Wt := List.mem_filter.mpr ⟨t_in (t_in6 (List.mem_of_getElem? (i := 77) rfl)), rfl⟩
set_option maxRecDepth 20000 in
theorem k_1278 : (Jvm.Cond.methodLink "PrunedSearchModel" (291 : Nat) ({ cls := "PrunedSearchModel", name := "large", desc := "()Z" } : Jvm.MethodName)) ∈ Wt := List.mem_filter.mpr ⟨t_in (t_in6 (List.mem_of_getElem? (i := 78) rfl)), rfl⟩
set_option maxRecDepth 20000 in
theorem k_1280 : (Jvm.Cond.instanceMethod ({ cls := "PrunedSearchModel", name := "large", desc := "()Z" } : Jvm.MethodName)) ∈ Wt := List.mem_filter.mpr ⟨t_in (t_in6 (List.mem_of_getElem? (i := 80) rfl)), rfl⟩
set_option maxRecDepth 20000 in
theorem k_1281 : (Jvm.Cond.code ({ cls := "PrunedSearchModel", name := "large", desc := "()Z" } : Jvm.MethodName) prog_13_method_39_code (3 : Nat) (Option.some Jvm.ClassFile.FieldType.boolean)) ∈ Wt := List.mem_filter.mpr ⟨t_in (t_in6 (List.mem_of_getElem? (i := 81) rfl)), rfl⟩
set_option maxRecDepth 20000 in
theorem k_1282 : (Jvm.Cond.methodLink "PrunedSearchModel" (284 : Nat) ({ cls := "PrunedSearchModel", name := "symbolsOf", desc := "(II)I" } : Jvm.MethodName)) ∈ Wt := List.mem_filter.mpr ⟨t_in (t_in6 (List.mem_of_getElem? (i := 82) rfl)), rfl⟩
set_option maxRecDepth 20000 in
theorem k_1284 : (Jvm.Cond.instanceMethod ({ cls := "PrunedSearchModel", name := "symbolsOf", desc := "(II)I" } : Jvm.MethodName)) ∈ Wt := List.mem_filter.mpr ⟨t_in (t_in6 (List.mem_of_getElem? (i := 84) rfl)), rfl⟩
set_option maxRecDepth 20000 in
theorem k_1285 : (Jvm.Cond.code ({ cls := "PrunedSearchModel", name := "symbolsOf", desc := "(II)I" } : Jvm.MethodName) prog_13_method_28_code (5 : Nat) (Option.some Jvm.ClassFile.FieldType.int)) ∈ Wt := List.mem_filter.mpr ⟨t_in (t_in6 (List.mem_of_getElem? (i := 85) rfl)), rfl⟩
set_option maxRecDepth 20000 in
theorem k_1286 : (Jvm.Cond.methodLink "PrunedSearchModel" (311 : Nat) ({ cls := "PrunedSearchModel", name := "back", desc := "()V" } : Jvm.MethodName)) ∈ Wt := List.mem_filter.mpr ⟨t_in (t_in6 (List.mem_of_getElem? (i := 86) rfl)), rfl⟩
set_option maxRecDepth 20000 in
theorem k_1288 : (Jvm.Cond.instanceMethod ({ cls := "PrunedSearchModel", name := "back", desc := "()V" } : Jvm.MethodName)) ∈ Wt := List.mem_filter.mpr ⟨t_in (t_in6 (List.mem_of_getElem? (i := 88) rfl)), rfl⟩
set_option maxRecDepth 20000 in
theorem k_1289 : (Jvm.Cond.code ({ cls := "PrunedSearchModel", name := "back", desc := "()V" } : Jvm.MethodName) prog_13_method_43_code (3 : Nat) (Option.none : Option Jvm.ClassFile.FieldType)) ∈ Wt := List.mem_filter.mpr ⟨t_in (t_in6 (List.mem_of_getElem? (i := 89) rfl)), rfl⟩
set_option maxRecDepth 20000 in
theorem k_1290 : (Jvm.Cond.methodLink "PrunedSearchModel" (305 : Nat) ({ cls := "PrunedSearchModel", name := "again", desc := "(I)V" } : Jvm.MethodName)) ∈ Wt := List.mem_filter.mpr ⟨t_in (t_in6 (List.mem_of_getElem? (i := 90) rfl)), rfl⟩
set_option maxRecDepth 20000 in
theorem k_1292 : (Jvm.Cond.instanceMethod ({ cls := "PrunedSearchModel", name := "again", desc := "(I)V" } : Jvm.MethodName)) ∈ Wt := List.mem_filter.mpr ⟨t_in (t_in6 (List.mem_of_getElem? (i := 92) rfl)), rfl⟩
set_option maxRecDepth 20000 in
theorem k_1293 : (Jvm.Cond.code ({ cls := "PrunedSearchModel", name := "again", desc := "(I)V" } : Jvm.MethodName) prog_13_method_37_code (4 : Nat) (Option.none : Option Jvm.ClassFile.FieldType)) ∈ Wt := List.mem_filter.mpr ⟨t_in (t_in6 (List.mem_of_getElem? (i := 93) rfl)), rfl⟩
set_option maxRecDepth 20000 in
theorem k_1294 : (Jvm.Cond.methodLink "PrunedSearchModel" (278 : Nat) ({ cls := "PrunedSearchModel", name := "strip", desc := "()V" } : Jvm.MethodName)) ∈ Wt := List.mem_filter.mpr ⟨t_in (t_in6 (List.mem_of_getElem? (i := 94) rfl)), rfl⟩
set_option maxRecDepth 20000 in
theorem k_1296 : (Jvm.Cond.instanceMethod ({ cls := "PrunedSearchModel", name := "strip", desc := "()V" } : Jvm.MethodName)) ∈ Wt := List.mem_filter.mpr ⟨t_in (t_in6 (List.mem_of_getElem? (i := 96) rfl)), rfl⟩
set_option maxRecDepth 20000 in
theorem k_1297 : (Jvm.Cond.code ({ cls := "PrunedSearchModel", name := "strip", desc := "()V" } : Jvm.MethodName) prog_13_method_36_code (1 : Nat) (Option.none : Option Jvm.ClassFile.FieldType)) ∈ Wt := List.mem_filter.mpr ⟨t_in (t_in6 (List.mem_of_getElem? (i := 97) rfl)), rfl⟩
set_option maxRecDepth 20000 in
theorem k_1302 : (Jvm.Cond.methodLink "PrunedSearchModel" (343 : Nat) ({ cls := "PrunedSearchModel", name := "write", desc := "(I)V" } : Jvm.MethodName)) ∈ Wt := List.mem_filter.mpr ⟨t_in (t_in6 (List.mem_of_getElem? (i := 102) rfl)), rfl⟩
set_option maxRecDepth 20000 in
theorem k_1304 : (Jvm.Cond.instanceMethod ({ cls := "PrunedSearchModel", name := "write", desc := "(I)V" } : Jvm.MethodName)) ∈ Wt := List.mem_filter.mpr ⟨t_in (t_in6 (List.mem_of_getElem? (i := 104) rfl)), rfl⟩
set_option maxRecDepth 20000 in
theorem k_1305 : (Jvm.Cond.code ({ cls := "PrunedSearchModel", name := "write", desc := "(I)V" } : Jvm.MethodName) prog_13_method_52_code (5 : Nat) (Option.none : Option Jvm.ClassFile.FieldType)) ∈ Wt := List.mem_filter.mpr ⟨t_in (t_in6 (List.mem_of_getElem? (i := 105) rfl)), rfl⟩
set_option maxRecDepth 20000 in
theorem k_1306 : (Jvm.Cond.methodLink "PrunedSearchModel" (329 : Nat) ({ cls := "PrunedSearchModel", name := "later", desc := "(IIII)I" } : Jvm.MethodName)) ∈ Wt := List.mem_filter.mpr ⟨t_in (t_in6 (List.mem_of_getElem? (i := 106) rfl)), rfl⟩
set_option maxRecDepth 20000 in
theorem k_1308 : (Jvm.Cond.instanceMethod ({ cls := "PrunedSearchModel", name := "later", desc := "(IIII)I" } : Jvm.MethodName)) ∈ Wt := List.mem_filter.mpr ⟨t_in (t_in6 (List.mem_of_getElem? (i := 108) rfl)), rfl⟩
set_option maxRecDepth 20000 in
theorem k_1309 : (Jvm.Cond.code ({ cls := "PrunedSearchModel", name := "later", desc := "(IIII)I" } : Jvm.MethodName) prog_13_method_49_code (5 : Nat) (Option.some Jvm.ClassFile.FieldType.int)) ∈ Wt := List.mem_filter.mpr ⟨t_in (t_in6 (List.mem_of_getElem? (i := 109) rfl)), rfl⟩
set_option maxRecDepth 20000 in
theorem k_1310 : (Jvm.Cond.methodLink "PrunedSearchModel" (320 : Nat) ({ cls := "PrunedSearchModel", name := "put", desc := "(I)V" } : Jvm.MethodName)) ∈ Wt := List.mem_filter.mpr ⟨t_in (t_in6 (List.mem_of_getElem? (i := 110) rfl)), rfl⟩
set_option maxRecDepth 20000 in
theorem k_1312 : (Jvm.Cond.instanceMethod ({ cls := "PrunedSearchModel", name := "put", desc := "(I)V" } : Jvm.MethodName)) ∈ Wt := List.mem_filter.mpr ⟨t_in (t_in6 (List.mem_of_getElem? (i := 112) rfl)), rfl⟩
set_option maxRecDepth 20000 in
theorem k_1313 : (Jvm.Cond.code ({ cls := "PrunedSearchModel", name := "put", desc := "(I)V" } : Jvm.MethodName) prog_13_method_46_code (2 : Nat) (Option.none : Option Jvm.ClassFile.FieldType)) ∈ Wt := List.mem_filter.mpr ⟨t_in (t_in6 (List.mem_of_getElem? (i := 113) rfl)), rfl⟩
set_option maxRecDepth 20000 in
theorem k_1314 : (Jvm.Cond.methodLink "PrunedSearchModel" (337 : Nat) ({ cls := "PrunedSearchModel", name := "writeTerm", desc := "(III)I" } : Jvm.MethodName)) ∈ Wt := List.mem_filter.mpr ⟨t_in (t_in6 (List.mem_of_getElem? (i := 114) rfl)), rfl⟩
set_option maxRecDepth 20000 in
theorem k_1316 : (Jvm.Cond.instanceMethod ({ cls := "PrunedSearchModel", name := "writeTerm", desc := "(III)I" } : Jvm.MethodName)) ∈ Wt := List.mem_filter.mpr ⟨t_in (t_in6 (List.mem_of_getElem? (i := 116) rfl)), rfl⟩
set_option maxRecDepth 20000 in
theorem k_1317 : (Jvm.Cond.code ({ cls := "PrunedSearchModel", name := "writeTerm", desc := "(III)I" } : Jvm.MethodName) prog_13_method_50_code (8 : Nat) (Option.some Jvm.ClassFile.FieldType.int)) ∈ Wt := List.mem_filter.mpr ⟨t_in (t_in6 (List.mem_of_getElem? (i := 117) rfl)), rfl⟩
set_option maxRecDepth 20000 in
theorem k_1318 : (Jvm.Cond.methodLink "PrunedSearchModel" (326 : Nat) ({ cls := "PrunedSearchModel", name := "putVariable", desc := "(I)V" } : Jvm.MethodName)) ∈ Wt := List.mem_filter.mpr ⟨t_in (t_in6 (List.mem_of_getElem? (i := 118) rfl)), rfl⟩
set_option maxRecDepth 20000 in
theorem k_1320 : (Jvm.Cond.instanceMethod ({ cls := "PrunedSearchModel", name := "putVariable", desc := "(I)V" } : Jvm.MethodName)) ∈ Wt := List.mem_filter.mpr ⟨t_in (t_in6 (List.mem_of_getElem? (i := 120) rfl)), rfl⟩
set_option maxRecDepth 20000 in
theorem k_1321 : (Jvm.Cond.code ({ cls := "PrunedSearchModel", name := "putVariable", desc := "(I)V" } : Jvm.MethodName) prog_13_method_48_code (2 : Nat) (Option.none : Option Jvm.ClassFile.FieldType)) ∈ Wt := List.mem_filter.mpr ⟨t_in (t_in6 (List.mem_of_getElem? (i := 121) rfl)), rfl⟩
set_option maxRecDepth 20000 in
theorem k_1322 : (Jvm.Cond.methodLink "PrunedSearchModel" (333 : Nat) ({ cls := "PrunedSearchModel", name := "putWord", desc := "(J)V" } : Jvm.MethodName)) ∈ Wt := List.mem_filter.mpr ⟨t_in (t_in6 (List.mem_of_getElem? (i := 122) rfl)), rfl⟩
set_option maxRecDepth 20000 in
theorem k_1324 : (Jvm.Cond.instanceMethod ({ cls := "PrunedSearchModel", name := "putWord", desc := "(J)V" } : Jvm.MethodName)) ∈ Wt := List.mem_filter.mpr ⟨t_in (t_in6 (List.mem_of_getElem? (i := 124) rfl)), rfl⟩
set_option maxRecDepth 20000 in
theorem k_1325 : (Jvm.Cond.code ({ cls := "PrunedSearchModel", name := "putWord", desc := "(J)V" } : Jvm.MethodName) prog_13_method_47_code (5 : Nat) (Option.none : Option Jvm.ClassFile.FieldType)) ∈ Wt := List.mem_filter.mpr ⟨t_in (t_in6 (List.mem_of_getElem? (i := 125) rfl)), rfl⟩
set_option maxRecDepth 20000 in
theorem k_1326 : (Jvm.Cond.methodLink "PrunedSearchModel" (340 : Nat) ({ cls := "PrunedSearchModel", name := "writeRest", desc := "(III)I" } : Jvm.MethodName)) ∈ Wt := List.mem_filter.mpr ⟨t_in (t_in6 (List.mem_of_getElem? (i := 126) rfl)), rfl⟩
set_option maxRecDepth 20000 in
theorem k_1328 : (Jvm.Cond.instanceMethod ({ cls := "PrunedSearchModel", name := "writeRest", desc := "(III)I" } : Jvm.MethodName)) ∈ Wt := List.mem_filter.mpr ⟨t_in (t_in6 (List.mem_of_getElem? (i := 128) rfl)), rfl⟩
set_option maxRecDepth 20000 in
theorem k_1329 : (Jvm.Cond.code ({ cls := "PrunedSearchModel", name := "writeRest", desc := "(III)I" } : Jvm.MethodName) prog_13_method_51_code (5 : Nat) (Option.some Jvm.ClassFile.FieldType.int)) ∈ Wt := List.mem_filter.mpr ⟨t_in (t_in6 (List.mem_of_getElem? (i := 129) rfl)), rfl⟩
set_option maxRecDepth 20000 in
theorem kp_39 : Cond.selects "PrunedSearchModel" ⟨"PrunedSearchModel", "read", "(Z)I"⟩ ⟨"PrunedSearchModel", "read", "(Z)I"⟩ ∈ Wt := List.mem_filter.mpr ⟨List.mem_append_left _ (List.mem_of_getElem? (i := 39) rfl), rfl⟩
set_option maxRecDepth 20000 in
theorem kp_40 : Cond.selects "PrunedSearchModel" ⟨"PrunedSearchModel", "beginPiece", "()V"⟩ ⟨"PrunedSearchModel", "beginPiece", "()V"⟩ ∈ Wt := List.mem_filter.mpr ⟨List.mem_append_left _ (List.mem_of_getElem? (i := 40) rfl), rfl⟩
set_option maxRecDepth 20000 in
theorem kp_41 : Cond.selects "PrunedSearchModel" ⟨"PrunedSearchModel", "take", "()V"⟩ ⟨"PrunedSearchModel", "take", "()V"⟩ ∈ Wt := List.mem_filter.mpr ⟨List.mem_append_left _ (List.mem_of_getElem? (i := 41) rfl), rfl⟩
set_option maxRecDepth 20000 in
theorem kp_42 : Cond.selects "PrunedSearchModel" ⟨"PrunedSearchModel", "at", "(I)I"⟩ ⟨"PrunedSearchModel", "at", "(I)I"⟩ ∈ Wt := List.mem_filter.mpr ⟨List.mem_append_left _ (List.mem_of_getElem? (i := 42) rfl), rfl⟩
set_option maxRecDepth 20000 in
theorem kp_43 : Cond.selects "PrunedSearchModel" ⟨"PrunedSearchModel", "push", "(I)Z"⟩ ⟨"PrunedSearchModel", "push", "(I)Z"⟩ ∈ Wt := List.mem_filter.mpr ⟨List.mem_append_left _ (List.mem_of_getElem? (i := 43) rfl), rfl⟩
set_option maxRecDepth 20000 in
theorem kp_44 : Cond.selects "PrunedSearchModel" ⟨"PrunedSearchModel", "outside", "(IZ)I"⟩ ⟨"PrunedSearchModel", "outside", "(IZ)I"⟩ ∈ Wt := List.mem_filter.mpr ⟨List.mem_append_left _ (List.mem_of_getElem? (i := 44) rfl), rfl⟩
set_option maxRecDepth 20000 in
theorem kp_45 : Cond.selects "PrunedSearchModel" ⟨"PrunedSearchModel", "beginGoal", "()V"⟩ ⟨"PrunedSearchModel", "beginGoal", "()V"⟩ ∈ Wt := List.mem_filter.mpr ⟨List.mem_append_left _ (List.mem_of_getElem? (i := 45) rfl), rfl⟩
set_option maxRecDepth 20000 in
theorem kp_46 : Cond.selects "PrunedSearchModel" ⟨"PrunedSearchModel", "emit", "(JI)V"⟩ ⟨"PrunedSearchModel", "emit", "(JI)V"⟩ ∈ Wt := List.mem_filter.mpr ⟨List.mem_append_left _ (List.mem_of_getElem? (i := 46) rfl), rfl⟩
set_option maxRecDepth 20000 in
theorem kp_47 : Cond.selects "PrunedSearchModel" ⟨"PrunedSearchModel", "endPiece", "()V"⟩ ⟨"PrunedSearchModel", "endPiece", "()V"⟩ ∈ Wt := List.mem_filter.mpr ⟨List.mem_append_left _ (List.mem_of_getElem? (i := 47) rfl), rfl⟩
set_option maxRecDepth 20000 in
theorem kp_48 : Cond.selects "PrunedSearchModel" ⟨"PrunedSearchModel", "beginTerm", "()Z"⟩ ⟨"PrunedSearchModel", "beginTerm", "()Z"⟩ ∈ Wt := List.mem_filter.mpr ⟨List.mem_append_left _ (List.mem_of_getElem? (i := 48) rfl), rfl⟩
set_option maxRecDepth 20000 in
theorem kp_49 : Cond.selects "PrunedSearchModel" ⟨"PrunedSearchModel", "emitVariable", "()V"⟩ ⟨"PrunedSearchModel", "emitVariable", "()V"⟩ ∈ Wt := List.mem_filter.mpr ⟨List.mem_append_left _ (List.mem_of_getElem? (i := 49) rfl), rfl⟩
set_option maxRecDepth 20000 in
theorem kp_50 : Cond.selects "PrunedSearchModel" ⟨"PrunedSearchModel", "goOn", "()Z"⟩ ⟨"PrunedSearchModel", "goOn", "()Z"⟩ ∈ Wt := List.mem_filter.mpr ⟨List.mem_append_left _ (List.mem_of_getElem? (i := 50) rfl), rfl⟩
set_option maxRecDepth 20000 in
theorem kp_51 : Cond.selects "PrunedSearchModel" ⟨"PrunedSearchModel", "noSearch", "()V"⟩ ⟨"PrunedSearchModel", "noSearch", "()V"⟩ ∈ Wt := List.mem_filter.mpr ⟨List.mem_append_left _ (List.mem_of_getElem? (i := 51) rfl), rfl⟩
set_option maxRecDepth 20000 in
theorem kp_52 : Cond.selects "PrunedSearchModel" ⟨"PrunedSearchModel", "tooMuch", "(I)Z"⟩ ⟨"PrunedSearchModel", "tooMuch", "(I)Z"⟩ ∈ Wt := List.mem_filter.mpr ⟨List.mem_append_left _ (List.mem_of_getElem? (i := 52) rfl), rfl⟩
set_option maxRecDepth 20000 in
theorem kp_53 : Cond.selects "PrunedSearchModel" ⟨"PrunedSearchModel", "endOf", "(I)I"⟩ ⟨"PrunedSearchModel", "endOf", "(I)I"⟩ ∈ Wt := List.mem_filter.mpr ⟨List.mem_append_left _ (List.mem_of_getElem? (i := 53) rfl), rfl⟩
set_option maxRecDepth 20000 in
theorem kp_54 : Cond.selects "PrunedSearchModel" ⟨"PrunedSearchModel", "addNames", "()I"⟩ ⟨"PrunedSearchModel", "addNames", "()I"⟩ ∈ Wt := List.mem_filter.mpr ⟨List.mem_append_left _ (List.mem_of_getElem? (i := 54) rfl), rfl⟩
set_option maxRecDepth 20000 in
theorem kp_55 : Cond.selects "PrunedSearchModel" ⟨"PrunedSearchModel", "keep", "(III)V"⟩ ⟨"PrunedSearchModel", "keep", "(III)V"⟩ ∈ Wt := List.mem_filter.mpr ⟨List.mem_append_left _ (List.mem_of_getElem? (i := 55) rfl), rfl⟩
set_option maxRecDepth 20000 in
theorem kp_56 : Cond.selects "PrunedSearchModel" ⟨"PrunedSearchModel", "begin", "()V"⟩ ⟨"PrunedSearchModel", "begin", "()V"⟩ ∈ Wt := List.mem_filter.mpr ⟨List.mem_append_left _ (List.mem_of_getElem? (i := 56) rfl), rfl⟩
set_option maxRecDepth 20000 in
theorem kp_57 : Cond.selects "PrunedSearchModel" ⟨"PrunedSearchModel", "clearFrame", "(I)V"⟩ ⟨"PrunedSearchModel", "clearFrame", "(I)V"⟩ ∈ Wt := List.mem_filter.mpr ⟨List.mem_append_left _ (List.mem_of_getElem? (i := 57) rfl), rfl⟩
set_option maxRecDepth 20000 in
theorem kp_58 : Cond.selects "PrunedSearchModel" ⟨"PrunedSearchModel", "prepend", "(III)V"⟩ ⟨"PrunedSearchModel", "prepend", "(III)V"⟩ ∈ Wt := List.mem_filter.mpr ⟨List.mem_append_left _ (List.mem_of_getElem? (i := 58) rfl), rfl⟩
set_option maxRecDepth 20000 in
theorem kp_59 : Cond.selects "PrunedSearchModel" ⟨"PrunedSearchModel", "end", "(I)V"⟩ ⟨"PrunedSearchModel", "end", "(I)V"⟩ ∈ Wt := List.mem_filter.mpr ⟨List.mem_append_left _ (List.mem_of_getElem? (i := 59) rfl), rfl⟩
set_option maxRecDepth 20000 in
theorem kp_60 : Cond.selects "PrunedSearchModel" ⟨"PrunedSearchModel", "step", "()V"⟩ ⟨"PrunedSearchModel", "step", "()V"⟩ ∈ Wt := List.mem_filter.mpr ⟨List.mem_append_left _ (List.mem_of_getElem? (i := 60) rfl), rfl⟩
set_option maxRecDepth 20000 in
theorem kp_61 : Cond.selects "PrunedSearchModel" ⟨"PrunedSearchModel", "forward", "()V"⟩ ⟨"PrunedSearchModel", "forward", "()V"⟩ ∈ Wt := List.mem_filter.mpr ⟨List.mem_append_left _ (List.mem_of_getElem? (i := 61) rfl), rfl⟩
set_option maxRecDepth 20000 in
theorem kp_62 : Cond.selects "PrunedSearchModel" ⟨"PrunedSearchModel", "isWordAlone", "(IJ)Z"⟩ ⟨"PrunedSearchModel", "isWordAlone", "(IJ)Z"⟩ ∈ Wt := List.mem_filter.mpr ⟨List.mem_append_left _ (List.mem_of_getElem? (i := 62) rfl), rfl⟩
set_option maxRecDepth 20000 in
theorem kp_63 : Cond.selects "PrunedSearchModel" ⟨"PrunedSearchModel", "candidate", "(III)I"⟩ ⟨"PrunedSearchModel", "candidate", "(III)I"⟩ ∈ Wt := List.mem_filter.mpr ⟨List.mem_append_left _ (List.mem_of_getElem? (i := 63) rfl), rfl⟩
set_option maxRecDepth 20000 in
theorem kp_64 : Cond.selects "PrunedSearchModel" ⟨"PrunedSearchModel", "follow", "(II)V"⟩ ⟨"PrunedSearchModel", "follow", "(II)V"⟩ ∈ Wt := List.mem_filter.mpr ⟨List.mem_append_left _ (List.mem_of_getElem? (i := 64) rfl), rfl⟩
set_option maxRecDepth 20000 in
theorem kp_65 : Cond.selects "PrunedSearchModel" ⟨"PrunedSearchModel", "resolve", "(II)V"⟩ ⟨"PrunedSearchModel", "resolve", "(II)V"⟩ ∈ Wt := List.mem_filter.mpr ⟨List.mem_append_left _ (List.mem_of_getElem? (i := 65) rfl), rfl⟩
set_option maxRecDepth 20000 in
theorem kp_66 : Cond.selects "PrunedSearchModel" ⟨"PrunedSearchModel", "equalize", "(IIII)Z"⟩ ⟨"PrunedSearchModel", "equalize", "(IIII)Z"⟩ ∈ Wt := List.mem_filter.mpr ⟨List.mem_append_left _ (List.mem_of_getElem? (i := 66) rfl), rfl⟩
set_option maxRecDepth 20000 in
theorem kp_67 : Cond.selects "PrunedSearchModel" ⟨"PrunedSearchModel", "bind", "(IIII)Z"⟩ ⟨"PrunedSearchModel", "bind", "(IIII)Z"⟩ ∈ Wt := List.mem_filter.mpr ⟨List.mem_append_left _ (List.mem_of_getElem? (i := 67) rfl), rfl⟩
set_option maxRecDepth 20000 in
theorem kp_68 : Cond.selects "PrunedSearchModel" ⟨"PrunedSearchModel", "stands", "(IIII)Z"⟩ ⟨"PrunedSearchModel", "stands", "(IIII)Z"⟩ ∈ Wt := List.mem_filter.mpr ⟨List.mem_append_left _ (List.mem_of_getElem? (i := 68) rfl), rfl⟩
set_option maxRecDepth 20000 in
theorem kp_69 : Cond.selects "PrunedSearchModel" ⟨"PrunedSearchModel", "pushAll", "(III)I"⟩ ⟨"PrunedSearchModel", "pushAll", "(III)I"⟩ ∈ Wt := List.mem_filter.mpr ⟨List.mem_append_left _ (List.mem_of_getElem? (i := 69) rfl), rfl⟩
set_option maxRecDepth 20000 in
theorem kp_70 : Cond.selects "PrunedSearchModel" ⟨"PrunedSearchModel", "behind", "(I)I"⟩ ⟨"PrunedSearchModel", "behind", "(I)I"⟩ ∈ Wt := List.mem_filter.mpr ⟨List.mem_append_left _ (List.mem_of_getElem? (i := 70) rfl), rfl⟩
set_option maxRecDepth 20000 in
theorem kp_71 : Cond.selects "PrunedSearchModel" ⟨"PrunedSearchModel", "large", "()Z"⟩ ⟨"PrunedSearchModel", "large", "()Z"⟩ ∈ Wt := List.mem_filter.mpr ⟨List.mem_append_left _ (List.mem_of_getElem? (i := 71) rfl), rfl⟩
set_option maxRecDepth 20000 in
theorem kp_72 : Cond.selects "PrunedSearchModel" ⟨"PrunedSearchModel", "symbolsOf", "(II)I"⟩ ⟨"PrunedSearchModel", "symbolsOf", "(II)I"⟩ ∈ Wt := List.mem_filter.mpr ⟨List.mem_append_left _ (List.mem_of_getElem? (i := 72) rfl), rfl⟩
set_option maxRecDepth 20000 in
theorem kp_73 : Cond.selects "PrunedSearchModel" ⟨"PrunedSearchModel", "back", "()V"⟩ ⟨"PrunedSearchModel", "back", "()V"⟩ ∈ Wt := List.mem_filter.mpr ⟨List.mem_append_left _ (List.mem_of_getElem? (i := 73) rfl), rfl⟩
set_option maxRecDepth 20000 in
theorem kp_74 : Cond.selects "PrunedSearchModel" ⟨"PrunedSearchModel", "again", "(I)V"⟩ ⟨"PrunedSearchModel", "again", "(I)V"⟩ ∈ Wt := List.mem_filter.mpr ⟨List.mem_append_left _ (List.mem_of_getElem? (i := 74) rfl), rfl⟩
set_option maxRecDepth 20000 in
theorem kp_75 : Cond.selects "PrunedSearchModel" ⟨"PrunedSearchModel", "strip", "()V"⟩ ⟨"PrunedSearchModel", "strip", "()V"⟩ ∈ Wt := List.mem_filter.mpr ⟨List.mem_append_left _ (List.mem_of_getElem? (i := 75) rfl), rfl⟩
set_option maxRecDepth 20000 in
theorem kp_76 : Cond.selects "PrunedSearchModel" ⟨"PrunedSearchModel", "write", "(I)V"⟩ ⟨"PrunedSearchModel", "write", "(I)V"⟩ ∈ Wt := List.mem_filter.mpr ⟨List.mem_append_left _ (List.mem_of_getElem? (i := 76) rfl), rfl⟩
set_option maxRecDepth 20000 in
theorem kp_77 : Cond.selects "PrunedSearchModel" ⟨"PrunedSearchModel", "later", "(IIII)I"⟩ ⟨"PrunedSearchModel", "later", "(IIII)I"⟩ ∈ Wt := List.mem_filter.mpr ⟨List.mem_append_left _ (List.mem_of_getElem? (i := 77) rfl), rfl⟩
set_option maxRecDepth 20000 in
theorem kp_78 : Cond.selects "PrunedSearchModel" ⟨"PrunedSearchModel", "put", "(I)V"⟩ ⟨"PrunedSearchModel", "put", "(I)V"⟩ ∈ Wt := List.mem_filter.mpr ⟨List.mem_append_left _ (List.mem_of_getElem? (i := 78) rfl), rfl⟩
set_option maxRecDepth 20000 in
theorem kp_79 : Cond.selects "PrunedSearchModel" ⟨"PrunedSearchModel", "writeTerm", "(III)I"⟩ ⟨"PrunedSearchModel", "writeTerm", "(III)I"⟩ ∈ Wt := List.mem_filter.mpr ⟨List.mem_append_left _ (List.mem_of_getElem? (i := 79) rfl), rfl⟩
set_option maxRecDepth 20000 in
theorem kp_80 : Cond.selects "PrunedSearchModel" ⟨"PrunedSearchModel", "putVariable", "(I)V"⟩ ⟨"PrunedSearchModel", "putVariable", "(I)V"⟩ ∈ Wt := List.mem_filter.mpr ⟨List.mem_append_left _ (List.mem_of_getElem? (i := 80) rfl), rfl⟩
set_option maxRecDepth 20000 in
theorem kp_81 : Cond.selects "PrunedSearchModel" ⟨"PrunedSearchModel", "putWord", "(J)V"⟩ ⟨"PrunedSearchModel", "putWord", "(J)V"⟩ ∈ Wt := List.mem_filter.mpr ⟨List.mem_append_left _ (List.mem_of_getElem? (i := 81) rfl), rfl⟩
set_option maxRecDepth 20000 in
theorem kp_82 : Cond.selects "PrunedSearchModel" ⟨"PrunedSearchModel", "writeRest", "(III)I"⟩ ⟨"PrunedSearchModel", "writeRest", "(III)I"⟩ ∈ Wt := List.mem_filter.mpr ⟨List.mem_append_left _ (List.mem_of_getElem? (i := 82) rfl), rfl⟩
theorem pd_0 : (⟨"PrunedSearchModel", "isSmall", "(I)Z"⟩ : MethodName).cls ≠ "java/lang/invoke/MethodHandle" ∧ (⟨"PrunedSearchModel", "isSmall", "(I)Z"⟩ : MethodName).cls ≠ "java/lang/invoke/VarHandle" ∧ (parseMethodDescriptor (⟨"PrunedSearchModel", "isSmall", "(I)Z"⟩ : MethodName).desc).map (fun d => d.parameters.length) = some 1 := by decide +kernel
theorem pd_1 : (⟨"PrunedSearchModel", "isSign", "(I)Z"⟩ : MethodName).cls ≠ "java/lang/invoke/MethodHandle" ∧ (⟨"PrunedSearchModel", "isSign", "(I)Z"⟩ : MethodName).cls ≠ "java/lang/invoke/VarHandle" ∧ (parseMethodDescriptor (⟨"PrunedSearchModel", "isSign", "(I)Z"⟩ : MethodName).desc).map (fun d => d.parameters.length) = some 1 := by decide +kernel
theorem pd_2 : (⟨"PrunedSearchModel", "isWord", "(I)Z"⟩ : MethodName).cls ≠ "java/lang/invoke/MethodHandle" ∧ (⟨"PrunedSearchModel", "isWord", "(I)Z"⟩ : MethodName).cls ≠ "java/lang/invoke/VarHandle" ∧ (parseMethodDescriptor (⟨"PrunedSearchModel", "isWord", "(I)Z"⟩ : MethodName).desc).map (fun d => d.parameters.length) = some 1 := by decide +kernel
theorem pd_3 : (⟨"PrunedSearchModel", "at", "(I)I"⟩ : MethodName).cls ≠ "java/lang/invoke/MethodHandle" ∧ (⟨"PrunedSearchModel", "at", "(I)I"⟩ : MethodName).cls ≠ "java/lang/invoke/VarHandle" ∧ (parseMethodDescriptor (⟨"PrunedSearchModel", "at", "(I)I"⟩ : MethodName).desc).map (fun d => d.parameters.length) = some 1 := by decide +kernel
theorem pd_4 : (⟨"PrunedSearchModel", "endPiece", "()V"⟩ : MethodName).cls ≠ "java/lang/invoke/MethodHandle" ∧ (⟨"PrunedSearchModel", "endPiece", "()V"⟩ : MethodName).cls ≠ "java/lang/invoke/VarHandle" ∧ (parseMethodDescriptor (⟨"PrunedSearchModel", "endPiece", "()V"⟩ : MethodName).desc).map (fun d => d.parameters.length) = some 0 := by decide +kernel
theorem pd_5 : (⟨"PrunedSearchModel", "emit", "(JI)V"⟩ : MethodName).cls ≠ "java/lang/invoke/MethodHandle" ∧ (⟨"PrunedSearchModel", "emit", "(JI)V"⟩ : MethodName).cls ≠ "java/lang/invoke/VarHandle" ∧ (parseMethodDescriptor (⟨"PrunedSearchModel", "emit", "(JI)V"⟩ : MethodName).desc).map (fun d => d.parameters.length) = some 2 := by decide +kernel
theorem pd_6 : (⟨"PrunedSearchModel", "beginGoal", "()V"⟩ : MethodName).cls ≠ "java/lang/invoke/MethodHandle" ∧ (⟨"PrunedSearchModel", "beginGoal", "()V"⟩ : MethodName).cls ≠ "java/lang/invoke/VarHandle" ∧ (parseMethodDescriptor (⟨"PrunedSearchModel", "beginGoal", "()V"⟩ : MethodName).desc).map (fun d => d.parameters.length) = some 0 := by decide +kernel
theorem pd_7 : (⟨"PrunedSearchModel", "beginPiece", "()V"⟩ : MethodName).cls ≠ "java/lang/invoke/MethodHandle" ∧ (⟨"PrunedSearchModel", "beginPiece", "()V"⟩ : MethodName).cls ≠ "java/lang/invoke/VarHandle" ∧ (parseMethodDescriptor (⟨"PrunedSearchModel", "beginPiece", "()V"⟩ : MethodName).desc).map (fun d => d.parameters.length) = some 0 := by decide +kernel
theorem pd_8 : (⟨"PrunedSearchModel", "push", "(I)Z"⟩ : MethodName).cls ≠ "java/lang/invoke/MethodHandle" ∧ (⟨"PrunedSearchModel", "push", "(I)Z"⟩ : MethodName).cls ≠ "java/lang/invoke/VarHandle" ∧ (parseMethodDescriptor (⟨"PrunedSearchModel", "push", "(I)Z"⟩ : MethodName).desc).map (fun d => d.parameters.length) = some 1 := by decide +kernel
theorem pd_9 : (⟨"PrunedSearchModel", "emitVariable", "()V"⟩ : MethodName).cls ≠ "java/lang/invoke/MethodHandle" ∧ (⟨"PrunedSearchModel", "emitVariable", "()V"⟩ : MethodName).cls ≠ "java/lang/invoke/VarHandle" ∧ (parseMethodDescriptor (⟨"PrunedSearchModel", "emitVariable", "()V"⟩ : MethodName).desc).map (fun d => d.parameters.length) = some 0 := by decide +kernel
theorem pd_10 : (⟨"PrunedSearchModel", "goOn", "()Z"⟩ : MethodName).cls ≠ "java/lang/invoke/MethodHandle" ∧ (⟨"PrunedSearchModel", "goOn", "()Z"⟩ : MethodName).cls ≠ "java/lang/invoke/VarHandle" ∧ (parseMethodDescriptor (⟨"PrunedSearchModel", "goOn", "()Z"⟩ : MethodName).desc).map (fun d => d.parameters.length) = some 0 := by decide +kernel
theorem pd_11 : (⟨"PrunedSearchModel", "beginTerm", "()Z"⟩ : MethodName).cls ≠ "java/lang/invoke/MethodHandle" ∧ (⟨"PrunedSearchModel", "beginTerm", "()Z"⟩ : MethodName).cls ≠ "java/lang/invoke/VarHandle" ∧ (parseMethodDescriptor (⟨"PrunedSearchModel", "beginTerm", "()Z"⟩ : MethodName).desc).map (fun d => d.parameters.length) = some 0 := by decide +kernel
theorem pd_12 : (⟨"PrunedSearchModel", "outside", "(IZ)I"⟩ : MethodName).cls ≠ "java/lang/invoke/MethodHandle" ∧ (⟨"PrunedSearchModel", "outside", "(IZ)I"⟩ : MethodName).cls ≠ "java/lang/invoke/VarHandle" ∧ (parseMethodDescriptor (⟨"PrunedSearchModel", "outside", "(IZ)I"⟩ : MethodName).desc).map (fun d => d.parameters.length) = some 2 := by decide +kernel
theorem pd_13 : (⟨"PrunedSearchModel", "take", "()V"⟩ : MethodName).cls ≠ "java/lang/invoke/MethodHandle" ∧ (⟨"PrunedSearchModel", "take", "()V"⟩ : MethodName).cls ≠ "java/lang/invoke/VarHandle" ∧ (parseMethodDescriptor (⟨"PrunedSearchModel", "take", "()V"⟩ : MethodName).desc).map (fun d => d.parameters.length) = some 0 := by decide +kernel
theorem pd_14 : (⟨"PrunedSearchModel", "endOf", "(I)I"⟩ : MethodName).cls ≠ "java/lang/invoke/MethodHandle" ∧ (⟨"PrunedSearchModel", "endOf", "(I)I"⟩ : MethodName).cls ≠ "java/lang/invoke/VarHandle" ∧ (parseMethodDescriptor (⟨"PrunedSearchModel", "endOf", "(I)I"⟩ : MethodName).desc).map (fun d => d.parameters.length) = some 1 := by decide +kernel
theorem pd_15 : (⟨"PrunedSearchModel", "keep", "(III)V"⟩ : MethodName).cls ≠ "java/lang/invoke/MethodHandle" ∧ (⟨"PrunedSearchModel", "keep", "(III)V"⟩ : MethodName).cls ≠ "java/lang/invoke/VarHandle" ∧ (parseMethodDescriptor (⟨"PrunedSearchModel", "keep", "(III)V"⟩ : MethodName).desc).map (fun d => d.parameters.length) = some 3 := by decide +kernel
theorem pd_16 : (⟨"PrunedSearchModel", "addNames", "()I"⟩ : MethodName).cls ≠ "java/lang/invoke/MethodHandle" ∧ (⟨"PrunedSearchModel", "addNames", "()I"⟩ : MethodName).cls ≠ "java/lang/invoke/VarHandle" ∧ (parseMethodDescriptor (⟨"PrunedSearchModel", "addNames", "()I"⟩ : MethodName).desc).map (fun d => d.parameters.length) = some 0 := by decide +kernel
theorem pd_17 : (⟨"PrunedSearchModel", "tooMuch", "(I)Z"⟩ : MethodName).cls ≠ "java/lang/invoke/MethodHandle" ∧ (⟨"PrunedSearchModel", "tooMuch", "(I)Z"⟩ : MethodName).cls ≠ "java/lang/invoke/VarHandle" ∧ (parseMethodDescriptor (⟨"PrunedSearchModel", "tooMuch", "(I)Z"⟩ : MethodName).desc).map (fun d => d.parameters.length) = some 1 := by decide +kernel
theorem pd_18 : (⟨"PrunedSearchModel", "noSearch", "()V"⟩ : MethodName).cls ≠ "java/lang/invoke/MethodHandle" ∧ (⟨"PrunedSearchModel", "noSearch", "()V"⟩ : MethodName).cls ≠ "java/lang/invoke/VarHandle" ∧ (parseMethodDescriptor (⟨"PrunedSearchModel", "noSearch", "()V"⟩ : MethodName).desc).map (fun d => d.parameters.length) = some 0 := by decide +kernel
theorem pd_19 : (⟨"PrunedSearchModel", "read", "(Z)I"⟩ : MethodName).cls ≠ "java/lang/invoke/MethodHandle" ∧ (⟨"PrunedSearchModel", "read", "(Z)I"⟩ : MethodName).cls ≠ "java/lang/invoke/VarHandle" ∧ (parseMethodDescriptor (⟨"PrunedSearchModel", "read", "(Z)I"⟩ : MethodName).desc).map (fun d => d.parameters.length) = some 1 := by decide +kernel
theorem pd_20 : (⟨"PrunedSearchModel", "prepend", "(III)V"⟩ : MethodName).cls ≠ "java/lang/invoke/MethodHandle" ∧ (⟨"PrunedSearchModel", "prepend", "(III)V"⟩ : MethodName).cls ≠ "java/lang/invoke/VarHandle" ∧ (parseMethodDescriptor (⟨"PrunedSearchModel", "prepend", "(III)V"⟩ : MethodName).desc).map (fun d => d.parameters.length) = some 3 := by decide +kernel
theorem pd_21 : (⟨"PrunedSearchModel", "clearFrame", "(I)V"⟩ : MethodName).cls ≠ "java/lang/invoke/MethodHandle" ∧ (⟨"PrunedSearchModel", "clearFrame", "(I)V"⟩ : MethodName).cls ≠ "java/lang/invoke/VarHandle" ∧ (parseMethodDescriptor (⟨"PrunedSearchModel", "clearFrame", "(I)V"⟩ : MethodName).desc).map (fun d => d.parameters.length) = some 1 := by decide +kernel
theorem pd_22 : (⟨"PrunedSearchModel", "begin", "()V"⟩ : MethodName).cls ≠ "java/lang/invoke/MethodHandle" ∧ (⟨"PrunedSearchModel", "begin", "()V"⟩ : MethodName).cls ≠ "java/lang/invoke/VarHandle" ∧ (parseMethodDescriptor (⟨"PrunedSearchModel", "begin", "()V"⟩ : MethodName).desc).map (fun d => d.parameters.length) = some 0 := by decide +kernel
theorem pd_23 : (⟨"PrunedSearchModel", "follow", "(II)V"⟩ : MethodName).cls ≠ "java/lang/invoke/MethodHandle" ∧ (⟨"PrunedSearchModel", "follow", "(II)V"⟩ : MethodName).cls ≠ "java/lang/invoke/VarHandle" ∧ (parseMethodDescriptor (⟨"PrunedSearchModel", "follow", "(II)V"⟩ : MethodName).desc).map (fun d => d.parameters.length) = some 2 := by decide +kernel
theorem pd_24 : (⟨"PrunedSearchModel", "behind", "(I)I"⟩ : MethodName).cls ≠ "java/lang/invoke/MethodHandle" ∧ (⟨"PrunedSearchModel", "behind", "(I)I"⟩ : MethodName).cls ≠ "java/lang/invoke/VarHandle" ∧ (parseMethodDescriptor (⟨"PrunedSearchModel", "behind", "(I)I"⟩ : MethodName).desc).map (fun d => d.parameters.length) = some 1 := by decide +kernel
theorem pd_25 : (⟨"PrunedSearchModel", "pushAll", "(III)I"⟩ : MethodName).cls ≠ "java/lang/invoke/MethodHandle" ∧ (⟨"PrunedSearchModel", "pushAll", "(III)I"⟩ : MethodName).cls ≠ "java/lang/invoke/VarHandle" ∧ (parseMethodDescriptor (⟨"PrunedSearchModel", "pushAll", "(III)I"⟩ : MethodName).desc).map (fun d => d.parameters.length) = some 3 := by decide +kernel
theorem pd_26 : (⟨"PrunedSearchModel", "stands", "(IIII)Z"⟩ : MethodName).cls ≠ "java/lang/invoke/MethodHandle" ∧ (⟨"PrunedSearchModel", "stands", "(IIII)Z"⟩ : MethodName).cls ≠ "java/lang/invoke/VarHandle" ∧ (parseMethodDescriptor (⟨"PrunedSearchModel", "stands", "(IIII)Z"⟩ : MethodName).desc).map (fun d => d.parameters.length) = some 4 := by decide +kernel
theorem pd_27 : (⟨"PrunedSearchModel", "bind", "(IIII)Z"⟩ : MethodName).cls ≠ "java/lang/invoke/MethodHandle" ∧ (⟨"PrunedSearchModel", "bind", "(IIII)Z"⟩ : MethodName).cls ≠ "java/lang/invoke/VarHandle" ∧ (parseMethodDescriptor (⟨"PrunedSearchModel", "bind", "(IIII)Z"⟩ : MethodName).desc).map (fun d => d.parameters.length) = some 4 := by decide +kernel
theorem pd_28 : (⟨"PrunedSearchModel", "symbolsOf", "(II)I"⟩ : MethodName).cls ≠ "java/lang/invoke/MethodHandle" ∧ (⟨"PrunedSearchModel", "symbolsOf", "(II)I"⟩ : MethodName).cls ≠ "java/lang/invoke/VarHandle" ∧ (parseMethodDescriptor (⟨"PrunedSearchModel", "symbolsOf", "(II)I"⟩ : MethodName).desc).map (fun d => d.parameters.length) = some 2 := by decide +kernel
theorem pd_29 : (⟨"PrunedSearchModel", "end", "(I)V"⟩ : MethodName).cls ≠ "java/lang/invoke/MethodHandle" ∧ (⟨"PrunedSearchModel", "end", "(I)V"⟩ : MethodName).cls ≠ "java/lang/invoke/VarHandle" ∧ (parseMethodDescriptor (⟨"PrunedSearchModel", "end", "(I)V"⟩ : MethodName).desc).map (fun d => d.parameters.length) = some 1 := by decide +kernel
theorem pd_30 : (⟨"PrunedSearchModel", "large", "()Z"⟩ : MethodName).cls ≠ "java/lang/invoke/MethodHandle" ∧ (⟨"PrunedSearchModel", "large", "()Z"⟩ : MethodName).cls ≠ "java/lang/invoke/VarHandle" ∧ (parseMethodDescriptor (⟨"PrunedSearchModel", "large", "()Z"⟩ : MethodName).desc).map (fun d => d.parameters.length) = some 0 := by decide +kernel
theorem pd_31 : (⟨"PrunedSearchModel", "equalize", "(IIII)Z"⟩ : MethodName).cls ≠ "java/lang/invoke/MethodHandle" ∧ (⟨"PrunedSearchModel", "equalize", "(IIII)Z"⟩ : MethodName).cls ≠ "java/lang/invoke/VarHandle" ∧ (parseMethodDescriptor (⟨"PrunedSearchModel", "equalize", "(IIII)Z"⟩ : MethodName).desc).map (fun d => d.parameters.length) = some 4 := by decide +kernel
theorem pd_32 : (⟨"PrunedSearchModel", "resolve", "(II)V"⟩ : MethodName).cls ≠ "java/lang/invoke/MethodHandle" ∧ (⟨"PrunedSearchModel", "resolve", "(II)V"⟩ : MethodName).cls ≠ "java/lang/invoke/VarHandle" ∧ (parseMethodDescriptor (⟨"PrunedSearchModel", "resolve", "(II)V"⟩ : MethodName).desc).map (fun d => d.parameters.length) = some 2 := by decide +kernel
theorem pd_33 : (⟨"PrunedSearchModel", "candidate", "(III)I"⟩ : MethodName).cls ≠ "java/lang/invoke/MethodHandle" ∧ (⟨"PrunedSearchModel", "candidate", "(III)I"⟩ : MethodName).cls ≠ "java/lang/invoke/VarHandle" ∧ (parseMethodDescriptor (⟨"PrunedSearchModel", "candidate", "(III)I"⟩ : MethodName).desc).map (fun d => d.parameters.length) = some 3 := by decide +kernel
theorem pd_34 : (⟨"PrunedSearchModel", "isWordAlone", "(IJ)Z"⟩ : MethodName).cls ≠ "java/lang/invoke/MethodHandle" ∧ (⟨"PrunedSearchModel", "isWordAlone", "(IJ)Z"⟩ : MethodName).cls ≠ "java/lang/invoke/VarHandle" ∧ (parseMethodDescriptor (⟨"PrunedSearchModel", "isWordAlone", "(IJ)Z"⟩ : MethodName).desc).map (fun d => d.parameters.length) = some 2 := by decide +kernel
theorem pd_35 : (⟨"PrunedSearchModel", "strip", "()V"⟩ : MethodName).cls ≠ "java/lang/invoke/MethodHandle" ∧ (⟨"PrunedSearchModel", "strip", "()V"⟩ : MethodName).cls ≠ "java/lang/invoke/VarHandle" ∧ (parseMethodDescriptor (⟨"PrunedSearchModel", "strip", "()V"⟩ : MethodName).desc).map (fun d => d.parameters.length) = some 0 := by decide +kernel
theorem pd_36 : (⟨"PrunedSearchModel", "again", "(I)V"⟩ : MethodName).cls ≠ "java/lang/invoke/MethodHandle" ∧ (⟨"PrunedSearchModel", "again", "(I)V"⟩ : MethodName).cls ≠ "java/lang/invoke/VarHandle" ∧ (parseMethodDescriptor (⟨"PrunedSearchModel", "again", "(I)V"⟩ : MethodName).desc).map (fun d => d.parameters.length) = some 1 := by decide +kernel
theorem pd_37 : (⟨"PrunedSearchModel", "back", "()V"⟩ : MethodName).cls ≠ "java/lang/invoke/MethodHandle" ∧ (⟨"PrunedSearchModel", "back", "()V"⟩ : MethodName).cls ≠ "java/lang/invoke/VarHandle" ∧ (parseMethodDescriptor (⟨"PrunedSearchModel", "back", "()V"⟩ : MethodName).desc).map (fun d => d.parameters.length) = some 0 := by decide +kernel
theorem pd_38 : (⟨"PrunedSearchModel", "forward", "()V"⟩ : MethodName).cls ≠ "java/lang/invoke/MethodHandle" ∧ (⟨"PrunedSearchModel", "forward", "()V"⟩ : MethodName).cls ≠ "java/lang/invoke/VarHandle" ∧ (parseMethodDescriptor (⟨"PrunedSearchModel", "forward", "()V"⟩ : MethodName).desc).map (fun d => d.parameters.length) = some 0 := by decide +kernel
theorem pd_39 : (⟨"PrunedSearchModel", "step", "()V"⟩ : MethodName).cls ≠ "java/lang/invoke/MethodHandle" ∧ (⟨"PrunedSearchModel", "step", "()V"⟩ : MethodName).cls ≠ "java/lang/invoke/VarHandle" ∧ (parseMethodDescriptor (⟨"PrunedSearchModel", "step", "()V"⟩ : MethodName).desc).map (fun d => d.parameters.length) = some 0 := by decide +kernel
theorem pd_40 : (⟨"PrunedSearchModel", "put", "(I)V"⟩ : MethodName).cls ≠ "java/lang/invoke/MethodHandle" ∧ (⟨"PrunedSearchModel", "put", "(I)V"⟩ : MethodName).cls ≠ "java/lang/invoke/VarHandle" ∧ (parseMethodDescriptor (⟨"PrunedSearchModel", "put", "(I)V"⟩ : MethodName).desc).map (fun d => d.parameters.length) = some 1 := by decide +kernel
theorem pd_41 : (⟨"PrunedSearchModel", "later", "(IIII)I"⟩ : MethodName).cls ≠ "java/lang/invoke/MethodHandle" ∧ (⟨"PrunedSearchModel", "later", "(IIII)I"⟩ : MethodName).cls ≠ "java/lang/invoke/VarHandle" ∧ (parseMethodDescriptor (⟨"PrunedSearchModel", "later", "(IIII)I"⟩ : MethodName).desc).map (fun d => d.parameters.length) = some 4 := by decide +kernel
theorem pd_42 : (⟨"PrunedSearchModel", "putWord", "(J)V"⟩ : MethodName).cls ≠ "java/lang/invoke/MethodHandle" ∧ (⟨"PrunedSearchModel", "putWord", "(J)V"⟩ : MethodName).cls ≠ "java/lang/invoke/VarHandle" ∧ (parseMethodDescriptor (⟨"PrunedSearchModel", "putWord", "(J)V"⟩ : MethodName).desc).map (fun d => d.parameters.length) = some 1 := by decide +kernel
theorem pd_43 : (⟨"PrunedSearchModel", "putVariable", "(I)V"⟩ : MethodName).cls ≠ "java/lang/invoke/MethodHandle" ∧ (⟨"PrunedSearchModel", "putVariable", "(I)V"⟩ : MethodName).cls ≠ "java/lang/invoke/VarHandle" ∧ (parseMethodDescriptor (⟨"PrunedSearchModel", "putVariable", "(I)V"⟩ : MethodName).desc).map (fun d => d.parameters.length) = some 1 := by decide +kernel
theorem pd_44 : (⟨"PrunedSearchModel", "writeRest", "(III)I"⟩ : MethodName).cls ≠ "java/lang/invoke/MethodHandle" ∧ (⟨"PrunedSearchModel", "writeRest", "(III)I"⟩ : MethodName).cls ≠ "java/lang/invoke/VarHandle" ∧ (parseMethodDescriptor (⟨"PrunedSearchModel", "writeRest", "(III)I"⟩ : MethodName).desc).map (fun d => d.parameters.length) = some 3 := by decide +kernel
theorem pd_45 : (⟨"PrunedSearchModel", "writeTerm", "(III)I"⟩ : MethodName).cls ≠ "java/lang/invoke/MethodHandle" ∧ (⟨"PrunedSearchModel", "writeTerm", "(III)I"⟩ : MethodName).cls ≠ "java/lang/invoke/VarHandle" ∧ (parseMethodDescriptor (⟨"PrunedSearchModel", "writeTerm", "(III)I"⟩ : MethodName).desc).map (fun d => d.parameters.length) = some 3 := by decide +kernel
theorem pd_46 : (⟨"PrunedSearchModel", "write", "(I)V"⟩ : MethodName).cls ≠ "java/lang/invoke/MethodHandle" ∧ (⟨"PrunedSearchModel", "write", "(I)V"⟩ : MethodName).cls ≠ "java/lang/invoke/VarHandle" ∧ (parseMethodDescriptor (⟨"PrunedSearchModel", "write", "(I)V"⟩ : MethodName).desc).map (fun d => d.parameters.length) = some 1 := by decide +kernel
