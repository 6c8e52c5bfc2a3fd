/-! printed by wip/gen/drive.py -/
theorem t_in {w : Cond} (h : w ∈ tables_1) : w ∈ lw_tbl := List.mem_append_right _ h
theorem t_in1 {w : Cond} (h : w ∈ tables_1_1) : w ∈ tables_1 := List.mem_append_left _ (h)
theorem t_in2 {w : Cond} (h : w ∈ tables_1_2) : w ∈ tables_1 := List.mem_append_right _ (List.mem_append_left _ (h))
theorem t_in3 {w : Cond} (h : w ∈ tables_1_3) : w ∈ tables_1 := List.mem_append_right _ (List.mem_append_right _ (List.mem_append_left _ (h)))
theorem t_in4 {w : Cond} (h : w ∈ tables_1_4) : w ∈ tables_1 := List.mem_append_right _ (List.mem_append_right _ (List.mem_append_right _ (List.mem_append_left _ (h))))
theorem t_in5 {w : Cond} (h : w ∈ tables_1_5) : w ∈ tables_1 := List.mem_append_right _ (List.mem_append_right _ (List.mem_append_right _ (List.mem_append_right _ (List.mem_append_left _ (h)))))
theorem t_in6 {w : Cond} (h : w ∈ tables_1_6) : w ∈ tables_1 := List.mem_append_right _ (List.mem_append_right _ (List.mem_append_right _ (List.mem_append_right _ (List.mem_append_right _ (h)))))
set_option maxRecDepth 20000 in
theorem k_1 : (Jvm.Cond.initialized "PrunedSearch") ∈ Wt := List.mem_filter.mpr ⟨t_in (t_in1 (List.mem_of_getElem? (i := 1) rfl)), rfl⟩
set_option maxRecDepth 20000 in
theorem k_2 : (Jvm.Cond.initialized "PrunedSearch$Text") ∈ Wt := List.mem_filter.mpr ⟨t_in (t_in1 (List.mem_of_getElem? (i := 2) rfl)), rfl⟩
set_option maxRecDepth 20000 in
theorem k_3 : (Jvm.Cond.initialized "PrunedSearch$Names") ∈ Wt := List.mem_filter.mpr ⟨t_in (t_in1 (List.mem_of_getElem? (i := 3) rfl)), rfl⟩
set_option maxRecDepth 20000 in
theorem k_4 : (Jvm.Cond.initialized "PrunedSearch$Code") ∈ Wt := List.mem_filter.mpr ⟨t_in (t_in1 (List.mem_of_getElem? (i := 4) rfl)), rfl⟩
set_option maxRecDepth 20000 in
theorem k_5 : (Jvm.Cond.initialized "PrunedSearch$ClauseReader") ∈ Wt := List.mem_filter.mpr ⟨t_in (t_in1 (List.mem_of_getElem? (i := 5) rfl)), rfl⟩
set_option maxRecDepth 20000 in
theorem k_6 : (Jvm.Cond.initialized "PrunedSearch$Tokens") ∈ Wt := List.mem_filter.mpr ⟨t_in (t_in1 (List.mem_of_getElem? (i := 6) rfl)), rfl⟩
set_option maxRecDepth 20000 in
theorem k_7 : (Jvm.Cond.initialized "PrunedSearch$Search") ∈ Wt := List.mem_filter.mpr ⟨t_in (t_in1 (List.mem_of_getElem? (i := 7) rfl)), rfl⟩
set_option maxRecDepth 20000 in
theorem k_8 : (Jvm.Cond.initialized "PrunedSearch$Terms") ∈ Wt := List.mem_filter.mpr ⟨t_in (t_in1 (List.mem_of_getElem? (i := 8) rfl)), rfl⟩
set_option maxRecDepth 20000 in
theorem k_9 : (Jvm.Cond.initialized "PrunedSearch$Goals") ∈ Wt := List.mem_filter.mpr ⟨t_in (t_in1 (List.mem_of_getElem? (i := 9) rfl)), rfl⟩
set_option maxRecDepth 20000 in
theorem k_10 : (Jvm.Cond.initialized "PrunedSearch$Choices") ∈ Wt := List.mem_filter.mpr ⟨t_in (t_in1 (List.mem_of_getElem? (i := 10) rfl)), rfl⟩
set_option maxRecDepth 20000 in
theorem k_11 : (Jvm.Cond.initialized "PrunedSearch$TermWriter") ∈ Wt := List.mem_filter.mpr ⟨t_in (t_in1 (List.mem_of_getElem? (i := 11) rfl)), rfl⟩
set_option maxRecDepth 20000 in
theorem k_12 : (Jvm.Cond.initialized "PrunedSearchModel") ∈ Wt := List.mem_filter.mpr ⟨t_in (t_in1 (List.mem_of_getElem? (i := 12) rfl)), rfl⟩
set_option maxRecDepth 20000 in
theorem k_13 : (Jvm.Cond.initialized "java/lang/String") ∈ Wt := List.mem_filter.mpr ⟨t_in (t_in1 (List.mem_of_getElem? (i := 13) rfl)), rfl⟩
set_option maxRecDepth 20000 in
theorem k_14 : (Jvm.Cond.initialized "java/lang/StringLatin1") ∈ Wt := List.mem_filter.mpr ⟨t_in (t_in1 (List.mem_of_getElem? (i := 14) rfl)), rfl⟩
set_option maxRecDepth 20000 in
theorem k_15 : (Jvm.Cond.initialized "java/lang/Math") ∈ Wt := List.mem_filter.mpr ⟨t_in (t_in1 (List.mem_of_getElem? (i := 15) rfl)), rfl⟩
set_option maxRecDepth 20000 in
theorem k_19 : (Jvm.Cond.initialized "java/util/Arrays") ∈ Wt := List.mem_filter.mpr ⟨t_in (t_in1 (List.mem_of_getElem? (i := 19) rfl)), rfl⟩
set_option maxRecDepth 20000 in
theorem k_34 : (Jvm.Cond.fieldLink "PrunedSearch$Text" (9 : Nat) "PrunedSearch$Text" "row" "[C") ∈ Wt := List.mem_filter.mpr ⟨t_in (t_in1 (List.mem_of_getElem? (i := 34) rfl)), rfl⟩
set_option maxRecDepth 20000 in
theorem k_35 : (Jvm.Cond.fieldLink "PrunedSearch$Text" (31 : Nat) "PrunedSearch$Text" "size" "I") ∈ Wt := List.mem_filter.mpr ⟨t_in (t_in1 (List.mem_of_getElem? (i := 35) rfl)), rfl⟩
set_option maxRecDepth 20000 in
theorem k_48 : (Jvm.Cond.fieldLink "PrunedSearch$Names" (9 : Nat) "PrunedSearch$Names" "words" "[J") ∈ Wt := List.mem_filter.mpr ⟨t_in (t_in1 (List.mem_of_getElem? (i := 48) rfl)), rfl⟩
set_option maxRecDepth 20000 in
theorem k_49 : (Jvm.Cond.fieldLink "PrunedSearch$Names" (23 : Nat) "PrunedSearch$Names" "kept" "I") ∈ Wt := List.mem_filter.mpr ⟨t_in (t_in1 (List.mem_of_getElem? (i := 49) rfl)), rfl⟩
set_option maxRecDepth 20000 in
theorem k_50 : (Jvm.Cond.fieldLink "PrunedSearch$Names" (15 : Nat) "PrunedSearch$Names" "count" "I") ∈ Wt := List.mem_filter.mpr ⟨t_in (t_in1 (List.mem_of_getElem? (i := 50) rfl)), rfl⟩
set_option maxRecDepth 20000 in
theorem k_51 : (Jvm.Cond.fieldLink "PrunedSearch$Names" (19 : Nat) "PrunedSearch$Names" "tooMany" "Z") ∈ Wt := List.mem_filter.mpr ⟨t_in (t_in1 (List.mem_of_getElem? (i := 51) rfl)), rfl⟩
set_option maxRecDepth 20000 in
theorem k_68 : (Jvm.Cond.fieldLink "PrunedSearch$Code" (9 : Nat) "PrunedSearch$Code" "symbols" "[I") ∈ Wt := List.mem_filter.mpr ⟨t_in (t_in1 (List.mem_of_getElem? (i := 68) rfl)), rfl⟩
set_option maxRecDepth 20000 in
theorem k_69 : (Jvm.Cond.fieldLink "PrunedSearch$Code" (15 : Nat) "PrunedSearch$Code" "sizes" "[I") ∈ Wt := List.mem_filter.mpr ⟨t_in (t_in1 (List.mem_of_getElem? (i := 69) rfl)), rfl⟩
set_option maxRecDepth 20000 in
theorem k_70 : (Jvm.Cond.fieldLink "PrunedSearch$Code" (18 : Nat) "PrunedSearch$Code" "ends" "[I") ∈ Wt := List.mem_filter.mpr ⟨t_in (t_in1 (List.mem_of_getElem? (i := 70) rfl)), rfl⟩
set_option maxRecDepth 20000 in
theorem k_71 : (Jvm.Cond.fieldLink "PrunedSearch$Code" (21 : Nat) "PrunedSearch$Code" "used" "I") ∈ Wt := List.mem_filter.mpr ⟨t_in (t_in1 (List.mem_of_getElem? (i := 71) rfl)), rfl⟩
set_option maxRecDepth 20000 in
theorem k_72 : (Jvm.Cond.fieldLink "PrunedSearch$Code" (25 : Nat) "PrunedSearch$Code" "parts" "I") ∈ Wt := List.mem_filter.mpr ⟨t_in (t_in1 (List.mem_of_getElem? (i := 72) rfl)), rfl⟩
set_option maxRecDepth 20000 in
theorem k_97 : (Jvm.Cond.fieldLink "PrunedSearch$Tokens" (9 : Nat) "PrunedSearch$Tokens" "kinds" "[C") ∈ Wt := List.mem_filter.mpr ⟨t_in (t_in1 (List.mem_of_getElem? (i := 97) rfl)), rfl⟩
set_option maxRecDepth 20000 in
theorem k_98 : (Jvm.Cond.fieldLink "PrunedSearch$Tokens" (15 : Nat) "PrunedSearch$Tokens" "places" "[I") ∈ Wt := List.mem_filter.mpr ⟨t_in (t_in1 (List.mem_of_getElem? (i := 98) rfl)), rfl⟩
set_option maxRecDepth 20000 in
theorem k_99 : (Jvm.Cond.fieldLink "PrunedSearch$Tokens" (19 : Nat) "PrunedSearch$Tokens" "words" "[J") ∈ Wt := List.mem_filter.mpr ⟨t_in (t_in1 (List.mem_of_getElem? (i := 99) rfl)), rfl⟩
set_option maxRecDepth 20000 in
theorem k_100 : (Jvm.Cond.fieldLink "PrunedSearch$Tokens" (23 : Nat) "PrunedSearch$Tokens" "count" "I") ∈ Wt := List.mem_filter.mpr ⟨t_in (t_in1 (List.mem_of_getElem? (i := 100) rfl)), rfl⟩
set_option maxRecDepth 20000 in
theorem k_112 : (Jvm.Cond.fieldLink "PrunedSearch$ClauseReader" (31 : Nat) "PrunedSearch$ClauseReader" "names" "LPrunedSearch$Names;") ∈ Wt := List.mem_filter.mpr ⟨t_in (t_in1 (List.mem_of_getElem? (i := 112) rfl)), rfl⟩
set_option maxRecDepth 20000 in
theorem k_113 : (Jvm.Cond.fieldLink "PrunedSearch$ClauseReader" (12 : Nat) "PrunedSearch$ClauseReader" "tokens" "LPrunedSearch$Tokens;") ∈ Wt := List.mem_filter.mpr ⟨t_in (t_in1 (List.mem_of_getElem? (i := 113) rfl)), rfl⟩
set_option maxRecDepth 20000 in
theorem k_114 : (Jvm.Cond.fieldLink "PrunedSearch$ClauseReader" (23 : Nat) "PrunedSearch$ClauseReader" "code" "LPrunedSearch$Code;") ∈ Wt := List.mem_filter.mpr ⟨t_in (t_in1 (List.mem_of_getElem? (i := 114) rfl)), rfl⟩
set_option maxRecDepth 20000 in
theorem k_115 : (Jvm.Cond.fieldLink "PrunedSearch$ClauseReader" (27 : Nat) "PrunedSearch$ClauseReader" "variables" "[J") ∈ Wt := List.mem_filter.mpr ⟨t_in (t_in1 (List.mem_of_getElem? (i := 115) rfl)), rfl⟩
set_option maxRecDepth 20000 in
theorem k_116 : (Jvm.Cond.fieldLink "PrunedSearch$ClauseReader" (65 : Nat) "PrunedSearch$ClauseReader" "variableCount" "I") ∈ Wt := List.mem_filter.mpr ⟨t_in (t_in1 (List.mem_of_getElem? (i := 116) rfl)), rfl⟩
set_option maxRecDepth 20000 in
theorem k_117 : (Jvm.Cond.fieldLink "PrunedSearch$ClauseReader" (99 : Nat) "PrunedSearch$ClauseReader" "loneCount" "I") ∈ Wt := List.mem_filter.mpr ⟨t_in (t_in1 (List.mem_of_getElem? (i := 117) rfl)), rfl⟩
set_option maxRecDepth 20000 in
theorem k_118 : (Jvm.Cond.fieldLink "PrunedSearch$ClauseReader" (102 : Nat) "PrunedSearch$ClauseReader" "goalsRead" "I") ∈ Wt := List.mem_filter.mpr ⟨t_in (t_in1 (List.mem_of_getElem? (i := 118) rfl)), rfl⟩
set_option maxRecDepth 20000 in
theorem k_119 : (Jvm.Cond.fieldLink "PrunedSearch$ClauseReader" (78 : Nat) "PrunedSearch$ClauseReader" "open" "I") ∈ Wt := List.mem_filter.mpr ⟨t_in (t_in1 (List.mem_of_getElem? (i := 119) rfl)), rfl⟩
set_option maxRecDepth 20000 in
theorem k_120 : (Jvm.Cond.fieldLink "PrunedSearch$ClauseReader" (75 : Nat) "PrunedSearch$ClauseReader" "next" "I") ∈ Wt := List.mem_filter.mpr ⟨t_in (t_in1 (List.mem_of_getElem? (i := 120) rfl)), rfl⟩
set_option maxRecDepth 20000 in
theorem k_121 : (Jvm.Cond.fieldLink "PrunedSearch$ClauseReader" (47 : Nat) "PrunedSearch$ClauseReader" "much" "Z") ∈ Wt := List.mem_filter.mpr ⟨t_in (t_in1 (List.mem_of_getElem? (i := 121) rfl)), rfl⟩
set_option maxRecDepth 20000 in
theorem k_155 : (Jvm.Cond.fieldLink "PrunedSearch$Terms" (11 : Nat) "PrunedSearch$Terms" "symbols" "[I") ∈ Wt := List.mem_filter.mpr ⟨t_in (t_in1 (List.mem_of_getElem? (i := 155) rfl)), rfl⟩
set_option maxRecDepth 20000 in
theorem k_156 : (Jvm.Cond.fieldLink "PrunedSearch$Terms" (15 : Nat) "PrunedSearch$Terms" "sizes" "[I") ∈ Wt := List.mem_filter.mpr ⟨t_in (t_in1 (List.mem_of_getElem? (i := 156) rfl)), rfl⟩
set_option maxRecDepth 20000 in
theorem k_157 : (Jvm.Cond.fieldLink "PrunedSearch$Terms" (18 : Nat) "PrunedSearch$Terms" "stands" "[I") ∈ Wt := List.mem_filter.mpr ⟨t_in (t_in1 (List.mem_of_getElem? (i := 157) rfl)), rfl⟩
set_option maxRecDepth 20000 in
theorem k_158 : (Jvm.Cond.fieldLink "PrunedSearch$Terms" (21 : Nat) "PrunedSearch$Terms" "marks" "[I") ∈ Wt := List.mem_filter.mpr ⟨t_in (t_in1 (List.mem_of_getElem? (i := 158) rfl)), rfl⟩
set_option maxRecDepth 20000 in
theorem k_159 : (Jvm.Cond.fieldLink "PrunedSearch$Terms" (24 : Nat) "PrunedSearch$Terms" "changed" "[I") ∈ Wt := List.mem_filter.mpr ⟨t_in (t_in1 (List.mem_of_getElem? (i := 159) rfl)), rfl⟩
set_option maxRecDepth 20000 in
theorem k_160 : (Jvm.Cond.fieldLink "PrunedSearch$Terms" (27 : Nat) "PrunedSearch$Terms" "waiting" "[I") ∈ Wt := List.mem_filter.mpr ⟨t_in (t_in1 (List.mem_of_getElem? (i := 160) rfl)), rfl⟩
set_option maxRecDepth 20000 in
theorem k_161 : (Jvm.Cond.fieldLink "PrunedSearch$Terms" (30 : Nat) "PrunedSearch$Terms" "variableCells" "[I") ∈ Wt := List.mem_filter.mpr ⟨t_in (t_in1 (List.mem_of_getElem? (i := 161) rfl)), rfl⟩
set_option maxRecDepth 20000 in
theorem k_162 : (Jvm.Cond.fieldLink "PrunedSearch$Terms" (33 : Nat) "PrunedSearch$Terms" "used" "I") ∈ Wt := List.mem_filter.mpr ⟨t_in (t_in1 (List.mem_of_getElem? (i := 162) rfl)), rfl⟩
set_option maxRecDepth 20000 in
theorem k_163 : (Jvm.Cond.fieldLink "PrunedSearch$Terms" (37 : Nat) "PrunedSearch$Terms" "changes" "I") ∈ Wt := List.mem_filter.mpr ⟨t_in (t_in1 (List.mem_of_getElem? (i := 163) rfl)), rfl⟩
set_option maxRecDepth 20000 in
theorem k_164 : (Jvm.Cond.fieldLink "PrunedSearch$Terms" (68 : Nat) "PrunedSearch$Terms" "waitingCount" "I") ∈ Wt := List.mem_filter.mpr ⟨t_in (t_in1 (List.mem_of_getElem? (i := 164) rfl)), rfl⟩
set_option maxRecDepth 20000 in
theorem k_165 : (Jvm.Cond.fieldLink "PrunedSearch$Terms" (94 : Nat) "PrunedSearch$Terms" "lastMark" "I") ∈ Wt := List.mem_filter.mpr ⟨t_in (t_in1 (List.mem_of_getElem? (i := 165) rfl)), rfl⟩
set_option maxRecDepth 20000 in
theorem k_195 : (Jvm.Cond.fieldLink "PrunedSearch$Goals" (11 : Nat) "PrunedSearch$Goals" "terms" "[I") ∈ Wt := List.mem_filter.mpr ⟨t_in (t_in1 (List.mem_of_getElem? (i := 195) rfl)), rfl⟩
set_option maxRecDepth 20000 in
theorem k_196 : (Jvm.Cond.fieldLink "PrunedSearch$Goals" (15 : Nat) "PrunedSearch$Goals" "cuts" "[I") ∈ Wt := List.mem_filter.mpr ⟨t_in (t_in1 (List.mem_of_getElem? (i := 196) rfl)), rfl⟩
set_option maxRecDepth 20000 in
theorem k_197 : (Jvm.Cond.fieldLink "PrunedSearch$Goals" (18 : Nat) "PrunedSearch$Goals" "behind" "[I") ∈ Wt := List.mem_filter.mpr ⟨t_in (t_in1 (List.mem_of_getElem? (i := 197) rfl)), rfl⟩
set_option maxRecDepth 20000 in
theorem k_198 : (Jvm.Cond.fieldLink "PrunedSearch$Goals" (25 : Nat) "PrunedSearch$Goals" "used" "I") ∈ Wt := List.mem_filter.mpr ⟨t_in (t_in1 (List.mem_of_getElem? (i := 198) rfl)), rfl⟩
set_option maxRecDepth 20000 in
theorem k_199 : (Jvm.Cond.fieldLink "PrunedSearch$Goals" (21 : Nat) "PrunedSearch$Goals" "first" "I") ∈ Wt := List.mem_filter.mpr ⟨t_in (t_in1 (List.mem_of_getElem? (i := 199) rfl)), rfl⟩
set_option maxRecDepth 20000 in
theorem k_217 : (Jvm.Cond.fieldLink "PrunedSearch$Choices" (9 : Nat) "PrunedSearch$Choices" "firstGoals" "[I") ∈ Wt := List.mem_filter.mpr ⟨t_in (t_in1 (List.mem_of_getElem? (i := 217) rfl)), rfl⟩
set_option maxRecDepth 20000 in
theorem k_218 : (Jvm.Cond.fieldLink "PrunedSearch$Choices" (15 : Nat) "PrunedSearch$Choices" "heldGoals" "[I") ∈ Wt := List.mem_filter.mpr ⟨t_in (t_in1 (List.mem_of_getElem? (i := 218) rfl)), rfl⟩
set_option maxRecDepth 20000 in
theorem k_219 : (Jvm.Cond.fieldLink "PrunedSearch$Choices" (18 : Nat) "PrunedSearch$Choices" "cells" "[I") ∈ Wt := List.mem_filter.mpr ⟨t_in (t_in1 (List.mem_of_getElem? (i := 219) rfl)), rfl⟩
set_option maxRecDepth 20000 in
theorem k_220 : (Jvm.Cond.fieldLink "PrunedSearch$Choices" (21 : Nat) "PrunedSearch$Choices" "changes" "[I") ∈ Wt := List.mem_filter.mpr ⟨t_in (t_in1 (List.mem_of_getElem? (i := 220) rfl)), rfl⟩
set_option maxRecDepth 20000 in
theorem k_221 : (Jvm.Cond.fieldLink "PrunedSearch$Choices" (24 : Nat) "PrunedSearch$Choices" "lengths" "[I") ∈ Wt := List.mem_filter.mpr ⟨t_in (t_in1 (List.mem_of_getElem? (i := 221) rfl)), rfl⟩
set_option maxRecDepth 20000 in
theorem k_222 : (Jvm.Cond.fieldLink "PrunedSearch$Choices" (27 : Nat) "PrunedSearch$Choices" "candidates" "[I") ∈ Wt := List.mem_filter.mpr ⟨t_in (t_in1 (List.mem_of_getElem? (i := 222) rfl)), rfl⟩
set_option maxRecDepth 20000 in
theorem k_223 : (Jvm.Cond.fieldLink "PrunedSearch$Choices" (30 : Nat) "PrunedSearch$Choices" "count" "I") ∈ Wt := List.mem_filter.mpr ⟨t_in (t_in1 (List.mem_of_getElem? (i := 223) rfl)), rfl⟩
set_option maxRecDepth 20000 in
theorem k_245 : (Jvm.Cond.fieldLink "PrunedSearch$TermWriter" (25 : Nat) "PrunedSearch$TermWriter" "terms" "LPrunedSearch$Terms;") ∈ Wt := List.mem_filter.mpr ⟨t_in (t_in2 (List.mem_of_getElem? (i := 5) rfl)), rfl⟩
set_option maxRecDepth 20000 in
theorem k_246 : (Jvm.Cond.fieldLink "PrunedSearch$TermWriter" (29 : Nat) "PrunedSearch$TermWriter" "names" "LPrunedSearch$Names;") ∈ Wt := List.mem_filter.mpr ⟨t_in (t_in2 (List.mem_of_getElem? (i := 6) rfl)), rfl⟩
set_option maxRecDepth 20000 in
theorem k_247 : (Jvm.Cond.fieldLink "PrunedSearch$TermWriter" (11 : Nat) "PrunedSearch$TermWriter" "written" "[C") ∈ Wt := List.mem_filter.mpr ⟨t_in (t_in2 (List.mem_of_getElem? (i := 7) rfl)), rfl⟩
set_option maxRecDepth 20000 in
theorem k_248 : (Jvm.Cond.fieldLink "PrunedSearch$TermWriter" (15 : Nat) "PrunedSearch$TermWriter" "ends" "[I") ∈ Wt := List.mem_filter.mpr ⟨t_in (t_in2 (List.mem_of_getElem? (i := 8) rfl)), rfl⟩
set_option maxRecDepth 20000 in
theorem k_249 : (Jvm.Cond.fieldLink "PrunedSearch$TermWriter" (19 : Nat) "PrunedSearch$TermWriter" "free" "[I") ∈ Wt := List.mem_filter.mpr ⟨t_in (t_in2 (List.mem_of_getElem? (i := 9) rfl)), rfl⟩
set_option maxRecDepth 20000 in
theorem k_250 : (Jvm.Cond.fieldLink "PrunedSearch$TermWriter" (22 : Nat) "PrunedSearch$TermWriter" "waiting" "[I") ∈ Wt := List.mem_filter.mpr ⟨t_in (t_in2 (List.mem_of_getElem? (i := 10) rfl)), rfl⟩
set_option maxRecDepth 20000 in
theorem k_251 : (Jvm.Cond.fieldLink "PrunedSearch$TermWriter" (33 : Nat) "PrunedSearch$TermWriter" "size" "I") ∈ Wt := List.mem_filter.mpr ⟨t_in (t_in2 (List.mem_of_getElem? (i := 11) rfl)), rfl⟩
set_option maxRecDepth 20000 in
theorem k_252 : (Jvm.Cond.fieldLink "PrunedSearch$TermWriter" (37 : Nat) "PrunedSearch$TermWriter" "freeCount" "I") ∈ Wt := List.mem_filter.mpr ⟨t_in (t_in2 (List.mem_of_getElem? (i := 12) rfl)), rfl⟩
set_option maxRecDepth 20000 in
theorem k_253 : (Jvm.Cond.fieldLink "PrunedSearch$TermWriter" (51 : Nat) "PrunedSearch$TermWriter" "waitingCount" "I") ∈ Wt := List.mem_filter.mpr ⟨t_in (t_in2 (List.mem_of_getElem? (i := 13) rfl)), rfl⟩
set_option maxRecDepth 20000 in
theorem k_254 : (Jvm.Cond.fieldLink "PrunedSearch$TermWriter" (40 : Nat) "PrunedSearch$TermWriter" "done" "Z") ∈ Wt := List.mem_filter.mpr ⟨t_in (t_in2 (List.mem_of_getElem? (i := 14) rfl)), rfl⟩
set_option maxRecDepth 20000 in
theorem k_276 : (Jvm.Cond.fieldLink "PrunedSearch$Search" (40 : Nat) "PrunedSearch$Search" "program" "LPrunedSearch$Code;") ∈ Wt := List.mem_filter.mpr ⟨t_in (t_in2 (List.mem_of_getElem? (i := 36) rfl)), rfl⟩
set_option maxRecDepth 20000 in
theorem k_277 : (Jvm.Cond.fieldLink "PrunedSearch$Search" (44 : Nat) "PrunedSearch$Search" "names" "LPrunedSearch$Names;") ∈ Wt := List.mem_filter.mpr ⟨t_in (t_in2 (List.mem_of_getElem? (i := 37) rfl)), rfl⟩
set_option maxRecDepth 20000 in
theorem k_278 : (Jvm.Cond.fieldLink "PrunedSearch$Search" (12 : Nat) "PrunedSearch$Search" "terms" "LPrunedSearch$Terms;") ∈ Wt := List.mem_filter.mpr ⟨t_in (t_in2 (List.mem_of_getElem? (i := 38) rfl)), rfl⟩
set_option maxRecDepth 20000 in
theorem k_279 : (Jvm.Cond.fieldLink "PrunedSearch$Search" (21 : Nat) "PrunedSearch$Search" "branch" "LPrunedSearch$Goals;") ∈ Wt := List.mem_filter.mpr ⟨t_in (t_in2 (List.mem_of_getElem? (i := 39) rfl)), rfl⟩
set_option maxRecDepth 20000 in
theorem k_280 : (Jvm.Cond.fieldLink "PrunedSearch$Search" (28 : Nat) "PrunedSearch$Search" "open" "LPrunedSearch$Choices;") ∈ Wt := List.mem_filter.mpr ⟨t_in (t_in2 (List.mem_of_getElem? (i := 40) rfl)), rfl⟩
set_option maxRecDepth 20000 in
theorem k_281 : (Jvm.Cond.fieldLink "PrunedSearch$Search" (53 : Nat) "PrunedSearch$Search" "writer" "LPrunedSearch$TermWriter;") ∈ Wt := List.mem_filter.mpr ⟨t_in (t_in2 (List.mem_of_getElem? (i := 41) rfl)), rfl⟩
set_option maxRecDepth 20000 in
theorem k_282 : (Jvm.Cond.fieldLink "PrunedSearch$Search" (32 : Nat) "PrunedSearch$Search" "asked" "[I") ∈ Wt := List.mem_filter.mpr ⟨t_in (t_in2 (List.mem_of_getElem? (i := 42) rfl)), rfl⟩
set_option maxRecDepth 20000 in
theorem k_283 : (Jvm.Cond.fieldLink "PrunedSearch$Search" (67 : Nat) "PrunedSearch$Search" "askedCount" "I") ∈ Wt := List.mem_filter.mpr ⟨t_in (t_in2 (List.mem_of_getElem? (i := 43) rfl)), rfl⟩
set_option maxRecDepth 20000 in
theorem k_284 : (Jvm.Cond.fieldLink "PrunedSearch$Search" (36 : Nat) "PrunedSearch$Search" "state" "I") ∈ Wt := List.mem_filter.mpr ⟨t_in (t_in2 (List.mem_of_getElem? (i := 44) rfl)), rfl⟩
set_option maxRecDepth 20000 in
theorem k_285 : (Jvm.Cond.fieldLink "PrunedSearch$Search" (57 : Nat) "PrunedSearch$Search" "failed" "Z") ∈ Wt := List.mem_filter.mpr ⟨t_in (t_in2 (List.mem_of_getElem? (i := 45) rfl)), rfl⟩
set_option maxRecDepth 20000 in
theorem k_286 : (Jvm.Cond.fieldLink "PrunedSearch$Search" (61 : Nat) "PrunedSearch$Search" "depth" "I") ∈ Wt := List.mem_filter.mpr ⟨t_in (t_in2 (List.mem_of_getElem? (i := 46) rfl)), rfl⟩
set_option maxRecDepth 20000 in
theorem k_287 : (Jvm.Cond.fieldLink "PrunedSearch$Search" (64 : Nat) "PrunedSearch$Search" "tried" "I") ∈ Wt := List.mem_filter.mpr ⟨t_in (t_in2 (List.mem_of_getElem? (i := 47) rfl)), rfl⟩
set_option maxRecDepth 20000 in
theorem k_288 : (Jvm.Cond.fieldLink "PrunedSearch$Search" (128 : Nat) "PrunedSearch$Search" "taken" "I") ∈ Wt := List.mem_filter.mpr ⟨t_in (t_in2 (List.mem_of_getElem? (i := 48) rfl)), rfl⟩
set_option maxRecDepth 20000 in
theorem k_289 : (Jvm.Cond.fieldLink "PrunedSearch$Search" (134 : Nat) "PrunedSearch$Search" "takenCut" "I") ∈ Wt := List.mem_filter.mpr ⟨t_in (t_in2 (List.mem_of_getElem? (i := 49) rfl)), rfl⟩
set_option maxRecDepth 20000 in
theorem k_319 : (Jvm.Cond.fieldLink "PrunedSearch" (12 : Nat) "PrunedSearch" "text" "LPrunedSearch$Text;") ∈ Wt := List.mem_filter.mpr ⟨t_in (t_in2 (List.mem_of_getElem? (i := 79) rfl)), rfl⟩
set_option maxRecDepth 20000 in
theorem k_320 : (Jvm.Cond.fieldLink "PrunedSearch" (19 : Nat) "PrunedSearch" "names" "LPrunedSearch$Names;") ∈ Wt := List.mem_filter.mpr ⟨t_in (t_in2 (List.mem_of_getElem? (i := 80) rfl)), rfl⟩
set_option maxRecDepth 20000 in
theorem k_321 : (Jvm.Cond.fieldLink "PrunedSearch" (28 : Nat) "PrunedSearch" "program" "LPrunedSearch$Code;") ∈ Wt := List.mem_filter.mpr ⟨t_in (t_in2 (List.mem_of_getElem? (i := 81) rfl)), rfl⟩
set_option maxRecDepth 20000 in
theorem k_322 : (Jvm.Cond.fieldLink "PrunedSearch" (37 : Nat) "PrunedSearch" "reader" "LPrunedSearch$ClauseReader;") ∈ Wt := List.mem_filter.mpr ⟨t_in (t_in2 (List.mem_of_getElem? (i := 82) rfl)), rfl⟩
set_option maxRecDepth 20000 in
theorem k_323 : (Jvm.Cond.fieldLink "PrunedSearch" (46 : Nat) "PrunedSearch" "search" "LPrunedSearch$Search;") ∈ Wt := List.mem_filter.mpr ⟨t_in (t_in2 (List.mem_of_getElem? (i := 83) rfl)), rfl⟩
set_option maxRecDepth 20000 in
theorem k_339 : (Jvm.Cond.methodLink "PrunedSearch" (50 : Nat) ({ cls := "PrunedSearch$Text", name := "add", desc := "(J)Z" } : Jvm.MethodName)) ∈ Wt := List.mem_filter.mpr ⟨t_in (t_in2 (List.mem_of_getElem? (i := 99) rfl)), rfl⟩
set_option maxRecDepth 20000 in
theorem k_340 : (Jvm.Cond.instanceMethod ({ cls := "PrunedSearch$Text", name := "add", desc := "(J)Z" } : Jvm.MethodName)) ∈ Wt := List.mem_filter.mpr ⟨t_in (t_in2 (List.mem_of_getElem? (i := 100) rfl)), rfl⟩
set_option maxRecDepth 20000 in
theorem k_341 : (Jvm.Cond.selects "PrunedSearch$Text" ({ cls := "PrunedSearch$Text", name := "add", desc := "(J)Z" } : Jvm.MethodName) ({ cls := "PrunedSearch$Text", name := "add", desc := "(J)Z" } : Jvm.MethodName)) ∈ Wt := List.mem_filter.mpr ⟨t_in (t_in2 (List.mem_of_getElem? (i := 101) rfl)), rfl⟩
set_option maxRecDepth 20000 in
theorem k_342 : (Jvm.Cond.code ({ cls := "PrunedSearch$Text", name := "add", desc := "(J)Z" } : Jvm.MethodName) prog_10_method_2_code (5 : Nat) (Option.some Jvm.ClassFile.FieldType.boolean)) ∈ Wt := List.mem_filter.mpr ⟨t_in (t_in2 (List.mem_of_getElem? (i := 102) rfl)), rfl⟩
set_option maxRecDepth 20000 in
theorem k_343 : (Jvm.Cond.methodLink "PrunedSearch$Text" (15 : Nat) ({ cls := "PrunedSearch$Text", name := "letterOf", desc := "(JI)C" } : Jvm.MethodName)) ∈ Wt := List.mem_filter.mpr ⟨t_in (t_in2 (List.mem_of_getElem? (i := 103) rfl)), rfl⟩
set_option maxRecDepth 20000 in
theorem k_344 : (Jvm.Cond.static ({ cls := "PrunedSearch$Text", name := "letterOf", desc := "(JI)C" } : Jvm.MethodName)) ∈ Wt := List.mem_filter.mpr ⟨t_in (t_in2 (List.mem_of_getElem? (i := 104) rfl)), rfl⟩
set_option maxRecDepth 20000 in
theorem k_345 : (Jvm.Cond.code ({ cls := "PrunedSearch$Text", name := "letterOf", desc := "(JI)C" } : Jvm.MethodName) prog_10_method_3_code (3 : Nat) (Option.some Jvm.ClassFile.FieldType.char)) ∈ Wt := List.mem_filter.mpr ⟨t_in (t_in2 (List.mem_of_getElem? (i := 105) rfl)), rfl⟩
set_option maxRecDepth 20000 in
theorem k_346 : (Jvm.Cond.constantLong "PrunedSearch$Text" (35 : Nat) (255 : Int64)) ∈ Wt := List.mem_filter.mpr ⟨t_in (t_in2 (List.mem_of_getElem? (i := 106) rfl)), rfl⟩
set_option maxRecDepth 20000 in
theorem k_347 : (Jvm.Cond.methodLinkNest "PrunedSearch$Text" (19 : Nat) ({ cls := "PrunedSearch", name := "isWordLetter", desc := "(C)Z" } : Jvm.MethodName) "PrunedSearch") ∈ lw_tbl := t_in (t_in2 (List.mem_of_getElem? (i := 107) rfl))
set_option maxRecDepth 20000 in
theorem k_348 : (Jvm.Cond.static ({ cls := "PrunedSearch", name := "isWordLetter", desc := "(C)Z" } : Jvm.MethodName)) ∈ Wt := List.mem_filter.mpr ⟨t_in (t_in2 (List.mem_of_getElem? (i := 108) rfl)), rfl⟩
set_option maxRecDepth 20000 in
theorem k_349 : (Jvm.Cond.code ({ cls := "PrunedSearch", name := "isWordLetter", desc := "(C)Z" } : Jvm.MethodName) prog_1_method_14_code (1 : Nat) (Option.some Jvm.ClassFile.FieldType.boolean)) ∈ Wt := List.mem_filter.mpr ⟨t_in (t_in2 (List.mem_of_getElem? (i := 109) rfl)), rfl⟩
set_option maxRecDepth 20000 in
theorem k_350 : (Jvm.Cond.methodLink "PrunedSearch" (106 : Nat) ({ cls := "PrunedSearch", name := "isSmall", desc := "(C)Z" } : Jvm.MethodName)) ∈ Wt := List.mem_filter.mpr ⟨t_in (t_in2 (List.mem_of_getElem? (i := 110) rfl)), rfl⟩
set_option maxRecDepth 20000 in
theorem k_351 : (Jvm.Cond.static ({ cls := "PrunedSearch", name := "isSmall", desc := "(C)Z" } : Jvm.MethodName)) ∈ Wt := List.mem_filter.mpr ⟨t_in (t_in2 (List.mem_of_getElem? (i := 111) rfl)), rfl⟩
set_option maxRecDepth 20000 in
theorem k_352 : (Jvm.Cond.code ({ cls := "PrunedSearch", name := "isSmall", desc := "(C)Z" } : Jvm.MethodName) prog_1_method_13_code (1 : Nat) (Option.some Jvm.ClassFile.FieldType.boolean)) ∈ Wt := List.mem_filter.mpr ⟨t_in (t_in2 (List.mem_of_getElem? (i := 112) rfl)), rfl⟩
set_option maxRecDepth 20000 in
theorem k_354 : (Jvm.Cond.methodLink "PrunedSearch$Text" (25 : Nat) ({ cls := "java/lang/String", name := "indexOf", desc := "(I)I" } : Jvm.MethodName)) ∈ Wt := List.mem_filter.mpr ⟨t_in (t_in2 (List.mem_of_getElem? (i := 114) rfl)), rfl⟩
set_option maxRecDepth 20000 in
theorem k_355 : (Jvm.Cond.instanceMethod ({ cls := "java/lang/String", name := "indexOf", desc := "(I)I" } : Jvm.MethodName)) ∈ Wt := List.mem_filter.mpr ⟨t_in (t_in2 (List.mem_of_getElem? (i := 115) rfl)), rfl⟩
set_option maxRecDepth 20000 in
theorem k_356 : (Jvm.Cond.selects "java/lang/String" ({ cls := "java/lang/String", name := "indexOf", desc := "(I)I" } : Jvm.MethodName) ({ cls := "java/lang/String", name := "indexOf", desc := "(I)I" } : Jvm.MethodName)) ∈ Wt := List.mem_filter.mpr ⟨t_in (t_in2 (List.mem_of_getElem? (i := 116) rfl)), rfl⟩
set_option maxRecDepth 20000 in
theorem k_357 : (Jvm.Cond.code ({ cls := "java/lang/String", name := "indexOf", desc := "(I)I" } : Jvm.MethodName) prog_16_method_79_code (2 : Nat) (Option.some Jvm.ClassFile.FieldType.int)) ∈ Wt := List.mem_filter.mpr ⟨t_in (t_in2 (List.mem_of_getElem? (i := 117) rfl)), rfl⟩
set_option maxRecDepth 20000 in
theorem k_358 : (Jvm.Cond.methodLink "java/lang/String" (633 : Nat) ({ cls := "java/lang/String", name := "indexOf", desc := "(II)I" } : Jvm.MethodName)) ∈ Wt := List.mem_filter.mpr ⟨t_in (t_in2 (List.mem_of_getElem? (i := 118) rfl)), rfl⟩
set_option maxRecDepth 20000 in
theorem k_359 : (Jvm.Cond.instanceMethod ({ cls := "java/lang/String", name := "indexOf", desc := "(II)I" } : Jvm.MethodName)) ∈ Wt := List.mem_filter.mpr ⟨t_in (t_in2 (List.mem_of_getElem? (i := 119) rfl)), rfl⟩
set_option maxRecDepth 20000 in
theorem k_360 : (Jvm.Cond.selects "java/lang/String" ({ cls := "java/lang/String", name := "indexOf", desc := "(II)I" } : Jvm.MethodName) ({ cls := "java/lang/String", name := "indexOf", desc := "(II)I" } : Jvm.MethodName)) ∈ Wt := List.mem_filter.mpr ⟨t_in (t_in2 (List.mem_of_getElem? (i := 120) rfl)), rfl⟩
set_option maxRecDepth 20000 in
theorem k_361 : (Jvm.Cond.code ({ cls := "java/lang/String", name := "indexOf", desc := "(II)I" } : Jvm.MethodName) prog_16_method_80_code (3 : Nat) (Option.some Jvm.ClassFile.FieldType.int)) ∈ Wt := List.mem_filter.mpr ⟨t_in (t_in2 (List.mem_of_getElem? (i := 121) rfl)), rfl⟩
set_option maxRecDepth 20000 in
theorem k_362 : (Jvm.Cond.methodLink "java/lang/String" (492 : Nat) ({ cls := "java/lang/String", name := "isLatin1", desc := "()Z" } : Jvm.MethodName)) ∈ Wt := List.mem_filter.mpr ⟨t_in (t_in2 (List.mem_of_getElem? (i := 122) rfl)), rfl⟩
set_option maxRecDepth 20000 in
theorem k_363 : (Jvm.Cond.instanceMethod ({ cls := "java/lang/String", name := "isLatin1", desc := "()Z" } : Jvm.MethodName)) ∈ Wt := List.mem_filter.mpr ⟨t_in (t_in2 (List.mem_of_getElem? (i := 123) rfl)), rfl⟩
set_option maxRecDepth 20000 in
theorem k_364 : (Jvm.Cond.selects "java/lang/String" ({ cls := "java/lang/String", name := "isLatin1", desc := "()Z" } : Jvm.MethodName) ({ cls := "java/lang/String", name := "isLatin1", desc := "()Z" } : Jvm.MethodName)) ∈ Wt := List.mem_filter.mpr ⟨t_in (t_in2 (List.mem_of_getElem? (i := 124) rfl)), rfl⟩
set_option maxRecDepth 20000 in
theorem k_365 : (Jvm.Cond.code ({ cls := "java/lang/String", name := "isLatin1", desc := "()Z" } : Jvm.MethodName) prog_16_method_154_code (1 : Nat) (Option.some Jvm.ClassFile.FieldType.boolean)) ∈ Wt := List.mem_filter.mpr ⟨t_in (t_in2 (List.mem_of_getElem? (i := 125) rfl)), rfl⟩
set_option maxRecDepth 20000 in
theorem k_366 : (Jvm.Cond.fieldLink "java/lang/String" (38 : Nat) "java/lang/String" "COMPACT_STRINGS" "Z") ∈ Wt := List.mem_filter.mpr ⟨t_in (t_in2 (List.mem_of_getElem? (i := 126) rfl)), rfl⟩
set_option maxRecDepth 20000 in
theorem k_368 : (Jvm.Cond.methodLink "java/lang/String" (505 : Nat) ({ cls := "java/lang/String", name := "length", desc := "()I" } : Jvm.MethodName)) ∈ Wt := List.mem_filter.mpr ⟨t_in (t_in2 (List.mem_of_getElem? (i := 128) rfl)), rfl⟩
set_option maxRecDepth 20000 in
theorem k_369 : (Jvm.Cond.instanceMethod ({ cls := "java/lang/String", name := "length", desc := "()I" } : Jvm.MethodName)) ∈ Wt := List.mem_filter.mpr ⟨t_in (t_in2 (List.mem_of_getElem? (i := 129) rfl)), rfl⟩
set_option maxRecDepth 20000 in
theorem k_370 : (Jvm.Cond.selects "java/lang/String" ({ cls := "java/lang/String", name := "length", desc := "()I" } : Jvm.MethodName) ({ cls := "java/lang/String", name := "length", desc := "()I" } : Jvm.MethodName)) ∈ Wt := List.mem_filter.mpr ⟨t_in (t_in2 (List.mem_of_getElem? (i := 130) rfl)), rfl⟩
set_option maxRecDepth 20000 in
theorem k_371 : (Jvm.Cond.code ({ cls := "java/lang/String", name := "length", desc := "()I" } : Jvm.MethodName) prog_16_method_54_code (1 : Nat) (Option.some Jvm.ClassFile.FieldType.int)) ∈ Wt := List.mem_filter.mpr ⟨t_in (t_in2 (List.mem_of_getElem? (i := 131) rfl)), rfl⟩
set_option maxRecDepth 20000 in
theorem k_372 : (Jvm.Cond.methodLink "java/lang/String" (335 : Nat) ({ cls := "java/lang/String", name := "coder", desc := "()B" } : Jvm.MethodName)) ∈ Wt := List.mem_filter.mpr ⟨t_in (t_in2 (List.mem_of_getElem? (i := 132) rfl)), rfl⟩
set_option maxRecDepth 20000 in
theorem k_373 : (Jvm.Cond.instanceMethod ({ cls := "java/lang/String", name := "coder", desc := "()B" } : Jvm.MethodName)) ∈ Wt := List.mem_filter.mpr ⟨t_in (t_in2 (List.mem_of_getElem? (i := 133) rfl)), rfl⟩
set_option maxRecDepth 20000 in
theorem k_374 : (Jvm.Cond.selects "java/lang/String" ({ cls := "java/lang/String", name := "coder", desc := "()B" } : Jvm.MethodName) ({ cls := "java/lang/String", name := "coder", desc := "()B" } : Jvm.MethodName)) ∈ Wt := List.mem_filter.mpr ⟨t_in (t_in2 (List.mem_of_getElem? (i := 134) rfl)), rfl⟩
set_option maxRecDepth 20000 in
theorem k_375 : (Jvm.Cond.code ({ cls := "java/lang/String", name := "coder", desc := "()B" } : Jvm.MethodName) prog_16_method_152_code (1 : Nat) (Option.some Jvm.ClassFile.FieldType.byte)) ∈ Wt := List.mem_filter.mpr ⟨t_in (t_in2 (List.mem_of_getElem? (i := 135) rfl)), rfl⟩
set_option maxRecDepth 20000 in
theorem k_376 : (Jvm.Cond.methodLink "java/lang/String" (637 : Nat) ({ cls := "java/lang/StringLatin1", name := "indexOf", desc := "([BIII)I" } : Jvm.MethodName)) ∈ Wt := List.mem_filter.mpr ⟨t_in (t_in2 (List.mem_of_getElem? (i := 136) rfl)), rfl⟩
set_option maxRecDepth 20000 in
theorem k_377 : (Jvm.Cond.static ({ cls := "java/lang/StringLatin1", name := "indexOf", desc := "([BIII)I" } : Jvm.MethodName)) ∈ Wt := List.mem_filter.mpr ⟨t_in (t_in2 (List.mem_of_getElem? (i := 137) rfl)), rfl⟩
set_option maxRecDepth 20000 in
theorem k_378 : (Jvm.Cond.code ({ cls := "java/lang/StringLatin1", name := "indexOf", desc := "([BIII)I" } : Jvm.MethodName) prog_17_method_22_code (4 : Nat) (Option.some Jvm.ClassFile.FieldType.int)) ∈ Wt := List.mem_filter.mpr ⟨t_in (t_in2 (List.mem_of_getElem? (i := 138) rfl)), rfl⟩
set_option maxRecDepth 20000 in
theorem k_379 : (Jvm.Cond.methodLink "java/lang/StringLatin1" (88 : Nat) ({ cls := "java/lang/StringLatin1", name := "canEncode", desc := "(I)Z" } : Jvm.MethodName)) ∈ Wt := List.mem_filter.mpr ⟨t_in (t_in2 (List.mem_of_getElem? (i := 139) rfl)), rfl⟩
set_option maxRecDepth 20000 in
theorem k_380 : (Jvm.Cond.static ({ cls := "java/lang/StringLatin1", name := "canEncode", desc := "(I)Z" } : Jvm.MethodName)) ∈ Wt := List.mem_filter.mpr ⟨t_in (t_in2 (List.mem_of_getElem? (i := 140) rfl)), rfl⟩
set_option maxRecDepth 20000 in
theorem k_381 : (Jvm.Cond.code ({ cls := "java/lang/StringLatin1", name := "canEncode", desc := "(I)Z" } : Jvm.MethodName) prog_17_method_4_code (1 : Nat) (Option.some Jvm.ClassFile.FieldType.boolean)) ∈ Wt := List.mem_filter.mpr ⟨t_in (t_in2 (List.mem_of_getElem? (i := 141) rfl)), rfl⟩
set_option maxRecDepth 20000 in
theorem k_382 : (Jvm.Cond.methodLink "java/lang/StringLatin1" (92 : Nat) ({ cls := "java/lang/Math", name := "max", desc := "(II)I" } : Jvm.MethodName)) ∈ Wt := List.mem_filter.mpr ⟨t_in (t_in2 (List.mem_of_getElem? (i := 142) rfl)), rfl⟩
set_option maxRecDepth 20000 in
theorem k_383 : (Jvm.Cond.static ({ cls := "java/lang/Math", name := "max", desc := "(II)I" } : Jvm.MethodName)) ∈ Wt := List.mem_filter.mpr ⟨t_in (t_in2 (List.mem_of_getElem? (i := 143) rfl)), rfl⟩
set_option maxRecDepth 20000 in
theorem k_384 : (Jvm.Cond.code ({ cls := "java/lang/Math", name := "max", desc := "(II)I" } : Jvm.MethodName) prog_15_method_65_code (2 : Nat) (Option.some Jvm.ClassFile.FieldType.int)) ∈ Wt := List.mem_filter.mpr ⟨t_in (t_in2 (List.mem_of_getElem? (i := 144) rfl)), rfl⟩
set_option maxRecDepth 20000 in
theorem k_385 : (Jvm.Cond.methodLink "java/lang/StringLatin1" (38 : Nat) ({ cls := "java/lang/Math", name := "min", desc := "(II)I" } : Jvm.MethodName)) ∈ Wt := List.mem_filter.mpr ⟨t_in (t_in2 (List.mem_of_getElem? (i := 145) rfl)), rfl⟩
set_option maxRecDepth 20000 in
theorem k_386 : (Jvm.Cond.static ({ cls := "java/lang/Math", name := "min", desc := "(II)I" } : Jvm.MethodName)) ∈ Wt := List.mem_filter.mpr ⟨t_in (t_in2 (List.mem_of_getElem? (i := 146) rfl)), rfl⟩
set_option maxRecDepth 20000 in
theorem k_387 : (Jvm.Cond.code ({ cls := "java/lang/Math", name := "min", desc := "(II)I" } : Jvm.MethodName) prog_15_method_69_code (2 : Nat) (Option.some Jvm.ClassFile.FieldType.int)) ∈ Wt := List.mem_filter.mpr ⟨t_in (t_in2 (List.mem_of_getElem? (i := 147) rfl)), rfl⟩
set_option maxRecDepth 20000 in
theorem k_388 : (Jvm.Cond.methodLink "java/lang/StringLatin1" (95 : Nat) ({ cls := "java/lang/StringLatin1", name := "indexOfChar", desc := "([BIII)I" } : Jvm.MethodName)) ∈ Wt := List.mem_filter.mpr ⟨t_in (t_in2 (List.mem_of_getElem? (i := 148) rfl)), rfl⟩
set_option maxRecDepth 20000 in
theorem k_389 : (Jvm.Cond.static ({ cls := "java/lang/StringLatin1", name := "indexOfChar", desc := "([BIII)I" } : Jvm.MethodName)) ∈ Wt := List.mem_filter.mpr ⟨t_in (t_in2 (List.mem_of_getElem? (i := 149) rfl)), rfl⟩
set_option maxRecDepth 20000 in
theorem k_390 : (Jvm.Cond.code ({ cls := "java/lang/StringLatin1", name := "indexOfChar", desc := "([BIII)I" } : Jvm.MethodName) prog_17_method_23_code (6 : Nat) (Option.some Jvm.ClassFile.FieldType.int)) ∈ Wt := List.mem_filter.mpr ⟨t_in (t_in2 (List.mem_of_getElem? (i := 150) rfl)), rfl⟩
set_option maxRecDepth 20000 in
theorem k_445 : (Jvm.Cond.methodLink "PrunedSearch" (54 : Nat) ({ cls := "PrunedSearch$Search", name := "end", desc := "()V" } : Jvm.MethodName)) ∈ Wt := List.mem_filter.mpr ⟨t_in (t_in2 (List.mem_of_getElem? (i := 205) rfl)), rfl⟩
set_option maxRecDepth 20000 in
theorem k_446 : (Jvm.Cond.instanceMethod ({ cls := "PrunedSearch$Search", name := "end", desc := "()V" } : Jvm.MethodName)) ∈ Wt := List.mem_filter.mpr ⟨t_in (t_in2 (List.mem_of_getElem? (i := 206) rfl)), rfl⟩
set_option maxRecDepth 20000 in
theorem k_447 : (Jvm.Cond.selects "PrunedSearch$Search" ({ cls := "PrunedSearch$Search", name := "end", desc := "()V" } : Jvm.MethodName) ({ cls := "PrunedSearch$Search", name := "end", desc := "()V" } : Jvm.MethodName)) ∈ Wt := List.mem_filter.mpr ⟨t_in (t_in2 (List.mem_of_getElem? (i := 207) rfl)), rfl⟩
set_option maxRecDepth 20000 in
theorem k_448 : (Jvm.Cond.code ({ cls := "PrunedSearch$Search", name := "end", desc := "()V" } : Jvm.MethodName) prog_7_method_2_code (1 : Nat) (Option.none : Option Jvm.ClassFile.FieldType)) ∈ Wt := List.mem_filter.mpr ⟨t_in (t_in2 (List.mem_of_getElem? (i := 208) rfl)), rfl⟩
set_option maxRecDepth 20000 in
theorem k_449 : (Jvm.Cond.methodLink "PrunedSearch$Search" (70 : Nat) ({ cls := "PrunedSearch$Choices", name := "keepFirst", desc := "(I)V" } : Jvm.MethodName)) ∈ Wt := List.mem_filter.mpr ⟨t_in (t_in2 (List.mem_of_getElem? (i := 209) rfl)), rfl⟩
set_option maxRecDepth 20000 in
theorem k_450 : (Jvm.Cond.instanceMethod ({ cls := "PrunedSearch$Choices", name := "keepFirst", desc := "(I)V" } : Jvm.MethodName)) ∈ Wt := List.mem_filter.mpr ⟨t_in (t_in2 (List.mem_of_getElem? (i := 210) rfl)), rfl⟩
set_option maxRecDepth 20000 in
theorem k_451 : (Jvm.Cond.selects "PrunedSearch$Choices" ({ cls := "PrunedSearch$Choices", name := "keepFirst", desc := "(I)V" } : Jvm.MethodName) ({ cls := "PrunedSearch$Choices", name := "keepFirst", desc := "(I)V" } : Jvm.MethodName)) ∈ Wt := List.mem_filter.mpr ⟨t_in (t_in2 (List.mem_of_getElem? (i := 211) rfl)), rfl⟩
set_option maxRecDepth 20000 in
theorem k_452 : (Jvm.Cond.code ({ cls := "PrunedSearch$Choices", name := "keepFirst", desc := "(I)V" } : Jvm.MethodName) prog_2_method_4_code (2 : Nat) (Option.none : Option Jvm.ClassFile.FieldType)) ∈ Wt := List.mem_filter.mpr ⟨t_in (t_in2 (List.mem_of_getElem? (i := 212) rfl)), rfl⟩
set_option maxRecDepth 20000 in
theorem k_453 : (Jvm.Cond.methodLink "PrunedSearch$Choices" (43 : Nat) ({ cls := "java/lang/Math", name := "max", desc := "(II)I" } : Jvm.MethodName)) ∈ Wt := List.mem_filter.mpr ⟨t_in (t_in2 (List.mem_of_getElem? (i := 213) rfl)), rfl⟩
set_option maxRecDepth 20000 in
theorem k_454 : (Jvm.Cond.methodLink "PrunedSearch$Choices" (49 : Nat) ({ cls := "java/lang/Math", name := "min", desc := "(II)I" } : Jvm.MethodName)) ∈ Wt := List.mem_filter.mpr ⟨t_in (t_in2 (List.mem_of_getElem? (i := 214) rfl)), rfl⟩
set_option maxRecDepth 20000 in
theorem k_455 : (Jvm.Cond.methodLink "PrunedSearch$Search" (74 : Nat) ({ cls := "PrunedSearch$Goals", name := "goBack", desc := "(II)V" } : Jvm.MethodName)) ∈ Wt := List.mem_filter.mpr ⟨t_in (t_in2 (List.mem_of_getElem? (i := 215) rfl)), rfl⟩
set_option maxRecDepth 20000 in
theorem k_456 : (Jvm.Cond.instanceMethod ({ cls := "PrunedSearch$Goals", name := "goBack", desc := "(II)V" } : Jvm.MethodName)) ∈ Wt := List.mem_filter.mpr ⟨t_in (t_in2 (List.mem_of_getElem? (i := 216) rfl)), rfl⟩
set_option maxRecDepth 20000 in
theorem k_457 : (Jvm.Cond.selects "PrunedSearch$Goals" ({ cls := "PrunedSearch$Goals", name := "goBack", desc := "(II)V" } : Jvm.MethodName) ({ cls := "PrunedSearch$Goals", name := "goBack", desc := "(II)V" } : Jvm.MethodName)) ∈ Wt := List.mem_filter.mpr ⟨t_in (t_in2 (List.mem_of_getElem? (i := 217) rfl)), rfl⟩
set_option maxRecDepth 20000 in
theorem k_458 : (Jvm.Cond.code ({ cls := "PrunedSearch$Goals", name := "goBack", desc := "(II)V" } : Jvm.MethodName) prog_5_method_4_code (3 : Nat) (Option.none : Option Jvm.ClassFile.FieldType)) ∈ Wt := List.mem_filter.mpr ⟨t_in (t_in2 (List.mem_of_getElem? (i := 218) rfl)), rfl⟩
set_option maxRecDepth 20000 in
theorem k_459 : (Jvm.Cond.methodLink "PrunedSearch$Search" (78 : Nat) ({ cls := "PrunedSearch$Terms", name := "goBack", desc := "(II)V" } : Jvm.MethodName)) ∈ Wt := List.mem_filter.mpr ⟨t_in (t_in2 (List.mem_of_getElem? (i := 219) rfl)), rfl⟩
set_option maxRecDepth 20000 in
theorem k_460 : (Jvm.Cond.instanceMethod ({ cls := "PrunedSearch$Terms", name := "goBack", desc := "(II)V" } : Jvm.MethodName)) ∈ Wt := List.mem_filter.mpr ⟨t_in (t_in2 (List.mem_of_getElem? (i := 220) rfl)), rfl⟩
set_option maxRecDepth 20000 in
theorem k_461 : (Jvm.Cond.selects "PrunedSearch$Terms" ({ cls := "PrunedSearch$Terms", name := "goBack", desc := "(II)V" } : Jvm.MethodName) ({ cls := "PrunedSearch$Terms", name := "goBack", desc := "(II)V" } : Jvm.MethodName)) ∈ Wt := List.mem_filter.mpr ⟨t_in (t_in2 (List.mem_of_getElem? (i := 221) rfl)), rfl⟩
set_option maxRecDepth 20000 in
theorem k_462 : (Jvm.Cond.code ({ cls := "PrunedSearch$Terms", name := "goBack", desc := "(II)V" } : Jvm.MethodName) prog_9_method_4_code (3 : Nat) (Option.none : Option Jvm.ClassFile.FieldType)) ∈ Wt := List.mem_filter.mpr ⟨t_in (t_in2 (List.mem_of_getElem? (i := 222) rfl)), rfl⟩
set_option maxRecDepth 20000 in
theorem k_463 : (Jvm.Cond.methodLink "PrunedSearch$Search" (79 : Nat) ({ cls := "PrunedSearch$TermWriter", name := "clear", desc := "()V" } : Jvm.MethodName)) ∈ Wt := List.mem_filter.mpr ⟨t_in (t_in2 (List.mem_of_getElem? (i := 223) rfl)), rfl⟩
set_option maxRecDepth 20000 in
theorem k_464 : (Jvm.Cond.instanceMethod ({ cls := "PrunedSearch$TermWriter", name := "clear", desc := "()V" } : Jvm.MethodName)) ∈ Wt := List.mem_filter.mpr ⟨t_in (t_in2 (List.mem_of_getElem? (i := 224) rfl)), rfl⟩
set_option maxRecDepth 20000 in
theorem k_465 : (Jvm.Cond.selects "PrunedSearch$TermWriter" ({ cls := "PrunedSearch$TermWriter", name := "clear", desc := "()V" } : Jvm.MethodName) ({ cls := "PrunedSearch$TermWriter", name := "clear", desc := "()V" } : Jvm.MethodName)) ∈ Wt := List.mem_filter.mpr ⟨t_in (t_in2 (List.mem_of_getElem? (i := 225) rfl)), rfl⟩
set_option maxRecDepth 20000 in
theorem k_466 : (Jvm.Cond.code ({ cls := "PrunedSearch$TermWriter", name := "clear", desc := "()V" } : Jvm.MethodName) prog_8_method_2_code (1 : Nat) (Option.none : Option Jvm.ClassFile.FieldType)) ∈ Wt := List.mem_filter.mpr ⟨t_in (t_in2 (List.mem_of_getElem? (i := 226) rfl)), rfl⟩
set_option maxRecDepth 20000 in
theorem k_467 : (Jvm.Cond.methodLink "PrunedSearch" (57 : Nat) ({ cls := "PrunedSearch$Code", name := "partCount", desc := "()I" } : Jvm.MethodName)) ∈ Wt := List.mem_filter.mpr ⟨t_in (t_in2 (List.mem_of_getElem? (i := 227) rfl)), rfl⟩
set_option maxRecDepth 20000 in
theorem k_468 : (Jvm.Cond.instanceMethod ({ cls := "PrunedSearch$Code", name := "partCount", desc := "()I" } : Jvm.MethodName)) ∈ Wt := List.mem_filter.mpr ⟨t_in (t_in2 (List.mem_of_getElem? (i := 228) rfl)), rfl⟩
set_option maxRecDepth 20000 in
theorem k_469 : (Jvm.Cond.selects "PrunedSearch$Code" ({ cls := "PrunedSearch$Code", name := "partCount", desc := "()I" } : Jvm.MethodName) ({ cls := "PrunedSearch$Code", name := "partCount", desc := "()I" } : Jvm.MethodName)) ∈ Wt := List.mem_filter.mpr ⟨t_in (t_in2 (List.mem_of_getElem? (i := 229) rfl)), rfl⟩
set_option maxRecDepth 20000 in
theorem k_470 : (Jvm.Cond.code ({ cls := "PrunedSearch$Code", name := "partCount", desc := "()I" } : Jvm.MethodName) prog_4_method_8_code (1 : Nat) (Option.some Jvm.ClassFile.FieldType.int)) ∈ Wt := List.mem_filter.mpr ⟨t_in (t_in2 (List.mem_of_getElem? (i := 230) rfl)), rfl⟩
set_option maxRecDepth 20000 in
theorem k_471 : (Jvm.Cond.methodLink "PrunedSearch" (61 : Nat) ({ cls := "PrunedSearch$ClauseReader", name := "readClauses", desc := "(LPrunedSearch$Text;I)I" } : Jvm.MethodName)) ∈ Wt := List.mem_filter.mpr ⟨t_in (t_in2 (List.mem_of_getElem? (i := 231) rfl)), rfl⟩
set_option maxRecDepth 20000 in
theorem k_472 : (Jvm.Cond.instanceMethod ({ cls := "PrunedSearch$ClauseReader", name := "readClauses", desc := "(LPrunedSearch$Text;I)I" } : Jvm.MethodName)) ∈ Wt := List.mem_filter.mpr ⟨t_in (t_in2 (List.mem_of_getElem? (i := 232) rfl)), rfl⟩
set_option maxRecDepth 20000 in
theorem k_473 : (Jvm.Cond.selects "PrunedSearch$ClauseReader" ({ cls := "PrunedSearch$ClauseReader", name := "readClauses", desc := "(LPrunedSearch$Text;I)I" } : Jvm.MethodName) ({ cls := "PrunedSearch$ClauseReader", name := "readClauses", desc := "(LPrunedSearch$Text;I)I" } : Jvm.MethodName)) ∈ Wt := List.mem_filter.mpr ⟨t_in (t_in2 (List.mem_of_getElem? (i := 233) rfl)), rfl⟩
set_option maxRecDepth 20000 in
theorem k_474 : (Jvm.Cond.code ({ cls := "PrunedSearch$ClauseReader", name := "readClauses", desc := "(LPrunedSearch$Text;I)I" } : Jvm.MethodName) prog_3_method_3_code (5 : Nat) (Option.some Jvm.ClassFile.FieldType.int)) ∈ Wt := List.mem_filter.mpr ⟨t_in (t_in2 (List.mem_of_getElem? (i := 234) rfl)), rfl⟩
set_option maxRecDepth 20000 in
theorem k_475 : (Jvm.Cond.methodLink "PrunedSearch$ClauseReader" (35 : Nat) ({ cls := "PrunedSearch$ClauseReader", name := "start", desc := "(LPrunedSearch$Text;)V" } : Jvm.MethodName)) ∈ Wt := List.mem_filter.mpr ⟨t_in (t_in2 (List.mem_of_getElem? (i := 235) rfl)), rfl⟩
set_option maxRecDepth 20000 in
theorem k_477 : (Jvm.Cond.instanceMethod ({ cls := "PrunedSearch$ClauseReader", name := "start", desc := "(LPrunedSearch$Text;)V" } : Jvm.MethodName)) ∈ Wt := List.mem_filter.mpr ⟨t_in (t_in2 (List.mem_of_getElem? (i := 237) rfl)), rfl⟩
set_option maxRecDepth 20000 in
theorem k_478 : (Jvm.Cond.code ({ cls := "PrunedSearch$ClauseReader", name := "start", desc := "(LPrunedSearch$Text;)V" } : Jvm.MethodName) prog_3_method_5_code (2 : Nat) (Option.none : Option Jvm.ClassFile.FieldType)) ∈ Wt := List.mem_filter.mpr ⟨t_in (t_in2 (List.mem_of_getElem? (i := 238) rfl)), rfl⟩
set_option maxRecDepth 20000 in
theorem k_479 : (Jvm.Cond.methodLink "PrunedSearch$ClauseReader" (69 : Nat) ({ cls := "PrunedSearch$Tokens", name := "scan", desc := "(LPrunedSearch$Text;)V" } : Jvm.MethodName)) ∈ Wt := List.mem_filter.mpr ⟨t_in (t_in2 (List.mem_of_getElem? (i := 239) rfl)), rfl⟩
set_option maxRecDepth 20000 in
theorem k_480 : (Jvm.Cond.instanceMethod ({ cls := "PrunedSearch$Tokens", name := "scan", desc := "(LPrunedSearch$Text;)V" } : Jvm.MethodName)) ∈ Wt := List.mem_filter.mpr ⟨t_in (t_in3 (List.mem_of_getElem? (i := 0) rfl)), rfl⟩
set_option maxRecDepth 20000 in
theorem k_481 : (Jvm.Cond.selects "PrunedSearch$Tokens" ({ cls := "PrunedSearch$Tokens", name := "scan", desc := "(LPrunedSearch$Text;)V" } : Jvm.MethodName) ({ cls := "PrunedSearch$Tokens", name := "scan", desc := "(LPrunedSearch$Text;)V" } : Jvm.MethodName)) ∈ Wt := List.mem_filter.mpr ⟨t_in (t_in3 (List.mem_of_getElem? (i := 1) rfl)), rfl⟩
set_option maxRecDepth 20000 in
theorem k_482 : (Jvm.Cond.code ({ cls := "PrunedSearch$Tokens", name := "scan", desc := "(LPrunedSearch$Text;)V" } : Jvm.MethodName) prog_11_method_2_code (5 : Nat) (Option.none : Option Jvm.ClassFile.FieldType)) ∈ Wt := List.mem_filter.mpr ⟨t_in (t_in3 (List.mem_of_getElem? (i := 2) rfl)), rfl⟩
set_option maxRecDepth 20000 in
theorem k_483 : (Jvm.Cond.methodLink "PrunedSearch$Tokens" (27 : Nat) ({ cls := "PrunedSearch$Text", name := "size", desc := "()I" } : Jvm.MethodName)) ∈ Wt := List.mem_filter.mpr ⟨t_in (t_in3 (List.mem_of_getElem? (i := 3) rfl)), rfl⟩
set_option maxRecDepth 20000 in
theorem k_484 : (Jvm.Cond.instanceMethod ({ cls := "PrunedSearch$Text", name := "size", desc := "()I" } : Jvm.MethodName)) ∈ Wt := List.mem_filter.mpr ⟨t_in (t_in3 (List.mem_of_getElem? (i := 4) rfl)), rfl⟩
set_option maxRecDepth 20000 in
theorem k_485 : (Jvm.Cond.selects "PrunedSearch$Text" ({ cls := "PrunedSearch$Text", name := "size", desc := "()I" } : Jvm.MethodName) ({ cls := "PrunedSearch$Text", name := "size", desc := "()I" } : Jvm.MethodName)) ∈ Wt := List.mem_filter.mpr ⟨t_in (t_in3 (List.mem_of_getElem? (i := 5) rfl)), rfl⟩
set_option maxRecDepth 20000 in
theorem k_486 : (Jvm.Cond.code ({ cls := "PrunedSearch$Text", name := "size", desc := "()I" } : Jvm.MethodName) prog_10_method_5_code (1 : Nat) (Option.some Jvm.ClassFile.FieldType.int)) ∈ Wt := List.mem_filter.mpr ⟨t_in (t_in3 (List.mem_of_getElem? (i := 6) rfl)), rfl⟩
set_option maxRecDepth 20000 in
theorem k_487 : (Jvm.Cond.methodLink "PrunedSearch$Tokens" (33 : Nat) ({ cls := "PrunedSearch$Text", name := "at", desc := "(I)C" } : Jvm.MethodName)) ∈ Wt := List.mem_filter.mpr ⟨t_in (t_in3 (List.mem_of_getElem? (i := 7) rfl)), rfl⟩
set_option maxRecDepth 20000 in
theorem k_488 : (Jvm.Cond.instanceMethod ({ cls := "PrunedSearch$Text", name := "at", desc := "(I)C" } : Jvm.MethodName)) ∈ Wt := List.mem_filter.mpr ⟨t_in (t_in3 (List.mem_of_getElem? (i := 8) rfl)), rfl⟩
set_option maxRecDepth 20000 in
theorem k_489 : (Jvm.Cond.selects "PrunedSearch$Text" ({ cls := "PrunedSearch$Text", name := "at", desc := "(I)C" } : Jvm.MethodName) ({ cls := "PrunedSearch$Text", name := "at", desc := "(I)C" } : Jvm.MethodName)) ∈ Wt := List.mem_filter.mpr ⟨t_in (t_in3 (List.mem_of_getElem? (i := 9) rfl)), rfl⟩
set_option maxRecDepth 20000 in
theorem k_490 : (Jvm.Cond.code ({ cls := "PrunedSearch$Text", name := "at", desc := "(I)C" } : Jvm.MethodName) prog_10_method_6_code (2 : Nat) (Option.some Jvm.ClassFile.FieldType.char)) ∈ Wt := List.mem_filter.mpr ⟨t_in (t_in3 (List.mem_of_getElem? (i := 10) rfl)), rfl⟩
set_option maxRecDepth 20000 in
theorem k_491 : (Jvm.Cond.methodLinkNest "PrunedSearch$Tokens" (37 : Nat) ({ cls := "PrunedSearch", name := "isWordLetter", desc := "(C)Z" } : Jvm.MethodName) "PrunedSearch") ∈ lw_tbl := t_in (t_in3 (List.mem_of_getElem? (i := 11) rfl))
set_option maxRecDepth 20000 in
theorem k_492 : (Jvm.Cond.methodLink "PrunedSearch$Tokens" (41 : Nat) ({ cls := "PrunedSearch$Tokens", name := "lengthenWord", desc := "(CI)V" } : Jvm.MethodName)) ∈ Wt := List.mem_filter.mpr ⟨t_in (t_in3 (List.mem_of_getElem? (i := 12) rfl)), rfl⟩
set_option maxRecDepth 20000 in
theorem k_494 : (Jvm.Cond.instanceMethod ({ cls := "PrunedSearch$Tokens", name := "lengthenWord", desc := "(CI)V" } : Jvm.MethodName)) ∈ Wt := List.mem_filter.mpr ⟨t_in (t_in3 (List.mem_of_getElem? (i := 14) rfl)), rfl⟩
set_option maxRecDepth 20000 in
theorem k_495 : (Jvm.Cond.code ({ cls := "PrunedSearch$Tokens", name := "lengthenWord", desc := "(CI)V" } : Jvm.MethodName) prog_11_method_4_code (5 : Nat) (Option.none : Option Jvm.ClassFile.FieldType)) ∈ Wt := List.mem_filter.mpr ⟨t_in (t_in3 (List.mem_of_getElem? (i := 15) rfl)), rfl⟩
set_option maxRecDepth 20000 in
theorem k_496 : (Jvm.Cond.methodLinkNest "PrunedSearch$Tokens" (45 : Nat) ({ cls := "PrunedSearch", name := "isSmall", desc := "(C)Z" } : Jvm.MethodName) "PrunedSearch") ∈ lw_tbl := t_in (t_in3 (List.mem_of_getElem? (i := 16) rfl))
set_option maxRecDepth 20000 in
theorem k_497 : (Jvm.Cond.methodLink "PrunedSearch$Tokens" (48 : Nat) ({ cls := "PrunedSearch$Tokens", name := "put", desc := "(CIJ)V" } : Jvm.MethodName)) ∈ Wt := List.mem_filter.mpr ⟨t_in (t_in3 (List.mem_of_getElem? (i := 17) rfl)), rfl⟩
set_option maxRecDepth 20000 in
theorem k_499 : (Jvm.Cond.instanceMethod ({ cls := "PrunedSearch$Tokens", name := "put", desc := "(CIJ)V" } : Jvm.MethodName)) ∈ Wt := List.mem_filter.mpr ⟨t_in (t_in3 (List.mem_of_getElem? (i := 19) rfl)), rfl⟩
set_option maxRecDepth 20000 in
theorem k_500 : (Jvm.Cond.code ({ cls := "PrunedSearch$Tokens", name := "put", desc := "(CIJ)V" } : Jvm.MethodName) prog_11_method_3_code (5 : Nat) (Option.none : Option Jvm.ClassFile.FieldType)) ∈ Wt := List.mem_filter.mpr ⟨t_in (t_in3 (List.mem_of_getElem? (i := 20) rfl)), rfl⟩
set_option maxRecDepth 20000 in
theorem k_501 : (Jvm.Cond.methodLink "PrunedSearch$Tokens" (52 : Nat) ({ cls := "PrunedSearch$Tokens", name := "completeNeck", desc := "()V" } : Jvm.MethodName)) ∈ Wt := List.mem_filter.mpr ⟨t_in (t_in3 (List.mem_of_getElem? (i := 21) rfl)), rfl⟩
set_option maxRecDepth 20000 in
theorem k_503 : (Jvm.Cond.instanceMethod ({ cls := "PrunedSearch$Tokens", name := "completeNeck", desc := "()V" } : Jvm.MethodName)) ∈ Wt := List.mem_filter.mpr ⟨t_in (t_in3 (List.mem_of_getElem? (i := 23) rfl)), rfl⟩
set_option maxRecDepth 20000 in
theorem k_504 : (Jvm.Cond.code ({ cls := "PrunedSearch$Tokens", name := "completeNeck", desc := "()V" } : Jvm.MethodName) prog_11_method_5_code (1 : Nat) (Option.none : Option Jvm.ClassFile.FieldType)) ∈ Wt := List.mem_filter.mpr ⟨t_in (t_in3 (List.mem_of_getElem? (i := 24) rfl)), rfl⟩
set_option maxRecDepth 20000 in
theorem k_505 : (Jvm.Cond.methodLink "PrunedSearch$ClauseReader" (72 : Nat) ({ cls := "PrunedSearch$Code", name := "clear", desc := "()V" } : Jvm.MethodName)) ∈ Wt := List.mem_filter.mpr ⟨t_in (t_in3 (List.mem_of_getElem? (i := 25) rfl)), rfl⟩
set_option maxRecDepth 20000 in
theorem k_506 : (Jvm.Cond.instanceMethod ({ cls := "PrunedSearch$Code", name := "clear", desc := "()V" } : Jvm.MethodName)) ∈ Wt := List.mem_filter.mpr ⟨t_in (t_in3 (List.mem_of_getElem? (i := 26) rfl)), rfl⟩
set_option maxRecDepth 20000 in
theorem k_507 : (Jvm.Cond.selects "PrunedSearch$Code" ({ cls := "PrunedSearch$Code", name := "clear", desc := "()V" } : Jvm.MethodName) ({ cls := "PrunedSearch$Code", name := "clear", desc := "()V" } : Jvm.MethodName)) ∈ Wt := List.mem_filter.mpr ⟨t_in (t_in3 (List.mem_of_getElem? (i := 27) rfl)), rfl⟩
set_option maxRecDepth 20000 in
theorem k_508 : (Jvm.Cond.code ({ cls := "PrunedSearch$Code", name := "clear", desc := "()V" } : Jvm.MethodName) prog_4_method_2_code (1 : Nat) (Option.none : Option Jvm.ClassFile.FieldType)) ∈ Wt := List.mem_filter.mpr ⟨t_in (t_in3 (List.mem_of_getElem? (i := 28) rfl)), rfl⟩
set_option maxRecDepth 20000 in
theorem k_509 : (Jvm.Cond.methodLink "PrunedSearch$ClauseReader" (81 : Nat) ({ cls := "PrunedSearch$ClauseReader", name := "startPart", desc := "()V" } : Jvm.MethodName)) ∈ Wt := List.mem_filter.mpr ⟨t_in (t_in3 (List.mem_of_getElem? (i := 29) rfl)), rfl⟩
set_option maxRecDepth 20000 in
theorem k_511 : (Jvm.Cond.instanceMethod ({ cls := "PrunedSearch$ClauseReader", name := "startPart", desc := "()V" } : Jvm.MethodName)) ∈ Wt := List.mem_filter.mpr ⟨t_in (t_in3 (List.mem_of_getElem? (i := 31) rfl)), rfl⟩
set_option maxRecDepth 20000 in
theorem k_512 : (Jvm.Cond.code ({ cls := "PrunedSearch$ClauseReader", name := "startPart", desc := "()V" } : Jvm.MethodName) prog_3_method_7_code (1 : Nat) (Option.none : Option Jvm.ClassFile.FieldType)) ∈ Wt := List.mem_filter.mpr ⟨t_in (t_in3 (List.mem_of_getElem? (i := 32) rfl)), rfl⟩
set_option maxRecDepth 20000 in
theorem k_513 : (Jvm.Cond.methodLink "PrunedSearch$ClauseReader" (39 : Nat) ({ cls := "PrunedSearch$ClauseReader", name := "isAt", desc := "(C)Z" } : Jvm.MethodName)) ∈ Wt := List.mem_filter.mpr ⟨t_in (t_in3 (List.mem_of_getElem? (i := 33) rfl)), rfl⟩
set_option maxRecDepth 20000 in
theorem k_515 : (Jvm.Cond.instanceMethod ({ cls := "PrunedSearch$ClauseReader", name := "isAt", desc := "(C)Z" } : Jvm.MethodName)) ∈ Wt := List.mem_filter.mpr ⟨t_in (t_in3 (List.mem_of_getElem? (i := 35) rfl)), rfl⟩
set_option maxRecDepth 20000 in
theorem k_516 : (Jvm.Cond.code ({ cls := "PrunedSearch$ClauseReader", name := "isAt", desc := "(C)Z" } : Jvm.MethodName) prog_3_method_16_code (2 : Nat) (Option.some Jvm.ClassFile.FieldType.boolean)) ∈ Wt := List.mem_filter.mpr ⟨t_in (t_in3 (List.mem_of_getElem? (i := 36) rfl)), rfl⟩
set_option maxRecDepth 20000 in
theorem k_517 : (Jvm.Cond.methodLink "PrunedSearch$ClauseReader" (151 : Nat) ({ cls := "PrunedSearch$Tokens", name := "kindAt", desc := "(I)C" } : Jvm.MethodName)) ∈ Wt := List.mem_filter.mpr ⟨t_in (t_in3 (List.mem_of_getElem? (i := 37) rfl)), rfl⟩
set_option maxRecDepth 20000 in
theorem k_518 : (Jvm.Cond.instanceMethod ({ cls := "PrunedSearch$Tokens", name := "kindAt", desc := "(I)C" } : Jvm.MethodName)) ∈ Wt := List.mem_filter.mpr ⟨t_in (t_in3 (List.mem_of_getElem? (i := 38) rfl)), rfl⟩
set_option maxRecDepth 20000 in
theorem k_519 : (Jvm.Cond.selects "PrunedSearch$Tokens" ({ cls := "PrunedSearch$Tokens", name := "kindAt", desc := "(I)C" } : Jvm.MethodName) ({ cls := "PrunedSearch$Tokens", name := "kindAt", desc := "(I)C" } : Jvm.MethodName)) ∈ Wt := List.mem_filter.mpr ⟨t_in (t_in3 (List.mem_of_getElem? (i := 39) rfl)), rfl⟩
set_option maxRecDepth 20000 in
theorem k_520 : (Jvm.Cond.code ({ cls := "PrunedSearch$Tokens", name := "kindAt", desc := "(I)C" } : Jvm.MethodName) prog_11_method_6_code (2 : Nat) (Option.some Jvm.ClassFile.FieldType.char)) ∈ Wt := List.mem_filter.mpr ⟨t_in (t_in3 (List.mem_of_getElem? (i := 40) rfl)), rfl⟩
set_option maxRecDepth 20000 in
theorem k_521 : (Jvm.Cond.methodLink "PrunedSearch$ClauseReader" (43 : Nat) ({ cls := "PrunedSearch$ClauseReader", name := "readClause", desc := "()Z" } : Jvm.MethodName)) ∈ Wt := List.mem_filter.mpr ⟨t_in (t_in3 (List.mem_of_getElem? (i := 41) rfl)), rfl⟩
set_option maxRecDepth 20000 in
theorem k_523 : (Jvm.Cond.instanceMethod ({ cls := "PrunedSearch$ClauseReader", name := "readClause", desc := "()Z" } : Jvm.MethodName)) ∈ Wt := List.mem_filter.mpr ⟨t_in (t_in3 (List.mem_of_getElem? (i := 43) rfl)), rfl⟩
set_option maxRecDepth 20000 in
theorem k_524 : (Jvm.Cond.code ({ cls := "PrunedSearch$ClauseReader", name := "readClause", desc := "()Z" } : Jvm.MethodName) prog_3_method_9_code (1 : Nat) (Option.some Jvm.ClassFile.FieldType.boolean)) ∈ Wt := List.mem_filter.mpr ⟨t_in (t_in3 (List.mem_of_getElem? (i := 44) rfl)), rfl⟩
set_option maxRecDepth 20000 in
theorem k_525 : (Jvm.Cond.methodLink "PrunedSearch$ClauseReader" (113 : Nat) ({ cls := "PrunedSearch$ClauseReader", name := "readTerm", desc := "()Z" } : Jvm.MethodName)) ∈ Wt := List.mem_filter.mpr ⟨t_in (t_in3 (List.mem_of_getElem? (i := 45) rfl)), rfl⟩
set_option maxRecDepth 20000 in
theorem k_527 : (Jvm.Cond.instanceMethod ({ cls := "PrunedSearch$ClauseReader", name := "readTerm", desc := "()Z" } : Jvm.MethodName)) ∈ Wt := List.mem_filter.mpr ⟨t_in (t_in3 (List.mem_of_getElem? (i := 47) rfl)), rfl⟩
set_option maxRecDepth 20000 in
theorem k_528 : (Jvm.Cond.code ({ cls := "PrunedSearch$ClauseReader", name := "readTerm", desc := "()Z" } : Jvm.MethodName) prog_3_method_11_code (2 : Nat) (Option.some Jvm.ClassFile.FieldType.boolean)) ∈ Wt := List.mem_filter.mpr ⟨t_in (t_in3 (List.mem_of_getElem? (i := 48) rfl)), rfl⟩
set_option maxRecDepth 20000 in
theorem k_529 : (Jvm.Cond.methodLink "PrunedSearch$ClauseReader" (119 : Nat) ({ cls := "PrunedSearch$Tokens", name := "wordAt", desc := "(I)J" } : Jvm.MethodName)) ∈ Wt := List.mem_filter.mpr ⟨t_in (t_in3 (List.mem_of_getElem? (i := 49) rfl)), rfl⟩
set_option maxRecDepth 20000 in
theorem k_530 : (Jvm.Cond.instanceMethod ({ cls := "PrunedSearch$Tokens", name := "wordAt", desc := "(I)J" } : Jvm.MethodName)) ∈ Wt := List.mem_filter.mpr ⟨t_in (t_in3 (List.mem_of_getElem? (i := 50) rfl)), rfl⟩
set_option maxRecDepth 20000 in
theorem k_531 : (Jvm.Cond.selects "PrunedSearch$Tokens" ({ cls := "PrunedSearch$Tokens", name := "wordAt", desc := "(I)J" } : Jvm.MethodName) ({ cls := "PrunedSearch$Tokens", name := "wordAt", desc := "(I)J" } : Jvm.MethodName)) ∈ Wt := List.mem_filter.mpr ⟨t_in (t_in3 (List.mem_of_getElem? (i := 51) rfl)), rfl⟩
set_option maxRecDepth 20000 in
theorem k_532 : (Jvm.Cond.code ({ cls := "PrunedSearch$Tokens", name := "wordAt", desc := "(I)J" } : Jvm.MethodName) prog_11_method_8_code (2 : Nat) (Option.some Jvm.ClassFile.FieldType.long)) ∈ Wt := List.mem_filter.mpr ⟨t_in (t_in3 (List.mem_of_getElem? (i := 52) rfl)), rfl⟩
set_option maxRecDepth 20000 in
theorem k_533 : (Jvm.Cond.methodLink "PrunedSearch$ClauseReader" (123 : Nat) ({ cls := "PrunedSearch$ClauseReader", name := "variableSymbol", desc := "(J)I" } : Jvm.MethodName)) ∈ Wt := List.mem_filter.mpr ⟨t_in (t_in3 (List.mem_of_getElem? (i := 53) rfl)), rfl⟩
set_option maxRecDepth 20000 in
theorem k_535 : (Jvm.Cond.instanceMethod ({ cls := "PrunedSearch$ClauseReader", name := "variableSymbol", desc := "(J)I" } : Jvm.MethodName)) ∈ Wt := List.mem_filter.mpr ⟨t_in (t_in3 (List.mem_of_getElem? (i := 55) rfl)), rfl⟩
set_option maxRecDepth 20000 in
theorem k_536 : (Jvm.Cond.code ({ cls := "PrunedSearch$ClauseReader", name := "variableSymbol", desc := "(J)I" } : Jvm.MethodName) prog_3_method_15_code (4 : Nat) (Option.some Jvm.ClassFile.FieldType.int)) ∈ Wt := List.mem_filter.mpr ⟨t_in (t_in3 (List.mem_of_getElem? (i := 56) rfl)), rfl⟩
set_option maxRecDepth 20000 in
theorem k_537 : (Jvm.Cond.constantLong "PrunedSearch$ClauseReader" (149 : Nat) (95 : Int64)) ∈ Wt := List.mem_filter.mpr ⟨t_in (t_in3 (List.mem_of_getElem? (i := 57) rfl)), rfl⟩
set_option maxRecDepth 20000 in
theorem k_538 : (Jvm.Cond.methodLink "PrunedSearch$ClauseReader" (116 : Nat) ({ cls := "PrunedSearch$Code", name := "add", desc := "(I)I" } : Jvm.MethodName)) ∈ Wt := List.mem_filter.mpr ⟨t_in (t_in3 (List.mem_of_getElem? (i := 58) rfl)), rfl⟩
set_option maxRecDepth 20000 in
theorem k_539 : (Jvm.Cond.instanceMethod ({ cls := "PrunedSearch$Code", name := "add", desc := "(I)I" } : Jvm.MethodName)) ∈ Wt := List.mem_filter.mpr ⟨t_in (t_in3 (List.mem_of_getElem? (i := 59) rfl)), rfl⟩
set_option maxRecDepth 20000 in
theorem k_540 : (Jvm.Cond.selects "PrunedSearch$Code" ({ cls := "PrunedSearch$Code", name := "add", desc := "(I)I" } : Jvm.MethodName) ({ cls := "PrunedSearch$Code", name := "add", desc := "(I)I" } : Jvm.MethodName)) ∈ Wt := List.mem_filter.mpr ⟨t_in (t_in3 (List.mem_of_getElem? (i := 60) rfl)), rfl⟩
set_option maxRecDepth 20000 in
theorem k_541 : (Jvm.Cond.code ({ cls := "PrunedSearch$Code", name := "add", desc := "(I)I" } : Jvm.MethodName) prog_4_method_3_code (2 : Nat) (Option.some Jvm.ClassFile.FieldType.int)) ∈ Wt := List.mem_filter.mpr ⟨t_in (t_in3 (List.mem_of_getElem? (i := 61) rfl)), rfl⟩
set_option maxRecDepth 20000 in
theorem k_542 : (Jvm.Cond.methodLink "PrunedSearch$ClauseReader" (127 : Nat) ({ cls := "PrunedSearch$Names", name := "symbolOf", desc := "(J)I" } : Jvm.MethodName)) ∈ Wt := List.mem_filter.mpr ⟨t_in (t_in3 (List.mem_of_getElem? (i := 62) rfl)), rfl⟩
set_option maxRecDepth 20000 in
theorem k_543 : (Jvm.Cond.instanceMethod ({ cls := "PrunedSearch$Names", name := "symbolOf", desc := "(J)I" } : Jvm.MethodName)) ∈ Wt := List.mem_filter.mpr ⟨t_in (t_in3 (List.mem_of_getElem? (i := 63) rfl)), rfl⟩
set_option maxRecDepth 20000 in
theorem k_544 : (Jvm.Cond.selects "PrunedSearch$Names" ({ cls := "PrunedSearch$Names", name := "symbolOf", desc := "(J)I" } : Jvm.MethodName) ({ cls := "PrunedSearch$Names", name := "symbolOf", desc := "(J)I" } : Jvm.MethodName)) ∈ Wt := List.mem_filter.mpr ⟨t_in (t_in3 (List.mem_of_getElem? (i := 64) rfl)), rfl⟩
set_option maxRecDepth 20000 in
theorem k_545 : (Jvm.Cond.code ({ cls := "PrunedSearch$Names", name := "symbolOf", desc := "(J)I" } : Jvm.MethodName) prog_6_method_2_code (4 : Nat) (Option.some Jvm.ClassFile.FieldType.int)) ∈ Wt := List.mem_filter.mpr ⟨t_in (t_in3 (List.mem_of_getElem? (i := 65) rfl)), rfl⟩
set_option maxRecDepth 20000 in
theorem k_546 : (Jvm.Cond.methodLink "PrunedSearch$ClauseReader" (130 : Nat) ({ cls := "PrunedSearch$ClauseReader", name := "readArguments", desc := "(I)Z" } : Jvm.MethodName)) ∈ Wt := List.mem_filter.mpr ⟨t_in (t_in3 (List.mem_of_getElem? (i := 66) rfl)), rfl⟩
set_option maxRecDepth 20000 in
theorem k_548 : (Jvm.Cond.instanceMethod ({ cls := "PrunedSearch$ClauseReader", name := "readArguments", desc := "(I)Z" } : Jvm.MethodName)) ∈ Wt := List.mem_filter.mpr ⟨t_in (t_in3 (List.mem_of_getElem? (i := 68) rfl)), rfl⟩
set_option maxRecDepth 20000 in
theorem k_549 : (Jvm.Cond.code ({ cls := "PrunedSearch$ClauseReader", name := "readArguments", desc := "(I)Z" } : Jvm.MethodName) prog_3_method_12_code (5 : Nat) (Option.some Jvm.ClassFile.FieldType.boolean)) ∈ Wt := List.mem_filter.mpr ⟨t_in (t_in3 (List.mem_of_getElem? (i := 69) rfl)), rfl⟩
set_option maxRecDepth 20000 in
theorem k_550 : (Jvm.Cond.methodLink "PrunedSearch$ClauseReader" (137 : Nat) ({ cls := "PrunedSearch$ClauseReader", name := "enter", desc := "()Z" } : Jvm.MethodName)) ∈ Wt := List.mem_filter.mpr ⟨t_in (t_in3 (List.mem_of_getElem? (i := 70) rfl)), rfl⟩
set_option maxRecDepth 20000 in
theorem k_552 : (Jvm.Cond.instanceMethod ({ cls := "PrunedSearch$ClauseReader", name := "enter", desc := "()Z" } : Jvm.MethodName)) ∈ Wt := List.mem_filter.mpr ⟨t_in (t_in3 (List.mem_of_getElem? (i := 72) rfl)), rfl⟩
set_option maxRecDepth 20000 in
theorem k_553 : (Jvm.Cond.code ({ cls := "PrunedSearch$ClauseReader", name := "enter", desc := "()Z" } : Jvm.MethodName) prog_3_method_14_code (1 : Nat) (Option.some Jvm.ClassFile.FieldType.boolean)) ∈ Wt := List.mem_filter.mpr ⟨t_in (t_in3 (List.mem_of_getElem? (i := 73) rfl)), rfl⟩
set_option maxRecDepth 20000 in
theorem k_554 : (Jvm.Cond.methodLink "PrunedSearch$ClauseReader" (105 : Nat) ({ cls := "PrunedSearch$ClauseReader", name := "accept", desc := "(C)Z" } : Jvm.MethodName)) ∈ Wt := List.mem_filter.mpr ⟨t_in (t_in3 (List.mem_of_getElem? (i := 74) rfl)), rfl⟩
set_option maxRecDepth 20000 in
theorem k_556 : (Jvm.Cond.instanceMethod ({ cls := "PrunedSearch$ClauseReader", name := "accept", desc := "(C)Z" } : Jvm.MethodName)) ∈ Wt := List.mem_filter.mpr ⟨t_in (t_in3 (List.mem_of_getElem? (i := 76) rfl)), rfl⟩
set_option maxRecDepth 20000 in
theorem k_557 : (Jvm.Cond.code ({ cls := "PrunedSearch$ClauseReader", name := "accept", desc := "(C)Z" } : Jvm.MethodName) prog_3_method_17_code (2 : Nat) (Option.some Jvm.ClassFile.FieldType.boolean)) ∈ Wt := List.mem_filter.mpr ⟨t_in (t_in3 (List.mem_of_getElem? (i := 77) rfl)), rfl⟩
set_option maxRecDepth 20000 in
theorem k_558 : (Jvm.Cond.methodLink "PrunedSearch$ClauseReader" (140 : Nat) ({ cls := "java/lang/Math", name := "min", desc := "(II)I" } : Jvm.MethodName)) ∈ Wt := List.mem_filter.mpr ⟨t_in (t_in3 (List.mem_of_getElem? (i := 78) rfl)), rfl⟩
set_option maxRecDepth 20000 in
theorem k_559 : (Jvm.Cond.methodLink "PrunedSearch$ClauseReader" (146 : Nat) ({ cls := "PrunedSearch$Code", name := "setArguments", desc := "(II)V" } : Jvm.MethodName)) ∈ Wt := List.mem_filter.mpr ⟨t_in (t_in3 (List.mem_of_getElem? (i := 79) rfl)), rfl⟩
set_option maxRecDepth 20000 in
theorem k_560 : (Jvm.Cond.instanceMethod ({ cls := "PrunedSearch$Code", name := "setArguments", desc := "(II)V" } : Jvm.MethodName)) ∈ Wt := List.mem_filter.mpr ⟨t_in (t_in3 (List.mem_of_getElem? (i := 80) rfl)), rfl⟩
set_option maxRecDepth 20000 in
theorem k_561 : (Jvm.Cond.selects "PrunedSearch$Code" ({ cls := "PrunedSearch$Code", name := "setArguments", desc := "(II)V" } : Jvm.MethodName) ({ cls := "PrunedSearch$Code", name := "setArguments", desc := "(II)V" } : Jvm.MethodName)) ∈ Wt := List.mem_filter.mpr ⟨t_in (t_in3 (List.mem_of_getElem? (i := 81) rfl)), rfl⟩
set_option maxRecDepth 20000 in
theorem k_562 : (Jvm.Cond.code ({ cls := "PrunedSearch$Code", name := "setArguments", desc := "(II)V" } : Jvm.MethodName) prog_4_method_4_code (3 : Nat) (Option.none : Option Jvm.ClassFile.FieldType)) ∈ Wt := List.mem_filter.mpr ⟨t_in (t_in3 (List.mem_of_getElem? (i := 82) rfl)), rfl⟩
set_option maxRecDepth 20000 in
theorem k_563 : (Jvm.Cond.methodLink "PrunedSearch$ClauseReader" (134 : Nat) ({ cls := "PrunedSearch$ClauseReader", name := "readList", desc := "()Z" } : Jvm.MethodName)) ∈ Wt := List.mem_filter.mpr ⟨t_in (t_in3 (List.mem_of_getElem? (i := 83) rfl)), rfl⟩
set_option maxRecDepth 20000 in
theorem k_565 : (Jvm.Cond.instanceMethod ({ cls := "PrunedSearch$ClauseReader", name := "readList", desc := "()Z" } : Jvm.MethodName)) ∈ Wt := List.mem_filter.mpr ⟨t_in (t_in3 (List.mem_of_getElem? (i := 85) rfl)), rfl⟩
set_option maxRecDepth 20000 in
theorem k_566 : (Jvm.Cond.code ({ cls := "PrunedSearch$ClauseReader", name := "readList", desc := "()Z" } : Jvm.MethodName) prog_3_method_13_code (3 : Nat) (Option.some Jvm.ClassFile.FieldType.boolean)) ∈ Wt := List.mem_filter.mpr ⟨t_in (t_in3 (List.mem_of_getElem? (i := 86) rfl)), rfl⟩
set_option maxRecDepth 20000 in
theorem k_567 : (Jvm.Cond.methodLink "PrunedSearch$ClauseReader" (59 : Nat) ({ cls := "PrunedSearch$ClauseReader", name := "readGoals", desc := "()Z" } : Jvm.MethodName)) ∈ Wt := List.mem_filter.mpr ⟨t_in (t_in3 (List.mem_of_getElem? (i := 87) rfl)), rfl⟩
set_option maxRecDepth 20000 in
theorem k_569 : (Jvm.Cond.instanceMethod ({ cls := "PrunedSearch$ClauseReader", name := "readGoals", desc := "()Z" } : Jvm.MethodName)) ∈ Wt := List.mem_filter.mpr ⟨t_in (t_in3 (List.mem_of_getElem? (i := 89) rfl)), rfl⟩
set_option maxRecDepth 20000 in
theorem k_570 : (Jvm.Cond.code ({ cls := "PrunedSearch$ClauseReader", name := "readGoals", desc := "()Z" } : Jvm.MethodName) prog_3_method_10_code (3 : Nat) (Option.some Jvm.ClassFile.FieldType.boolean)) ∈ Wt := List.mem_filter.mpr ⟨t_in (t_in3 (List.mem_of_getElem? (i := 90) rfl)), rfl⟩
set_option maxRecDepth 20000 in
theorem k_571 : (Jvm.Cond.methodLink "PrunedSearch$ClauseReader" (62 : Nat) ({ cls := "PrunedSearch$ClauseReader", name := "endPart", desc := "()Z" } : Jvm.MethodName)) ∈ Wt := List.mem_filter.mpr ⟨t_in (t_in3 (List.mem_of_getElem? (i := 91) rfl)), rfl⟩
set_option maxRecDepth 20000 in
theorem k_573 : (Jvm.Cond.instanceMethod ({ cls := "PrunedSearch$ClauseReader", name := "endPart", desc := "()Z" } : Jvm.MethodName)) ∈ Wt := List.mem_filter.mpr ⟨t_in (t_in3 (List.mem_of_getElem? (i := 93) rfl)), rfl⟩
set_option maxRecDepth 20000 in
theorem k_574 : (Jvm.Cond.code ({ cls := "PrunedSearch$ClauseReader", name := "endPart", desc := "()Z" } : Jvm.MethodName) prog_3_method_8_code (1 : Nat) (Option.some Jvm.ClassFile.FieldType.boolean)) ∈ Wt := List.mem_filter.mpr ⟨t_in (t_in3 (List.mem_of_getElem? (i := 94) rfl)), rfl⟩
set_option maxRecDepth 20000 in
theorem k_575 : (Jvm.Cond.methodLink "PrunedSearch$ClauseReader" (51 : Nat) ({ cls := "PrunedSearch$Code", name := "partCount", desc := "()I" } : Jvm.MethodName)) ∈ Wt := List.mem_filter.mpr ⟨t_in (t_in3 (List.mem_of_getElem? (i := 95) rfl)), rfl⟩
set_option maxRecDepth 20000 in
theorem k_576 : (Jvm.Cond.methodLink "PrunedSearch$ClauseReader" (108 : Nat) ({ cls := "PrunedSearch$Code", name := "symbolsSince", desc := "(I)I" } : Jvm.MethodName)) ∈ Wt := List.mem_filter.mpr ⟨t_in (t_in3 (List.mem_of_getElem? (i := 96) rfl)), rfl⟩
set_option maxRecDepth 20000 in
theorem k_577 : (Jvm.Cond.instanceMethod ({ cls := "PrunedSearch$Code", name := "symbolsSince", desc := "(I)I" } : Jvm.MethodName)) ∈ Wt := List.mem_filter.mpr ⟨t_in (t_in3 (List.mem_of_getElem? (i := 97) rfl)), rfl⟩
set_option maxRecDepth 20000 in
theorem k_578 : (Jvm.Cond.selects "PrunedSearch$Code" ({ cls := "PrunedSearch$Code", name := "symbolsSince", desc := "(I)I" } : Jvm.MethodName) ({ cls := "PrunedSearch$Code", name := "symbolsSince", desc := "(I)I" } : Jvm.MethodName)) ∈ Wt := List.mem_filter.mpr ⟨t_in (t_in3 (List.mem_of_getElem? (i := 98) rfl)), rfl⟩
set_option maxRecDepth 20000 in
theorem k_579 : (Jvm.Cond.code ({ cls := "PrunedSearch$Code", name := "symbolsSince", desc := "(I)I" } : Jvm.MethodName) prog_4_method_13_code (2 : Nat) (Option.some Jvm.ClassFile.FieldType.int)) ∈ Wt := List.mem_filter.mpr ⟨t_in (t_in3 (List.mem_of_getElem? (i := 99) rfl)), rfl⟩
set_option maxRecDepth 20000 in
theorem k_580 : (Jvm.Cond.methodLink "PrunedSearch$Code" (28 : Nat) ({ cls := "PrunedSearch$Code", name := "startOf", desc := "(I)I" } : Jvm.MethodName)) ∈ Wt := List.mem_filter.mpr ⟨t_in (t_in3 (List.mem_of_getElem? (i := 100) rfl)), rfl⟩
set_option maxRecDepth 20000 in
theorem k_581 : (Jvm.Cond.instanceMethod ({ cls := "PrunedSearch$Code", name := "startOf", desc := "(I)I" } : Jvm.MethodName)) ∈ Wt := List.mem_filter.mpr ⟨t_in (t_in3 (List.mem_of_getElem? (i := 101) rfl)), rfl⟩
set_option maxRecDepth 20000 in
theorem k_582 : (Jvm.Cond.selects "PrunedSearch$Code" ({ cls := "PrunedSearch$Code", name := "startOf", desc := "(I)I" } : Jvm.MethodName) ({ cls := "PrunedSearch$Code", name := "startOf", desc := "(I)I" } : Jvm.MethodName)) ∈ Wt := List.mem_filter.mpr ⟨t_in (t_in3 (List.mem_of_getElem? (i := 102) rfl)), rfl⟩
set_option maxRecDepth 20000 in
theorem k_583 : (Jvm.Cond.code ({ cls := "PrunedSearch$Code", name := "startOf", desc := "(I)I" } : Jvm.MethodName) prog_4_method_9_code (2 : Nat) (Option.some Jvm.ClassFile.FieldType.int)) ∈ Wt := List.mem_filter.mpr ⟨t_in (t_in3 (List.mem_of_getElem? (i := 103) rfl)), rfl⟩
set_option maxRecDepth 20000 in
theorem k_584 : (Jvm.Cond.methodLink "PrunedSearch$ClauseReader" (111 : Nat) ({ cls := "PrunedSearch$Code", name := "endPart", desc := "()V" } : Jvm.MethodName)) ∈ Wt := List.mem_filter.mpr ⟨t_in (t_in3 (List.mem_of_getElem? (i := 104) rfl)), rfl⟩
set_option maxRecDepth 20000 in
theorem k_585 : (Jvm.Cond.instanceMethod ({ cls := "PrunedSearch$Code", name := "endPart", desc := "()V" } : Jvm.MethodName)) ∈ Wt := List.mem_filter.mpr ⟨t_in (t_in3 (List.mem_of_getElem? (i := 105) rfl)), rfl⟩
set_option maxRecDepth 20000 in
theorem k_586 : (Jvm.Cond.selects "PrunedSearch$Code" ({ cls := "PrunedSearch$Code", name := "endPart", desc := "()V" } : Jvm.MethodName) ({ cls := "PrunedSearch$Code", name := "endPart", desc := "()V" } : Jvm.MethodName)) ∈ Wt := List.mem_filter.mpr ⟨t_in (t_in3 (List.mem_of_getElem? (i := 106) rfl)), rfl⟩
set_option maxRecDepth 20000 in
theorem k_587 : (Jvm.Cond.code ({ cls := "PrunedSearch$Code", name := "endPart", desc := "()V" } : Jvm.MethodName) prog_4_method_5_code (1 : Nat) (Option.none : Option Jvm.ClassFile.FieldType)) ∈ Wt := List.mem_filter.mpr ⟨t_in (t_in3 (List.mem_of_getElem? (i := 107) rfl)), rfl⟩
set_option maxRecDepth 20000 in
theorem k_588 : (Jvm.Cond.methodLink "PrunedSearch$Code" (32 : Nat) ({ cls := "PrunedSearch$Code", name := "measure", desc := "(I)V" } : Jvm.MethodName)) ∈ Wt := List.mem_filter.mpr ⟨t_in (t_in3 (List.mem_of_getElem? (i := 108) rfl)), rfl⟩
set_option maxRecDepth 20000 in
theorem k_590 : (Jvm.Cond.instanceMethod ({ cls := "PrunedSearch$Code", name := "measure", desc := "(I)V" } : Jvm.MethodName)) ∈ Wt := List.mem_filter.mpr ⟨t_in (t_in3 (List.mem_of_getElem? (i := 110) rfl)), rfl⟩
set_option maxRecDepth 20000 in
theorem k_591 : (Jvm.Cond.code ({ cls := "PrunedSearch$Code", name := "measure", desc := "(I)V" } : Jvm.MethodName) prog_4_method_6_code (6 : Nat) (Option.none : Option Jvm.ClassFile.FieldType)) ∈ Wt := List.mem_filter.mpr ⟨t_in (t_in3 (List.mem_of_getElem? (i := 111) rfl)), rfl⟩
set_option maxRecDepth 20000 in
theorem k_592 : (Jvm.Cond.methodLinkNest "PrunedSearch$Code" (36 : Nat) ({ cls := "PrunedSearch", name := "argumentsOf", desc := "(I)I" } : Jvm.MethodName) "PrunedSearch") ∈ lw_tbl := t_in (t_in3 (List.mem_of_getElem? (i := 112) rfl))
set_option maxRecDepth 20000 in
theorem k_593 : (Jvm.Cond.static ({ cls := "PrunedSearch", name := "argumentsOf", desc := "(I)I" } : Jvm.MethodName)) ∈ Wt := List.mem_filter.mpr ⟨t_in (t_in3 (List.mem_of_getElem? (i := 113) rfl)), rfl⟩
set_option maxRecDepth 20000 in
theorem k_594 : (Jvm.Cond.code ({ cls := "PrunedSearch", name := "argumentsOf", desc := "(I)I" } : Jvm.MethodName) prog_1_method_15_code (1 : Nat) (Option.some Jvm.ClassFile.FieldType.int)) ∈ Wt := List.mem_filter.mpr ⟨t_in (t_in3 (List.mem_of_getElem? (i := 114) rfl)), rfl⟩
set_option maxRecDepth 20000 in
theorem k_595 : (Jvm.Cond.methodLink "PrunedSearch$ClauseReader" (55 : Nat) ({ cls := "PrunedSearch$ClauseReader", name := "outcome", desc := "(ZI)I" } : Jvm.MethodName)) ∈ Wt := List.mem_filter.mpr ⟨t_in (t_in3 (List.mem_of_getElem? (i := 115) rfl)), rfl⟩
set_option maxRecDepth 20000 in
theorem k_597 : (Jvm.Cond.instanceMethod ({ cls := "PrunedSearch$ClauseReader", name := "outcome", desc := "(ZI)I" } : Jvm.MethodName)) ∈ Wt := List.mem_filter.mpr ⟨t_in (t_in3 (List.mem_of_getElem? (i := 117) rfl)), rfl⟩
set_option maxRecDepth 20000 in
theorem k_598 : (Jvm.Cond.code ({ cls := "PrunedSearch$ClauseReader", name := "outcome", desc := "(ZI)I" } : Jvm.MethodName) prog_3_method_6_code (3 : Nat) (Option.some Jvm.ClassFile.FieldType.int)) ∈ Wt := List.mem_filter.mpr ⟨t_in (t_in3 (List.mem_of_getElem? (i := 118) rfl)), rfl⟩
set_option maxRecDepth 20000 in
theorem k_599 : (Jvm.Cond.methodLink "PrunedSearch$ClauseReader" (84 : Nat) ({ cls := "PrunedSearch$Names", name := "areTooMany", desc := "()Z" } : Jvm.MethodName)) ∈ Wt := List.mem_filter.mpr ⟨t_in (t_in3 (List.mem_of_getElem? (i := 119) rfl)), rfl⟩
set_option maxRecDepth 20000 in
theorem k_600 : (Jvm.Cond.instanceMethod ({ cls := "PrunedSearch$Names", name := "areTooMany", desc := "()Z" } : Jvm.MethodName)) ∈ Wt := List.mem_filter.mpr ⟨t_in (t_in3 (List.mem_of_getElem? (i := 120) rfl)), rfl⟩
set_option maxRecDepth 20000 in
theorem k_601 : (Jvm.Cond.selects "PrunedSearch$Names" ({ cls := "PrunedSearch$Names", name := "areTooMany", desc := "()Z" } : Jvm.MethodName) ({ cls := "PrunedSearch$Names", name := "areTooMany", desc := "()Z" } : Jvm.MethodName)) ∈ Wt := List.mem_filter.mpr ⟨t_in (t_in3 (List.mem_of_getElem? (i := 121) rfl)), rfl⟩
set_option maxRecDepth 20000 in
theorem k_602 : (Jvm.Cond.code ({ cls := "PrunedSearch$Names", name := "areTooMany", desc := "()Z" } : Jvm.MethodName) prog_6_method_4_code (1 : Nat) (Option.some Jvm.ClassFile.FieldType.boolean)) ∈ Wt := List.mem_filter.mpr ⟨t_in (t_in3 (List.mem_of_getElem? (i := 122) rfl)), rfl⟩
set_option maxRecDepth 20000 in
theorem k_603 : (Jvm.Cond.methodLink "PrunedSearch$ClauseReader" (89 : Nat) ({ cls := "PrunedSearch$Names", name := "keep", desc := "()V" } : Jvm.MethodName)) ∈ Wt := List.mem_filter.mpr ⟨t_in (t_in3 (List.mem_of_getElem? (i := 123) rfl)), rfl⟩
set_option maxRecDepth 20000 in
theorem k_604 : (Jvm.Cond.instanceMethod ({ cls := "PrunedSearch$Names", name := "keep", desc := "()V" } : Jvm.MethodName)) ∈ Wt := List.mem_filter.mpr ⟨t_in (t_in3 (List.mem_of_getElem? (i := 124) rfl)), rfl⟩
set_option maxRecDepth 20000 in
theorem k_605 : (Jvm.Cond.selects "PrunedSearch$Names" ({ cls := "PrunedSearch$Names", name := "keep", desc := "()V" } : Jvm.MethodName) ({ cls := "PrunedSearch$Names", name := "keep", desc := "()V" } : Jvm.MethodName)) ∈ Wt := List.mem_filter.mpr ⟨t_in (t_in3 (List.mem_of_getElem? (i := 125) rfl)), rfl⟩
set_option maxRecDepth 20000 in
theorem k_606 : (Jvm.Cond.code ({ cls := "PrunedSearch$Names", name := "keep", desc := "()V" } : Jvm.MethodName) prog_6_method_5_code (1 : Nat) (Option.none : Option Jvm.ClassFile.FieldType)) ∈ Wt := List.mem_filter.mpr ⟨t_in (t_in3 (List.mem_of_getElem? (i := 126) rfl)), rfl⟩
set_option maxRecDepth 20000 in
theorem k_607 : (Jvm.Cond.methodLink "PrunedSearch$ClauseReader" (92 : Nat) ({ cls := "PrunedSearch$Names", name := "drop", desc := "()V" } : Jvm.MethodName)) ∈ Wt := List.mem_filter.mpr ⟨t_in (t_in3 (List.mem_of_getElem? (i := 127) rfl)), rfl⟩
set_option maxRecDepth 20000 in
theorem k_608 : (Jvm.Cond.instanceMethod ({ cls := "PrunedSearch$Names", name := "drop", desc := "()V" } : Jvm.MethodName)) ∈ Wt := List.mem_filter.mpr ⟨t_in (t_in3 (List.mem_of_getElem? (i := 128) rfl)), rfl⟩
set_option maxRecDepth 20000 in
theorem k_609 : (Jvm.Cond.selects "PrunedSearch$Names" ({ cls := "PrunedSearch$Names", name := "drop", desc := "()V" } : Jvm.MethodName) ({ cls := "PrunedSearch$Names", name := "drop", desc := "()V" } : Jvm.MethodName)) ∈ Wt := List.mem_filter.mpr ⟨t_in (t_in3 (List.mem_of_getElem? (i := 129) rfl)), rfl⟩
set_option maxRecDepth 20000 in
theorem k_610 : (Jvm.Cond.code ({ cls := "PrunedSearch$Names", name := "drop", desc := "()V" } : Jvm.MethodName) prog_6_method_6_code (1 : Nat) (Option.none : Option Jvm.ClassFile.FieldType)) ∈ Wt := List.mem_filter.mpr ⟨t_in (t_in3 (List.mem_of_getElem? (i := 130) rfl)), rfl⟩
set_option maxRecDepth 20000 in
theorem k_611 : (Jvm.Cond.methodLink "PrunedSearch$ClauseReader" (95 : Nat) ({ cls := "PrunedSearch$Tokens", name := "placeAt", desc := "(I)I" } : Jvm.MethodName)) ∈ Wt := List.mem_filter.mpr ⟨t_in (t_in3 (List.mem_of_getElem? (i := 131) rfl)), rfl⟩
set_option maxRecDepth 20000 in
theorem k_612 : (Jvm.Cond.instanceMethod ({ cls := "PrunedSearch$Tokens", name := "placeAt", desc := "(I)I" } : Jvm.MethodName)) ∈ Wt := List.mem_filter.mpr ⟨t_in (t_in3 (List.mem_of_getElem? (i := 132) rfl)), rfl⟩
set_option maxRecDepth 20000 in
theorem k_613 : (Jvm.Cond.selects "PrunedSearch$Tokens" ({ cls := "PrunedSearch$Tokens", name := "placeAt", desc := "(I)I" } : Jvm.MethodName) ({ cls := "PrunedSearch$Tokens", name := "placeAt", desc := "(I)I" } : Jvm.MethodName)) ∈ Wt := List.mem_filter.mpr ⟨t_in (t_in3 (List.mem_of_getElem? (i := 133) rfl)), rfl⟩
set_option maxRecDepth 20000 in
theorem k_614 : (Jvm.Cond.code ({ cls := "PrunedSearch$Tokens", name := "placeAt", desc := "(I)I" } : Jvm.MethodName) prog_11_method_7_code (2 : Nat) (Option.some Jvm.ClassFile.FieldType.int)) ∈ Wt := List.mem_filter.mpr ⟨t_in (t_in3 (List.mem_of_getElem? (i := 134) rfl)), rfl⟩
set_option maxRecDepth 20000 in
theorem k_615 : (Jvm.Cond.methodLink "PrunedSearch" (65 : Nat) ({ cls := "PrunedSearch$Text", name := "clear", desc := "()V" } : Jvm.MethodName)) ∈ Wt := List.mem_filter.mpr ⟨t_in (t_in3 (List.mem_of_getElem? (i := 135) rfl)), rfl⟩
set_option maxRecDepth 20000 in
theorem k_616 : (Jvm.Cond.instanceMethod ({ cls := "PrunedSearch$Text", name := "clear", desc := "()V" } : Jvm.MethodName)) ∈ Wt := List.mem_filter.mpr ⟨t_in (t_in3 (List.mem_of_getElem? (i := 136) rfl)), rfl⟩
set_option maxRecDepth 20000 in
theorem k_617 : (Jvm.Cond.selects "PrunedSearch$Text" ({ cls := "PrunedSearch$Text", name := "clear", desc := "()V" } : Jvm.MethodName) ({ cls := "PrunedSearch$Text", name := "clear", desc := "()V" } : Jvm.MethodName)) ∈ Wt := List.mem_filter.mpr ⟨t_in (t_in3 (List.mem_of_getElem? (i := 137) rfl)), rfl⟩
set_option maxRecDepth 20000 in
theorem k_618 : (Jvm.Cond.code ({ cls := "PrunedSearch$Text", name := "clear", desc := "()V" } : Jvm.MethodName) prog_10_method_4_code (1 : Nat) (Option.none : Option Jvm.ClassFile.FieldType)) ∈ Wt := List.mem_filter.mpr ⟨t_in (t_in3 (List.mem_of_getElem? (i := 138) rfl)), rfl⟩
set_option maxRecDepth 20000 in
theorem k_619 : (Jvm.Cond.methodLink "PrunedSearch" (68 : Nat) ({ cls := "PrunedSearch$ClauseReader", name := "code", desc := "()LPrunedSearch$Code;" } : Jvm.MethodName)) ∈ Wt := List.mem_filter.mpr ⟨t_in (t_in3 (List.mem_of_getElem? (i := 139) rfl)), rfl⟩
set_option maxRecDepth 20000 in
theorem k_620 : (Jvm.Cond.instanceMethod ({ cls := "PrunedSearch$ClauseReader", name := "code", desc := "()LPrunedSearch$Code;" } : Jvm.MethodName)) ∈ Wt := List.mem_filter.mpr ⟨t_in (t_in3 (List.mem_of_getElem? (i := 140) rfl)), rfl⟩
set_option maxRecDepth 20000 in
theorem k_621 : (Jvm.Cond.selects "PrunedSearch$ClauseReader" ({ cls := "PrunedSearch$ClauseReader", name := "code", desc := "()LPrunedSearch$Code;" } : Jvm.MethodName) ({ cls := "PrunedSearch$ClauseReader", name := "code", desc := "()LPrunedSearch$Code;" } : Jvm.MethodName)) ∈ Wt := List.mem_filter.mpr ⟨t_in (t_in3 (List.mem_of_getElem? (i := 141) rfl)), rfl⟩
set_option maxRecDepth 20000 in
theorem k_622 : (Jvm.Cond.code ({ cls := "PrunedSearch$ClauseReader", name := "code", desc := "()LPrunedSearch$Code;" } : Jvm.MethodName) prog_3_method_2_code (1 : Nat) (Option.some (Jvm.ClassFile.FieldType.object "PrunedSearch$Code"))) ∈ Wt := List.mem_filter.mpr ⟨t_in (t_in3 (List.mem_of_getElem? (i := 142) rfl)), rfl⟩
set_option maxRecDepth 20000 in
theorem k_623 : (Jvm.Cond.methodLink "PrunedSearch" (72 : Nat) ({ cls := "PrunedSearch$Code", name := "addParts", desc := "(LPrunedSearch$Code;)V" } : Jvm.MethodName)) ∈ Wt := List.mem_filter.mpr ⟨t_in (t_in3 (List.mem_of_getElem? (i := 143) rfl)), rfl⟩
set_option maxRecDepth 20000 in
theorem k_624 : (Jvm.Cond.instanceMethod ({ cls := "PrunedSearch$Code", name := "addParts", desc := "(LPrunedSearch$Code;)V" } : Jvm.MethodName)) ∈ Wt := List.mem_filter.mpr ⟨t_in (t_in3 (List.mem_of_getElem? (i := 144) rfl)), rfl⟩
set_option maxRecDepth 20000 in
theorem k_625 : (Jvm.Cond.selects "PrunedSearch$Code" ({ cls := "PrunedSearch$Code", name := "addParts", desc := "(LPrunedSearch$Code;)V" } : Jvm.MethodName) ({ cls := "PrunedSearch$Code", name := "addParts", desc := "(LPrunedSearch$Code;)V" } : Jvm.MethodName)) ∈ Wt := List.mem_filter.mpr ⟨t_in (t_in3 (List.mem_of_getElem? (i := 145) rfl)), rfl⟩
set_option maxRecDepth 20000 in
theorem k_626 : (Jvm.Cond.code ({ cls := "PrunedSearch$Code", name := "addParts", desc := "(LPrunedSearch$Code;)V" } : Jvm.MethodName) prog_4_method_7_code (4 : Nat) (Option.none : Option Jvm.ClassFile.FieldType)) ∈ Wt := List.mem_filter.mpr ⟨t_in (t_in3 (List.mem_of_getElem? (i := 146) rfl)), rfl⟩
set_option maxRecDepth 20000 in
theorem k_627 : (Jvm.Cond.methodLink "PrunedSearch$Code" (39 : Nat) ({ cls := "PrunedSearch$Code", name := "partCount", desc := "()I" } : Jvm.MethodName)) ∈ Wt := List.mem_filter.mpr ⟨t_in (t_in3 (List.mem_of_getElem? (i := 147) rfl)), rfl⟩
set_option maxRecDepth 20000 in
theorem k_628 : (Jvm.Cond.methodLink "PrunedSearch$Code" (43 : Nat) ({ cls := "PrunedSearch$Code", name := "endOf", desc := "(I)I" } : Jvm.MethodName)) ∈ Wt := List.mem_filter.mpr ⟨t_in (t_in3 (List.mem_of_getElem? (i := 148) rfl)), rfl⟩
set_option maxRecDepth 20000 in
theorem k_629 : (Jvm.Cond.instanceMethod ({ cls := "PrunedSearch$Code", name := "endOf", desc := "(I)I" } : Jvm.MethodName)) ∈ Wt := List.mem_filter.mpr ⟨t_in (t_in3 (List.mem_of_getElem? (i := 149) rfl)), rfl⟩
set_option maxRecDepth 20000 in
theorem k_630 : (Jvm.Cond.selects "PrunedSearch$Code" ({ cls := "PrunedSearch$Code", name := "endOf", desc := "(I)I" } : Jvm.MethodName) ({ cls := "PrunedSearch$Code", name := "endOf", desc := "(I)I" } : Jvm.MethodName)) ∈ Wt := List.mem_filter.mpr ⟨t_in (t_in3 (List.mem_of_getElem? (i := 150) rfl)), rfl⟩
set_option maxRecDepth 20000 in
theorem k_631 : (Jvm.Cond.code ({ cls := "PrunedSearch$Code", name := "endOf", desc := "(I)I" } : Jvm.MethodName) prog_4_method_10_code (2 : Nat) (Option.some Jvm.ClassFile.FieldType.int)) ∈ Wt := List.mem_filter.mpr ⟨t_in (t_in3 (List.mem_of_getElem? (i := 151) rfl)), rfl⟩
set_option maxRecDepth 20000 in
theorem k_632 : (Jvm.Cond.methodLink "PrunedSearch$Code" (46 : Nat) ({ cls := "PrunedSearch$Code", name := "symbolAt", desc := "(I)I" } : Jvm.MethodName)) ∈ Wt := List.mem_filter.mpr ⟨t_in (t_in3 (List.mem_of_getElem? (i := 152) rfl)), rfl⟩
set_option maxRecDepth 20000 in
theorem k_633 : (Jvm.Cond.instanceMethod ({ cls := "PrunedSearch$Code", name := "symbolAt", desc := "(I)I" } : Jvm.MethodName)) ∈ Wt := List.mem_filter.mpr ⟨t_in (t_in3 (List.mem_of_getElem? (i := 153) rfl)), rfl⟩
set_option maxRecDepth 20000 in
theorem k_634 : (Jvm.Cond.selects "PrunedSearch$Code" ({ cls := "PrunedSearch$Code", name := "symbolAt", desc := "(I)I" } : Jvm.MethodName) ({ cls := "PrunedSearch$Code", name := "symbolAt", desc := "(I)I" } : Jvm.MethodName)) ∈ Wt := List.mem_filter.mpr ⟨t_in (t_in3 (List.mem_of_getElem? (i := 154) rfl)), rfl⟩
set_option maxRecDepth 20000 in
theorem k_635 : (Jvm.Cond.code ({ cls := "PrunedSearch$Code", name := "symbolAt", desc := "(I)I" } : Jvm.MethodName) prog_4_method_11_code (2 : Nat) (Option.some Jvm.ClassFile.FieldType.int)) ∈ Wt := List.mem_filter.mpr ⟨t_in (t_in3 (List.mem_of_getElem? (i := 155) rfl)), rfl⟩
set_option maxRecDepth 20000 in
theorem k_636 : (Jvm.Cond.methodLink "PrunedSearch$Code" (49 : Nat) ({ cls := "PrunedSearch$Code", name := "add", desc := "(I)I" } : Jvm.MethodName)) ∈ Wt := List.mem_filter.mpr ⟨t_in (t_in3 (List.mem_of_getElem? (i := 156) rfl)), rfl⟩
set_option maxRecDepth 20000 in
theorem k_637 : (Jvm.Cond.methodLink "PrunedSearch$Code" (52 : Nat) ({ cls := "PrunedSearch$Code", name := "endPart", desc := "()V" } : Jvm.MethodName)) ∈ Wt := List.mem_filter.mpr ⟨t_in (t_in3 (List.mem_of_getElem? (i := 157) rfl)), rfl⟩
set_option maxRecDepth 20000 in
theorem k_642 : (Jvm.Cond.methodLink "PrunedSearch" (76 : Nat) ({ cls := "PrunedSearch$ClauseReader", name := "readQuestion", desc := "(LPrunedSearch$Text;)I" } : Jvm.MethodName)) ∈ Wt := List.mem_filter.mpr ⟨t_in (t_in3 (List.mem_of_getElem? (i := 162) rfl)), rfl⟩
set_option maxRecDepth 20000 in
theorem k_643 : (Jvm.Cond.instanceMethod ({ cls := "PrunedSearch$ClauseReader", name := "readQuestion", desc := "(LPrunedSearch$Text;)I" } : Jvm.MethodName)) ∈ Wt := List.mem_filter.mpr ⟨t_in (t_in3 (List.mem_of_getElem? (i := 163) rfl)), rfl⟩
set_option maxRecDepth 20000 in
theorem k_644 : (Jvm.Cond.selects "PrunedSearch$ClauseReader" ({ cls := "PrunedSearch$ClauseReader", name := "readQuestion", desc := "(LPrunedSearch$Text;)I" } : Jvm.MethodName) ({ cls := "PrunedSearch$ClauseReader", name := "readQuestion", desc := "(LPrunedSearch$Text;)I" } : Jvm.MethodName)) ∈ Wt := List.mem_filter.mpr ⟨t_in (t_in3 (List.mem_of_getElem? (i := 164) rfl)), rfl⟩
set_option maxRecDepth 20000 in
theorem k_645 : (Jvm.Cond.code ({ cls := "PrunedSearch$ClauseReader", name := "readQuestion", desc := "(LPrunedSearch$Text;)I" } : Jvm.MethodName) prog_3_method_4_code (3 : Nat) (Option.some Jvm.ClassFile.FieldType.int)) ∈ Wt := List.mem_filter.mpr ⟨t_in (t_in3 (List.mem_of_getElem? (i := 165) rfl)), rfl⟩
set_option maxRecDepth 20000 in
theorem k_646 : (Jvm.Cond.methodLink "PrunedSearch" (80 : Nat) ({ cls := "PrunedSearch$Search", name := "begin", desc := "(LPrunedSearch$Code;I)V" } : Jvm.MethodName)) ∈ Wt := List.mem_filter.mpr ⟨t_in (t_in3 (List.mem_of_getElem? (i := 166) rfl)), rfl⟩
set_option maxRecDepth 20000 in
theorem k_647 : (Jvm.Cond.instanceMethod ({ cls := "PrunedSearch$Search", name := "begin", desc := "(LPrunedSearch$Code;I)V" } : Jvm.MethodName)) ∈ Wt := List.mem_filter.mpr ⟨t_in (t_in3 (List.mem_of_getElem? (i := 167) rfl)), rfl⟩
set_option maxRecDepth 20000 in
theorem k_648 : (Jvm.Cond.selects "PrunedSearch$Search" ({ cls := "PrunedSearch$Search", name := "begin", desc := "(LPrunedSearch$Code;I)V" } : Jvm.MethodName) ({ cls := "PrunedSearch$Search", name := "begin", desc := "(LPrunedSearch$Code;I)V" } : Jvm.MethodName)) ∈ Wt := List.mem_filter.mpr ⟨t_in (t_in3 (List.mem_of_getElem? (i := 168) rfl)), rfl⟩
set_option maxRecDepth 20000 in
theorem k_649 : (Jvm.Cond.code ({ cls := "PrunedSearch$Search", name := "begin", desc := "(LPrunedSearch$Code;I)V" } : Jvm.MethodName) prog_7_method_3_code (4 : Nat) (Option.none : Option Jvm.ClassFile.FieldType)) ∈ Wt := List.mem_filter.mpr ⟨t_in (t_in3 (List.mem_of_getElem? (i := 169) rfl)), rfl⟩
set_option maxRecDepth 20000 in
theorem k_650 : (Jvm.Cond.methodLink "PrunedSearch$Search" (82 : Nat) ({ cls := "PrunedSearch$Terms", name := "copy", desc := "(LPrunedSearch$Code;I)I" } : Jvm.MethodName)) ∈ Wt := List.mem_filter.mpr ⟨t_in (t_in3 (List.mem_of_getElem? (i := 170) rfl)), rfl⟩
set_option maxRecDepth 20000 in
theorem k_651 : (Jvm.Cond.instanceMethod ({ cls := "PrunedSearch$Terms", name := "copy", desc := "(LPrunedSearch$Code;I)I" } : Jvm.MethodName)) ∈ Wt := List.mem_filter.mpr ⟨t_in (t_in3 (List.mem_of_getElem? (i := 171) rfl)), rfl⟩
set_option maxRecDepth 20000 in
theorem k_652 : (Jvm.Cond.selects "PrunedSearch$Terms" ({ cls := "PrunedSearch$Terms", name := "copy", desc := "(LPrunedSearch$Code;I)I" } : Jvm.MethodName) ({ cls := "PrunedSearch$Terms", name := "copy", desc := "(LPrunedSearch$Code;I)I" } : Jvm.MethodName)) ∈ Wt := List.mem_filter.mpr ⟨t_in (t_in3 (List.mem_of_getElem? (i := 172) rfl)), rfl⟩
set_option maxRecDepth 20000 in
theorem k_653 : (Jvm.Cond.code ({ cls := "PrunedSearch$Terms", name := "copy", desc := "(LPrunedSearch$Code;I)I" } : Jvm.MethodName) prog_9_method_5_code (7 : Nat) (Option.some Jvm.ClassFile.FieldType.int)) ∈ Wt := List.mem_filter.mpr ⟨t_in (t_in3 (List.mem_of_getElem? (i := 173) rfl)), rfl⟩
set_option maxRecDepth 20000 in
theorem k_654 : (Jvm.Cond.methodLink "PrunedSearch$Terms" (40 : Nat) ({ cls := "java/util/Arrays", name := "fill", desc := "([II)V" } : Jvm.MethodName)) ∈ Wt := List.mem_filter.mpr ⟨t_in (t_in3 (List.mem_of_getElem? (i := 174) rfl)), rfl⟩
set_option maxRecDepth 20000 in
theorem k_655 : (Jvm.Cond.static ({ cls := "java/util/Arrays", name := "fill", desc := "([II)V" } : Jvm.MethodName)) ∈ Wt := List.mem_filter.mpr ⟨t_in (t_in3 (List.mem_of_getElem? (i := 175) rfl)), rfl⟩
set_option maxRecDepth 20000 in
theorem k_656 : (Jvm.Cond.code ({ cls := "java/util/Arrays", name := "fill", desc := "([II)V" } : Jvm.MethodName) prog_19_method_103_code (4 : Nat) (Option.none : Option Jvm.ClassFile.FieldType)) ∈ Wt := List.mem_filter.mpr ⟨t_in (t_in3 (List.mem_of_getElem? (i := 176) rfl)), rfl⟩
set_option maxRecDepth 20000 in
theorem k_657 : (Jvm.Cond.methodLink "PrunedSearch$Terms" (46 : Nat) ({ cls := "PrunedSearch$Code", name := "endOf", desc := "(I)I" } : Jvm.MethodName)) ∈ Wt := List.mem_filter.mpr ⟨t_in (t_in3 (List.mem_of_getElem? (i := 177) rfl)), rfl⟩
set_option maxRecDepth 20000 in
theorem k_658 : (Jvm.Cond.methodLink "PrunedSearch$Terms" (52 : Nat) ({ cls := "PrunedSearch$Code", name := "startOf", desc := "(I)I" } : Jvm.MethodName)) ∈ Wt := List.mem_filter.mpr ⟨t_in (t_in3 (List.mem_of_getElem? (i := 178) rfl)), rfl⟩
set_option maxRecDepth 20000 in
theorem k_659 : (Jvm.Cond.methodLink "PrunedSearch$Terms" (55 : Nat) ({ cls := "PrunedSearch$Code", name := "symbolAt", desc := "(I)I" } : Jvm.MethodName)) ∈ Wt := List.mem_filter.mpr ⟨t_in (t_in3 (List.mem_of_getElem? (i := 179) rfl)), rfl⟩
set_option maxRecDepth 20000 in
theorem k_660 : (Jvm.Cond.methodLink "PrunedSearch$Terms" (58 : Nat) ({ cls := "PrunedSearch$Code", name := "sizeAt", desc := "(I)I" } : Jvm.MethodName)) ∈ Wt := List.mem_filter.mpr ⟨t_in (t_in3 (List.mem_of_getElem? (i := 180) rfl)), rfl⟩
set_option maxRecDepth 20000 in
theorem k_661 : (Jvm.Cond.instanceMethod ({ cls := "PrunedSearch$Code", name := "sizeAt", desc := "(I)I" } : Jvm.MethodName)) ∈ Wt := List.mem_filter.mpr ⟨t_in (t_in3 (List.mem_of_getElem? (i := 181) rfl)), rfl⟩
set_option maxRecDepth 20000 in
theorem k_662 : (Jvm.Cond.selects "PrunedSearch$Code" ({ cls := "PrunedSearch$Code", name := "sizeAt", desc := "(I)I" } : Jvm.MethodName) ({ cls := "PrunedSearch$Code", name := "sizeAt", desc := "(I)I" } : Jvm.MethodName)) ∈ Wt := List.mem_filter.mpr ⟨t_in (t_in3 (List.mem_of_getElem? (i := 182) rfl)), rfl⟩
set_option maxRecDepth 20000 in
theorem k_663 : (Jvm.Cond.code ({ cls := "PrunedSearch$Code", name := "sizeAt", desc := "(I)I" } : Jvm.MethodName) prog_4_method_12_code (2 : Nat) (Option.some Jvm.ClassFile.FieldType.int)) ∈ Wt := List.mem_filter.mpr ⟨t_in (t_in3 (List.mem_of_getElem? (i := 183) rfl)), rfl⟩
set_option maxRecDepth 20000 in
theorem k_664 : (Jvm.Cond.methodLink "PrunedSearch$Terms" (61 : Nat) ({ cls := "PrunedSearch$Terms", name := "sameVariable", desc := "(I)I" } : Jvm.MethodName)) ∈ Wt := List.mem_filter.mpr ⟨t_in (t_in3 (List.mem_of_getElem? (i := 184) rfl)), rfl⟩
set_option maxRecDepth 20000 in
theorem k_666 : (Jvm.Cond.instanceMethod ({ cls := "PrunedSearch$Terms", name := "sameVariable", desc := "(I)I" } : Jvm.MethodName)) ∈ Wt := List.mem_filter.mpr ⟨t_in (t_in3 (List.mem_of_getElem? (i := 186) rfl)), rfl⟩
set_option maxRecDepth 20000 in
theorem k_667 : (Jvm.Cond.code ({ cls := "PrunedSearch$Terms", name := "sameVariable", desc := "(I)I" } : Jvm.MethodName) prog_9_method_6_code (3 : Nat) (Option.some Jvm.ClassFile.FieldType.int)) ∈ Wt := List.mem_filter.mpr ⟨t_in (t_in3 (List.mem_of_getElem? (i := 187) rfl)), rfl⟩
set_option maxRecDepth 20000 in
theorem k_668 : (Jvm.Cond.methodLink "PrunedSearch$Search" (86 : Nat) ({ cls := "PrunedSearch$Terms", name := "cellCount", desc := "()I" } : Jvm.MethodName)) ∈ Wt := List.mem_filter.mpr ⟨t_in (t_in3 (List.mem_of_getElem? (i := 188) rfl)), rfl⟩
set_option maxRecDepth 20000 in
theorem k_669 : (Jvm.Cond.instanceMethod ({ cls := "PrunedSearch$Terms", name := "cellCount", desc := "()I" } : Jvm.MethodName)) ∈ Wt := List.mem_filter.mpr ⟨t_in (t_in3 (List.mem_of_getElem? (i := 189) rfl)), rfl⟩
set_option maxRecDepth 20000 in
theorem k_670 : (Jvm.Cond.selects "PrunedSearch$Terms" ({ cls := "PrunedSearch$Terms", name := "cellCount", desc := "()I" } : Jvm.MethodName) ({ cls := "PrunedSearch$Terms", name := "cellCount", desc := "()I" } : Jvm.MethodName)) ∈ Wt := List.mem_filter.mpr ⟨t_in (t_in3 (List.mem_of_getElem? (i := 190) rfl)), rfl⟩
set_option maxRecDepth 20000 in
theorem k_671 : (Jvm.Cond.code ({ cls := "PrunedSearch$Terms", name := "cellCount", desc := "()I" } : Jvm.MethodName) prog_9_method_2_code (1 : Nat) (Option.some Jvm.ClassFile.FieldType.int)) ∈ Wt := List.mem_filter.mpr ⟨t_in (t_in3 (List.mem_of_getElem? (i := 191) rfl)), rfl⟩
set_option maxRecDepth 20000 in
theorem k_672 : (Jvm.Cond.methodLink "PrunedSearch$Search" (90 : Nat) ({ cls := "PrunedSearch$Goals", name := "putBefore", desc := "(LPrunedSearch$Terms;III)V" } : Jvm.MethodName)) ∈ Wt := List.mem_filter.mpr ⟨t_in (t_in3 (List.mem_of_getElem? (i := 192) rfl)), rfl⟩
set_option maxRecDepth 20000 in
theorem k_673 : (Jvm.Cond.instanceMethod ({ cls := "PrunedSearch$Goals", name := "putBefore", desc := "(LPrunedSearch$Terms;III)V" } : Jvm.MethodName)) ∈ Wt := List.mem_filter.mpr ⟨t_in (t_in3 (List.mem_of_getElem? (i := 193) rfl)), rfl⟩
set_option maxRecDepth 20000 in
theorem k_674 : (Jvm.Cond.selects "PrunedSearch$Goals" ({ cls := "PrunedSearch$Goals", name := "putBefore", desc := "(LPrunedSearch$Terms;III)V" } : Jvm.MethodName) ({ cls := "PrunedSearch$Goals", name := "putBefore", desc := "(LPrunedSearch$Terms;III)V" } : Jvm.MethodName)) ∈ Wt := List.mem_filter.mpr ⟨t_in (t_in3 (List.mem_of_getElem? (i := 194) rfl)), rfl⟩
set_option maxRecDepth 20000 in
theorem k_675 : (Jvm.Cond.code ({ cls := "PrunedSearch$Goals", name := "putBefore", desc := "(LPrunedSearch$Terms;III)V" } : Jvm.MethodName) prog_5_method_6_code (9 : Nat) (Option.none : Option Jvm.ClassFile.FieldType)) ∈ Wt := List.mem_filter.mpr ⟨t_in (t_in3 (List.mem_of_getElem? (i := 195) rfl)), rfl⟩
set_option maxRecDepth 20000 in
theorem k_676 : (Jvm.Cond.methodLink "PrunedSearch$Goals" (32 : Nat) ({ cls := "PrunedSearch$Terms", name := "sizeAt", desc := "(I)I" } : Jvm.MethodName)) ∈ Wt := List.mem_filter.mpr ⟨t_in (t_in3 (List.mem_of_getElem? (i := 196) rfl)), rfl⟩
set_option maxRecDepth 20000 in
theorem k_677 : (Jvm.Cond.instanceMethod ({ cls := "PrunedSearch$Terms", name := "sizeAt", desc := "(I)I" } : Jvm.MethodName)) ∈ Wt := List.mem_filter.mpr ⟨t_in (t_in3 (List.mem_of_getElem? (i := 197) rfl)), rfl⟩
set_option maxRecDepth 20000 in
theorem k_678 : (Jvm.Cond.selects "PrunedSearch$Terms" ({ cls := "PrunedSearch$Terms", name := "sizeAt", desc := "(I)I" } : Jvm.MethodName) ({ cls := "PrunedSearch$Terms", name := "sizeAt", desc := "(I)I" } : Jvm.MethodName)) ∈ Wt := List.mem_filter.mpr ⟨t_in (t_in3 (List.mem_of_getElem? (i := 198) rfl)), rfl⟩
set_option maxRecDepth 20000 in
theorem k_679 : (Jvm.Cond.code ({ cls := "PrunedSearch$Terms", name := "sizeAt", desc := "(I)I" } : Jvm.MethodName) prog_9_method_9_code (2 : Nat) (Option.some Jvm.ClassFile.FieldType.int)) ∈ Wt := List.mem_filter.mpr ⟨t_in (t_in3 (List.mem_of_getElem? (i := 199) rfl)), rfl⟩
set_option maxRecDepth 20000 in
theorem k_680 : (Jvm.Cond.methodLink "PrunedSearch$Search" (94 : Nat) ({ cls := "java/lang/Math", name := "min", desc := "(II)I" } : Jvm.MethodName)) ∈ Wt := List.mem_filter.mpr ⟨t_in (t_in3 (List.mem_of_getElem? (i := 200) rfl)), rfl⟩
set_option maxRecDepth 20000 in
theorem k_681 : (Jvm.Cond.methodLink "PrunedSearch$Search" (100 : Nat) ({ cls := "PrunedSearch$Terms", name := "variableCell", desc := "(I)I" } : Jvm.MethodName)) ∈ Wt := List.mem_filter.mpr ⟨t_in (t_in3 (List.mem_of_getElem? (i := 201) rfl)), rfl⟩
set_option maxRecDepth 20000 in
theorem k_682 : (Jvm.Cond.instanceMethod ({ cls := "PrunedSearch$Terms", name := "variableCell", desc := "(I)I" } : Jvm.MethodName)) ∈ Wt := List.mem_filter.mpr ⟨t_in (t_in3 (List.mem_of_getElem? (i := 202) rfl)), rfl⟩
set_option maxRecDepth 20000 in
theorem k_683 : (Jvm.Cond.selects "PrunedSearch$Terms" ({ cls := "PrunedSearch$Terms", name := "variableCell", desc := "(I)I" } : Jvm.MethodName) ({ cls := "PrunedSearch$Terms", name := "variableCell", desc := "(I)I" } : Jvm.MethodName)) ∈ Wt := List.mem_filter.mpr ⟨t_in (t_in3 (List.mem_of_getElem? (i := 203) rfl)), rfl⟩
set_option maxRecDepth 20000 in
theorem k_684 : (Jvm.Cond.code ({ cls := "PrunedSearch$Terms", name := "variableCell", desc := "(I)I" } : Jvm.MethodName) prog_9_method_7_code (2 : Nat) (Option.some Jvm.ClassFile.FieldType.int)) ∈ Wt := List.mem_filter.mpr ⟨t_in (t_in3 (List.mem_of_getElem? (i := 204) rfl)), rfl⟩
set_option maxRecDepth 20000 in
theorem k_689 : (Jvm.Cond.methodLink "PrunedSearch" (84 : Nat) ({ cls := "PrunedSearch$Search", name := "goOn", desc := "(I)I" } : Jvm.MethodName)) ∈ Wt := List.mem_filter.mpr ⟨t_in (t_in3 (List.mem_of_getElem? (i := 209) rfl)), rfl⟩
set_option maxRecDepth 20000 in
theorem k_690 : (Jvm.Cond.instanceMethod ({ cls := "PrunedSearch$Search", name := "goOn", desc := "(I)I" } : Jvm.MethodName)) ∈ Wt := List.mem_filter.mpr ⟨t_in (t_in3 (List.mem_of_getElem? (i := 210) rfl)), rfl⟩
set_option maxRecDepth 20000 in
theorem k_691 : (Jvm.Cond.selects "PrunedSearch$Search" ({ cls := "PrunedSearch$Search", name := "goOn", desc := "(I)I" } : Jvm.MethodName) ({ cls := "PrunedSearch$Search", name := "goOn", desc := "(I)I" } : Jvm.MethodName)) ∈ Wt := List.mem_filter.mpr ⟨t_in (t_in3 (List.mem_of_getElem? (i := 211) rfl)), rfl⟩
set_option maxRecDepth 20000 in
theorem k_692 : (Jvm.Cond.code ({ cls := "PrunedSearch$Search", name := "goOn", desc := "(I)I" } : Jvm.MethodName) prog_7_method_4_code (3 : Nat) (Option.some Jvm.ClassFile.FieldType.int)) ∈ Wt := List.mem_filter.mpr ⟨t_in (t_in3 (List.mem_of_getElem? (i := 212) rfl)), rfl⟩
set_option maxRecDepth 20000 in
theorem k_693 : (Jvm.Cond.methodLink "PrunedSearch$Search" (104 : Nat) ({ cls := "PrunedSearch$Choices", name := "count", desc := "()I" } : Jvm.MethodName)) ∈ Wt := List.mem_filter.mpr ⟨t_in (t_in3 (List.mem_of_getElem? (i := 213) rfl)), rfl⟩
set_option maxRecDepth 20000 in
theorem k_694 : (Jvm.Cond.instanceMethod ({ cls := "PrunedSearch$Choices", name := "count", desc := "()I" } : Jvm.MethodName)) ∈ Wt := List.mem_filter.mpr ⟨t_in (t_in3 (List.mem_of_getElem? (i := 214) rfl)), rfl⟩
set_option maxRecDepth 20000 in
theorem k_695 : (Jvm.Cond.selects "PrunedSearch$Choices" ({ cls := "PrunedSearch$Choices", name := "count", desc := "()I" } : Jvm.MethodName) ({ cls := "PrunedSearch$Choices", name := "count", desc := "()I" } : Jvm.MethodName)) ∈ Wt := List.mem_filter.mpr ⟨t_in (t_in3 (List.mem_of_getElem? (i := 215) rfl)), rfl⟩
set_option maxRecDepth 20000 in
theorem k_696 : (Jvm.Cond.code ({ cls := "PrunedSearch$Choices", name := "count", desc := "()I" } : Jvm.MethodName) prog_2_method_2_code (1 : Nat) (Option.some Jvm.ClassFile.FieldType.int)) ∈ Wt := List.mem_filter.mpr ⟨t_in (t_in3 (List.mem_of_getElem? (i := 216) rfl)), rfl⟩
set_option maxRecDepth 20000 in
theorem k_697 : (Jvm.Cond.methodLink "PrunedSearch$Search" (107 : Nat) ({ cls := "PrunedSearch$Search", name := "step", desc := "()V" } : Jvm.MethodName)) ∈ Wt := List.mem_filter.mpr ⟨t_in (t_in3 (List.mem_of_getElem? (i := 217) rfl)), rfl⟩
set_option maxRecDepth 20000 in
theorem k_699 : (Jvm.Cond.instanceMethod ({ cls := "PrunedSearch$Search", name := "step", desc := "()V" } : Jvm.MethodName)) ∈ Wt := List.mem_filter.mpr ⟨t_in (t_in3 (List.mem_of_getElem? (i := 219) rfl)), rfl⟩
set_option maxRecDepth 20000 in
theorem k_700 : (Jvm.Cond.code ({ cls := "PrunedSearch$Search", name := "step", desc := "()V" } : Jvm.MethodName) prog_7_method_5_code (2 : Nat) (Option.none : Option Jvm.ClassFile.FieldType)) ∈ Wt := List.mem_filter.mpr ⟨t_in (t_in3 (List.mem_of_getElem? (i := 220) rfl)), rfl⟩
set_option maxRecDepth 20000 in
theorem k_701 : (Jvm.Cond.methodLink "PrunedSearch$Search" (110 : Nat) ({ cls := "PrunedSearch$Search", name := "takeChoice", desc := "()I" } : Jvm.MethodName)) ∈ Wt := List.mem_filter.mpr ⟨t_in (t_in3 (List.mem_of_getElem? (i := 221) rfl)), rfl⟩
set_option maxRecDepth 20000 in
theorem k_703 : (Jvm.Cond.instanceMethod ({ cls := "PrunedSearch$Search", name := "takeChoice", desc := "()I" } : Jvm.MethodName)) ∈ Wt := List.mem_filter.mpr ⟨t_in (t_in3 (List.mem_of_getElem? (i := 223) rfl)), rfl⟩
set_option maxRecDepth 20000 in
theorem k_704 : (Jvm.Cond.code ({ cls := "PrunedSearch$Search", name := "takeChoice", desc := "()I" } : Jvm.MethodName) prog_7_method_6_code (1 : Nat) (Option.some Jvm.ClassFile.FieldType.int)) ∈ Wt := List.mem_filter.mpr ⟨t_in (t_in3 (List.mem_of_getElem? (i := 224) rfl)), rfl⟩
set_option maxRecDepth 20000 in
theorem k_705 : (Jvm.Cond.methodLink "PrunedSearch$Search" (122 : Nat) ({ cls := "PrunedSearch$Choices", name := "goBack", desc := "(LPrunedSearch$Goals;LPrunedSearch$Terms;)I" } : Jvm.MethodName)) ∈ Wt := List.mem_filter.mpr ⟨t_in (t_in3 (List.mem_of_getElem? (i := 225) rfl)), rfl⟩
set_option maxRecDepth 20000 in
theorem k_706 : (Jvm.Cond.instanceMethod ({ cls := "PrunedSearch$Choices", name := "goBack", desc := "(LPrunedSearch$Goals;LPrunedSearch$Terms;)I" } : Jvm.MethodName)) ∈ Wt := List.mem_filter.mpr ⟨t_in (t_in3 (List.mem_of_getElem? (i := 226) rfl)), rfl⟩
set_option maxRecDepth 20000 in
theorem k_707 : (Jvm.Cond.selects "PrunedSearch$Choices" ({ cls := "PrunedSearch$Choices", name := "goBack", desc := "(LPrunedSearch$Goals;LPrunedSearch$Terms;)I" } : Jvm.MethodName) ({ cls := "PrunedSearch$Choices", name := "goBack", desc := "(LPrunedSearch$Goals;LPrunedSearch$Terms;)I" } : Jvm.MethodName)) ∈ Wt := List.mem_filter.mpr ⟨t_in (t_in3 (List.mem_of_getElem? (i := 227) rfl)), rfl⟩
set_option maxRecDepth 20000 in
theorem k_708 : (Jvm.Cond.code ({ cls := "PrunedSearch$Choices", name := "goBack", desc := "(LPrunedSearch$Goals;LPrunedSearch$Terms;)I" } : Jvm.MethodName) prog_2_method_5_code (4 : Nat) (Option.some Jvm.ClassFile.FieldType.int)) ∈ Wt := List.mem_filter.mpr ⟨t_in (t_in3 (List.mem_of_getElem? (i := 228) rfl)), rfl⟩
set_option maxRecDepth 20000 in
theorem k_709 : (Jvm.Cond.methodLink "PrunedSearch$Choices" (52 : Nat) ({ cls := "PrunedSearch$Goals", name := "goBack", desc := "(II)V" } : Jvm.MethodName)) ∈ Wt := List.mem_filter.mpr ⟨t_in (t_in3 (List.mem_of_getElem? (i := 229) rfl)), rfl⟩
set_option maxRecDepth 20000 in
theorem k_710 : (Jvm.Cond.methodLink "PrunedSearch$Choices" (58 : Nat) ({ cls := "PrunedSearch$Terms", name := "goBack", desc := "(II)V" } : Jvm.MethodName)) ∈ Wt := List.mem_filter.mpr ⟨t_in (t_in3 (List.mem_of_getElem? (i := 230) rfl)), rfl⟩
set_option maxRecDepth 20000 in
theorem k_711 : (Jvm.Cond.methodLink "PrunedSearch$Search" (119 : Nat) ({ cls := "PrunedSearch$Goals", name := "first", desc := "()I" } : Jvm.MethodName)) ∈ Wt := List.mem_filter.mpr ⟨t_in (t_in3 (List.mem_of_getElem? (i := 231) rfl)), rfl⟩
set_option maxRecDepth 20000 in
theorem k_712 : (Jvm.Cond.instanceMethod ({ cls := "PrunedSearch$Goals", name := "first", desc := "()I" } : Jvm.MethodName)) ∈ Wt := List.mem_filter.mpr ⟨t_in (t_in3 (List.mem_of_getElem? (i := 232) rfl)), rfl⟩
set_option maxRecDepth 20000 in
theorem k_713 : (Jvm.Cond.selects "PrunedSearch$Goals" ({ cls := "PrunedSearch$Goals", name := "first", desc := "()I" } : Jvm.MethodName) ({ cls := "PrunedSearch$Goals", name := "first", desc := "()I" } : Jvm.MethodName)) ∈ Wt := List.mem_filter.mpr ⟨t_in (t_in3 (List.mem_of_getElem? (i := 233) rfl)), rfl⟩
set_option maxRecDepth 20000 in
theorem k_714 : (Jvm.Cond.code ({ cls := "PrunedSearch$Goals", name := "first", desc := "()I" } : Jvm.MethodName) prog_5_method_2_code (1 : Nat) (Option.some Jvm.ClassFile.FieldType.int)) ∈ Wt := List.mem_filter.mpr ⟨t_in (t_in3 (List.mem_of_getElem? (i := 234) rfl)), rfl⟩
set_option maxRecDepth 20000 in
theorem k_715 : (Jvm.Cond.methodLink "PrunedSearch$Search" (125 : Nat) ({ cls := "PrunedSearch$Goals", name := "termOf", desc := "(I)I" } : Jvm.MethodName)) ∈ Wt := List.mem_filter.mpr ⟨t_in (t_in3 (List.mem_of_getElem? (i := 235) rfl)), rfl⟩
set_option maxRecDepth 20000 in
theorem k_716 : (Jvm.Cond.instanceMethod ({ cls := "PrunedSearch$Goals", name := "termOf", desc := "(I)I" } : Jvm.MethodName)) ∈ Wt := List.mem_filter.mpr ⟨t_in (t_in3 (List.mem_of_getElem? (i := 236) rfl)), rfl⟩
set_option maxRecDepth 20000 in
theorem k_717 : (Jvm.Cond.selects "PrunedSearch$Goals" ({ cls := "PrunedSearch$Goals", name := "termOf", desc := "(I)I" } : Jvm.MethodName) ({ cls := "PrunedSearch$Goals", name := "termOf", desc := "(I)I" } : Jvm.MethodName)) ∈ Wt := List.mem_filter.mpr ⟨t_in (t_in3 (List.mem_of_getElem? (i := 237) rfl)), rfl⟩
set_option maxRecDepth 20000 in
theorem k_718 : (Jvm.Cond.code ({ cls := "PrunedSearch$Goals", name := "termOf", desc := "(I)I" } : Jvm.MethodName) prog_5_method_7_code (2 : Nat) (Option.some Jvm.ClassFile.FieldType.int)) ∈ Wt := List.mem_filter.mpr ⟨t_in (t_in3 (List.mem_of_getElem? (i := 238) rfl)), rfl⟩
set_option maxRecDepth 20000 in
theorem k_719 : (Jvm.Cond.methodLink "PrunedSearch$Search" (131 : Nat) ({ cls := "PrunedSearch$Goals", name := "takeFirst", desc := "()V" } : Jvm.MethodName)) ∈ Wt := List.mem_filter.mpr ⟨t_in (t_in3 (List.mem_of_getElem? (i := 239) rfl)), rfl⟩
set_option maxRecDepth 20000 in
theorem k_720 : (Jvm.Cond.instanceMethod ({ cls := "PrunedSearch$Goals", name := "takeFirst", desc := "()V" } : Jvm.MethodName)) ∈ Wt := List.mem_filter.mpr ⟨t_in (t_in4 (List.mem_of_getElem? (i := 0) rfl)), rfl⟩
set_option maxRecDepth 20000 in
theorem k_721 : (Jvm.Cond.selects "PrunedSearch$Goals" ({ cls := "PrunedSearch$Goals", name := "takeFirst", desc := "()V" } : Jvm.MethodName) ({ cls := "PrunedSearch$Goals", name := "takeFirst", desc := "()V" } : Jvm.MethodName)) ∈ Wt := List.mem_filter.mpr ⟨t_in (t_in4 (List.mem_of_getElem? (i := 1) rfl)), rfl⟩
set_option maxRecDepth 20000 in
theorem k_722 : (Jvm.Cond.code ({ cls := "PrunedSearch$Goals", name := "takeFirst", desc := "()V" } : Jvm.MethodName) prog_5_method_5_code (1 : Nat) (Option.none : Option Jvm.ClassFile.FieldType)) ∈ Wt := List.mem_filter.mpr ⟨t_in (t_in4 (List.mem_of_getElem? (i := 2) rfl)), rfl⟩
set_option maxRecDepth 20000 in
theorem k_723 : (Jvm.Cond.methodLink "PrunedSearch$Goals" (28 : Nat) ({ cls := "PrunedSearch$Goals", name := "after", desc := "(I)I" } : Jvm.MethodName)) ∈ Wt := List.mem_filter.mpr ⟨t_in (t_in4 (List.mem_of_getElem? (i := 3) rfl)), rfl⟩
set_option maxRecDepth 20000 in
theorem k_724 : (Jvm.Cond.instanceMethod ({ cls := "PrunedSearch$Goals", name := "after", desc := "(I)I" } : Jvm.MethodName)) ∈ Wt := List.mem_filter.mpr ⟨t_in (t_in4 (List.mem_of_getElem? (i := 4) rfl)), rfl⟩
set_option maxRecDepth 20000 in
theorem k_725 : (Jvm.Cond.selects "PrunedSearch$Goals" ({ cls := "PrunedSearch$Goals", name := "after", desc := "(I)I" } : Jvm.MethodName) ({ cls := "PrunedSearch$Goals", name := "after", desc := "(I)I" } : Jvm.MethodName)) ∈ Wt := List.mem_filter.mpr ⟨t_in (t_in4 (List.mem_of_getElem? (i := 5) rfl)), rfl⟩
set_option maxRecDepth 20000 in
theorem k_726 : (Jvm.Cond.code ({ cls := "PrunedSearch$Goals", name := "after", desc := "(I)I" } : Jvm.MethodName) prog_5_method_9_code (2 : Nat) (Option.some Jvm.ClassFile.FieldType.int)) ∈ Wt := List.mem_filter.mpr ⟨t_in (t_in4 (List.mem_of_getElem? (i := 6) rfl)), rfl⟩
set_option maxRecDepth 20000 in
theorem k_727 : (Jvm.Cond.methodLink "PrunedSearch$Search" (137 : Nat) ({ cls := "PrunedSearch$Choices", name := "takeCandidate", desc := "()I" } : Jvm.MethodName)) ∈ Wt := List.mem_filter.mpr ⟨t_in (t_in4 (List.mem_of_getElem? (i := 7) rfl)), rfl⟩
set_option maxRecDepth 20000 in
theorem k_728 : (Jvm.Cond.instanceMethod ({ cls := "PrunedSearch$Choices", name := "takeCandidate", desc := "()I" } : Jvm.MethodName)) ∈ Wt := List.mem_filter.mpr ⟨t_in (t_in4 (List.mem_of_getElem? (i := 8) rfl)), rfl⟩
set_option maxRecDepth 20000 in
theorem k_729 : (Jvm.Cond.selects "PrunedSearch$Choices" ({ cls := "PrunedSearch$Choices", name := "takeCandidate", desc := "()I" } : Jvm.MethodName) ({ cls := "PrunedSearch$Choices", name := "takeCandidate", desc := "()I" } : Jvm.MethodName)) ∈ Wt := List.mem_filter.mpr ⟨t_in (t_in4 (List.mem_of_getElem? (i := 9) rfl)), rfl⟩
set_option maxRecDepth 20000 in
theorem k_730 : (Jvm.Cond.code ({ cls := "PrunedSearch$Choices", name := "takeCandidate", desc := "()I" } : Jvm.MethodName) prog_2_method_6_code (3 : Nat) (Option.some Jvm.ClassFile.FieldType.int)) ∈ Wt := List.mem_filter.mpr ⟨t_in (t_in4 (List.mem_of_getElem? (i := 10) rfl)), rfl⟩
set_option maxRecDepth 20000 in
theorem k_731 : (Jvm.Cond.methodLink "PrunedSearch$Choices" (59 : Nat) ({ cls := "PrunedSearch$Choices", name := "firstOf", desc := "(I)I" } : Jvm.MethodName)) ∈ Wt := List.mem_filter.mpr ⟨t_in (t_in4 (List.mem_of_getElem? (i := 11) rfl)), rfl⟩
set_option maxRecDepth 20000 in
theorem k_732 : (Jvm.Cond.static ({ cls := "PrunedSearch$Choices", name := "firstOf", desc := "(I)I" } : Jvm.MethodName)) ∈ Wt := List.mem_filter.mpr ⟨t_in (t_in4 (List.mem_of_getElem? (i := 12) rfl)), rfl⟩
set_option maxRecDepth 20000 in
theorem k_733 : (Jvm.Cond.code ({ cls := "PrunedSearch$Choices", name := "firstOf", desc := "(I)I" } : Jvm.MethodName) prog_2_method_7_code (2 : Nat) (Option.some Jvm.ClassFile.FieldType.int)) ∈ Wt := List.mem_filter.mpr ⟨t_in (t_in4 (List.mem_of_getElem? (i := 13) rfl)), rfl⟩
set_option maxRecDepth 20000 in
theorem k_734 : (Jvm.Cond.methodLink "PrunedSearch$Choices" (63 : Nat) ({ cls := "PrunedSearch$Choices", name := "withoutFirst", desc := "(I)I" } : Jvm.MethodName)) ∈ Wt := List.mem_filter.mpr ⟨t_in (t_in4 (List.mem_of_getElem? (i := 14) rfl)), rfl⟩
set_option maxRecDepth 20000 in
theorem k_735 : (Jvm.Cond.static ({ cls := "PrunedSearch$Choices", name := "withoutFirst", desc := "(I)I" } : Jvm.MethodName)) ∈ Wt := List.mem_filter.mpr ⟨t_in (t_in4 (List.mem_of_getElem? (i := 15) rfl)), rfl⟩
set_option maxRecDepth 20000 in
theorem k_736 : (Jvm.Cond.code ({ cls := "PrunedSearch$Choices", name := "withoutFirst", desc := "(I)I" } : Jvm.MethodName) prog_2_method_8_code (1 : Nat) (Option.some Jvm.ClassFile.FieldType.int)) ∈ Wt := List.mem_filter.mpr ⟨t_in (t_in4 (List.mem_of_getElem? (i := 16) rfl)), rfl⟩
set_option maxRecDepth 20000 in
theorem k_737 : (Jvm.Cond.methodLink "PrunedSearch$Search" (113 : Nat) ({ cls := "PrunedSearch$Search", name := "takeGoal", desc := "()I" } : Jvm.MethodName)) ∈ Wt := List.mem_filter.mpr ⟨t_in (t_in4 (List.mem_of_getElem? (i := 17) rfl)), rfl⟩
set_option maxRecDepth 20000 in
theorem k_739 : (Jvm.Cond.instanceMethod ({ cls := "PrunedSearch$Search", name := "takeGoal", desc := "()I" } : Jvm.MethodName)) ∈ Wt := List.mem_filter.mpr ⟨t_in (t_in4 (List.mem_of_getElem? (i := 19) rfl)), rfl⟩
set_option maxRecDepth 20000 in
theorem k_740 : (Jvm.Cond.code ({ cls := "PrunedSearch$Search", name := "takeGoal", desc := "()I" } : Jvm.MethodName) prog_7_method_7_code (5 : Nat) (Option.some Jvm.ClassFile.FieldType.int)) ∈ Wt := List.mem_filter.mpr ⟨t_in (t_in4 (List.mem_of_getElem? (i := 20) rfl)), rfl⟩
set_option maxRecDepth 20000 in
theorem k_741 : (Jvm.Cond.methodLink "PrunedSearch$Search" (140 : Nat) ({ cls := "PrunedSearch$Terms", name := "symbolAt", desc := "(I)I" } : Jvm.MethodName)) ∈ Wt := List.mem_filter.mpr ⟨t_in (t_in4 (List.mem_of_getElem? (i := 21) rfl)), rfl⟩
set_option maxRecDepth 20000 in
theorem k_742 : (Jvm.Cond.instanceMethod ({ cls := "PrunedSearch$Terms", name := "symbolAt", desc := "(I)I" } : Jvm.MethodName)) ∈ Wt := List.mem_filter.mpr ⟨t_in (t_in4 (List.mem_of_getElem? (i := 22) rfl)), rfl⟩
set_option maxRecDepth 20000 in
theorem k_743 : (Jvm.Cond.selects "PrunedSearch$Terms" ({ cls := "PrunedSearch$Terms", name := "symbolAt", desc := "(I)I" } : Jvm.MethodName) ({ cls := "PrunedSearch$Terms", name := "symbolAt", desc := "(I)I" } : Jvm.MethodName)) ∈ Wt := List.mem_filter.mpr ⟨t_in (t_in4 (List.mem_of_getElem? (i := 23) rfl)), rfl⟩
set_option maxRecDepth 20000 in
theorem k_744 : (Jvm.Cond.code ({ cls := "PrunedSearch$Terms", name := "symbolAt", desc := "(I)I" } : Jvm.MethodName) prog_9_method_8_code (2 : Nat) (Option.some Jvm.ClassFile.FieldType.int)) ∈ Wt := List.mem_filter.mpr ⟨t_in (t_in4 (List.mem_of_getElem? (i := 24) rfl)), rfl⟩
set_option maxRecDepth 20000 in
theorem k_745 : (Jvm.Cond.methodLink "PrunedSearch$Search" (143 : Nat) ({ cls := "PrunedSearch$Goals", name := "cutOf", desc := "(I)I" } : Jvm.MethodName)) ∈ Wt := List.mem_filter.mpr ⟨t_in (t_in4 (List.mem_of_getElem? (i := 25) rfl)), rfl⟩
set_option maxRecDepth 20000 in
theorem k_746 : (Jvm.Cond.instanceMethod ({ cls := "PrunedSearch$Goals", name := "cutOf", desc := "(I)I" } : Jvm.MethodName)) ∈ Wt := List.mem_filter.mpr ⟨t_in (t_in4 (List.mem_of_getElem? (i := 26) rfl)), rfl⟩
set_option maxRecDepth 20000 in
theorem k_747 : (Jvm.Cond.selects "PrunedSearch$Goals" ({ cls := "PrunedSearch$Goals", name := "cutOf", desc := "(I)I" } : Jvm.MethodName) ({ cls := "PrunedSearch$Goals", name := "cutOf", desc := "(I)I" } : Jvm.MethodName)) ∈ Wt := List.mem_filter.mpr ⟨t_in (t_in4 (List.mem_of_getElem? (i := 27) rfl)), rfl⟩
set_option maxRecDepth 20000 in
theorem k_748 : (Jvm.Cond.code ({ cls := "PrunedSearch$Goals", name := "cutOf", desc := "(I)I" } : Jvm.MethodName) prog_5_method_8_code (2 : Nat) (Option.some Jvm.ClassFile.FieldType.int)) ∈ Wt := List.mem_filter.mpr ⟨t_in (t_in4 (List.mem_of_getElem? (i := 28) rfl)), rfl⟩
set_option maxRecDepth 20000 in
theorem k_749 : (Jvm.Cond.methodLinkNest "PrunedSearch$Search" (146 : Nat) ({ cls := "PrunedSearch", name := "argumentsOf", desc := "(I)I" } : Jvm.MethodName) "PrunedSearch") ∈ lw_tbl := t_in (t_in4 (List.mem_of_getElem? (i := 29) rfl))
set_option maxRecDepth 20000 in
theorem k_750 : (Jvm.Cond.methodLink "PrunedSearch$Search" (149 : Nat) ({ cls := "PrunedSearch$Names", name := "wordOf", desc := "(I)J" } : Jvm.MethodName)) ∈ Wt := List.mem_filter.mpr ⟨t_in (t_in4 (List.mem_of_getElem? (i := 30) rfl)), rfl⟩
set_option maxRecDepth 20000 in
theorem k_751 : (Jvm.Cond.instanceMethod ({ cls := "PrunedSearch$Names", name := "wordOf", desc := "(I)J" } : Jvm.MethodName)) ∈ Wt := List.mem_filter.mpr ⟨t_in (t_in4 (List.mem_of_getElem? (i := 31) rfl)), rfl⟩
set_option maxRecDepth 20000 in
theorem k_752 : (Jvm.Cond.selects "PrunedSearch$Names" ({ cls := "PrunedSearch$Names", name := "wordOf", desc := "(I)J" } : Jvm.MethodName) ({ cls := "PrunedSearch$Names", name := "wordOf", desc := "(I)J" } : Jvm.MethodName)) ∈ Wt := List.mem_filter.mpr ⟨t_in (t_in4 (List.mem_of_getElem? (i := 32) rfl)), rfl⟩
set_option maxRecDepth 20000 in
theorem k_753 : (Jvm.Cond.code ({ cls := "PrunedSearch$Names", name := "wordOf", desc := "(I)J" } : Jvm.MethodName) prog_6_method_3_code (3 : Nat) (Option.some Jvm.ClassFile.FieldType.long)) ∈ Wt := List.mem_filter.mpr ⟨t_in (t_in4 (List.mem_of_getElem? (i := 33) rfl)), rfl⟩
set_option maxRecDepth 20000 in
theorem k_754 : (Jvm.Cond.constantLong "PrunedSearch$Search" (155 : Nat) (1702195828 : Int64)) ∈ Wt := List.mem_filter.mpr ⟨t_in (t_in4 (List.mem_of_getElem? (i := 34) rfl)), rfl⟩
set_option maxRecDepth 20000 in
theorem k_755 : (Jvm.Cond.constantLong "PrunedSearch$Search" (157 : Nat) (1818845542 : Int64)) ∈ Wt := List.mem_filter.mpr ⟨t_in (t_in4 (List.mem_of_getElem? (i := 35) rfl)), rfl⟩
set_option maxRecDepth 20000 in
theorem k_756 : (Jvm.Cond.methodLink "PrunedSearch$Search" (159 : Nat) ({ cls := "PrunedSearch$Search", name := "candidates", desc := "(I)I" } : Jvm.MethodName)) ∈ Wt := List.mem_filter.mpr ⟨t_in (t_in4 (List.mem_of_getElem? (i := 36) rfl)), rfl⟩
set_option maxRecDepth 20000 in
theorem k_758 : (Jvm.Cond.instanceMethod ({ cls := "PrunedSearch$Search", name := "candidates", desc := "(I)I" } : Jvm.MethodName)) ∈ Wt := List.mem_filter.mpr ⟨t_in (t_in4 (List.mem_of_getElem? (i := 38) rfl)), rfl⟩
set_option maxRecDepth 20000 in
theorem k_759 : (Jvm.Cond.code ({ cls := "PrunedSearch$Search", name := "candidates", desc := "(I)I" } : Jvm.MethodName) prog_7_method_9_code (9 : Nat) (Option.some Jvm.ClassFile.FieldType.int)) ∈ Wt := List.mem_filter.mpr ⟨t_in (t_in4 (List.mem_of_getElem? (i := 39) rfl)), rfl⟩
set_option maxRecDepth 20000 in
theorem k_760 : (Jvm.Cond.methodLink "PrunedSearch$Search" (178 : Nat) ({ cls := "PrunedSearch$Terms", name := "standing", desc := "(I)I" } : Jvm.MethodName)) ∈ Wt := List.mem_filter.mpr ⟨t_in (t_in4 (List.mem_of_getElem? (i := 40) rfl)), rfl⟩
set_option maxRecDepth 20000 in
theorem k_761 : (Jvm.Cond.instanceMethod ({ cls := "PrunedSearch$Terms", name := "standing", desc := "(I)I" } : Jvm.MethodName)) ∈ Wt := List.mem_filter.mpr ⟨t_in (t_in4 (List.mem_of_getElem? (i := 41) rfl)), rfl⟩
set_option maxRecDepth 20000 in
theorem k_762 : (Jvm.Cond.selects "PrunedSearch$Terms" ({ cls := "PrunedSearch$Terms", name := "standing", desc := "(I)I" } : Jvm.MethodName) ({ cls := "PrunedSearch$Terms", name := "standing", desc := "(I)I" } : Jvm.MethodName)) ∈ Wt := List.mem_filter.mpr ⟨t_in (t_in4 (List.mem_of_getElem? (i := 42) rfl)), rfl⟩
set_option maxRecDepth 20000 in
theorem k_763 : (Jvm.Cond.code ({ cls := "PrunedSearch$Terms", name := "standing", desc := "(I)I" } : Jvm.MethodName) prog_9_method_11_code (4 : Nat) (Option.some Jvm.ClassFile.FieldType.int)) ∈ Wt := List.mem_filter.mpr ⟨t_in (t_in4 (List.mem_of_getElem? (i := 43) rfl)), rfl⟩
set_option maxRecDepth 20000 in
theorem k_764 : (Jvm.Cond.methodLink "PrunedSearch$Terms" (65 : Nat) ({ cls := "PrunedSearch$Terms", name := "nextStanding", desc := "(I)I" } : Jvm.MethodName)) ∈ Wt := List.mem_filter.mpr ⟨t_in (t_in4 (List.mem_of_getElem? (i := 44) rfl)), rfl⟩
set_option maxRecDepth 20000 in
theorem k_766 : (Jvm.Cond.instanceMethod ({ cls := "PrunedSearch$Terms", name := "nextStanding", desc := "(I)I" } : Jvm.MethodName)) ∈ Wt := List.mem_filter.mpr ⟨t_in (t_in4 (List.mem_of_getElem? (i := 46) rfl)), rfl⟩
set_option maxRecDepth 20000 in
theorem k_767 : (Jvm.Cond.code ({ cls := "PrunedSearch$Terms", name := "nextStanding", desc := "(I)I" } : Jvm.MethodName) prog_9_method_12_code (2 : Nat) (Option.some Jvm.ClassFile.FieldType.int)) ∈ Wt := List.mem_filter.mpr ⟨t_in (t_in4 (List.mem_of_getElem? (i := 47) rfl)), rfl⟩
set_option maxRecDepth 20000 in
theorem k_768 : (Jvm.Cond.methodLink "PrunedSearch$Search" (181 : Nat) ({ cls := "PrunedSearch$Code", name := "partCount", desc := "()I" } : Jvm.MethodName)) ∈ Wt := List.mem_filter.mpr ⟨t_in (t_in4 (List.mem_of_getElem? (i := 48) rfl)), rfl⟩
set_option maxRecDepth 20000 in
theorem k_769 : (Jvm.Cond.methodLink "PrunedSearch$Search" (186 : Nat) ({ cls := "PrunedSearch$Code", name := "startOf", desc := "(I)I" } : Jvm.MethodName)) ∈ Wt := List.mem_filter.mpr ⟨t_in (t_in4 (List.mem_of_getElem? (i := 49) rfl)), rfl⟩
set_option maxRecDepth 20000 in
theorem k_770 : (Jvm.Cond.methodLink "PrunedSearch$Search" (189 : Nat) ({ cls := "PrunedSearch$Code", name := "symbolAt", desc := "(I)I" } : Jvm.MethodName)) ∈ Wt := List.mem_filter.mpr ⟨t_in (t_in4 (List.mem_of_getElem? (i := 50) rfl)), rfl⟩
set_option maxRecDepth 20000 in
theorem k_771 : (Jvm.Cond.methodLink "PrunedSearch$Search" (162 : Nat) ({ cls := "PrunedSearch$Search", name := "choose", desc := "(II)I" } : Jvm.MethodName)) ∈ Wt := List.mem_filter.mpr ⟨t_in (t_in4 (List.mem_of_getElem? (i := 51) rfl)), rfl⟩
set_option maxRecDepth 20000 in
theorem k_773 : (Jvm.Cond.instanceMethod ({ cls := "PrunedSearch$Search", name := "choose", desc := "(II)I" } : Jvm.MethodName)) ∈ Wt := List.mem_filter.mpr ⟨t_in (t_in4 (List.mem_of_getElem? (i := 53) rfl)), rfl⟩
set_option maxRecDepth 20000 in
theorem k_774 : (Jvm.Cond.code ({ cls := "PrunedSearch$Search", name := "choose", desc := "(II)I" } : Jvm.MethodName) prog_7_method_8_code (4 : Nat) (Option.some Jvm.ClassFile.FieldType.int)) ∈ Wt := List.mem_filter.mpr ⟨t_in (t_in4 (List.mem_of_getElem? (i := 54) rfl)), rfl⟩
set_option maxRecDepth 20000 in
theorem k_775 : (Jvm.Cond.methodLink "PrunedSearch$Search" (165 : Nat) ({ cls := "PrunedSearch$Choices", name := "withoutFirst", desc := "(I)I" } : Jvm.MethodName)) ∈ Wt := List.mem_filter.mpr ⟨t_in (t_in4 (List.mem_of_getElem? (i := 55) rfl)), rfl⟩
set_option maxRecDepth 20000 in
theorem k_776 : (Jvm.Cond.methodLink "PrunedSearch$Search" (168 : Nat) ({ cls := "PrunedSearch$Goals", name := "heldCount", desc := "()I" } : Jvm.MethodName)) ∈ Wt := List.mem_filter.mpr ⟨t_in (t_in4 (List.mem_of_getElem? (i := 56) rfl)), rfl⟩
set_option maxRecDepth 20000 in
theorem k_777 : (Jvm.Cond.instanceMethod ({ cls := "PrunedSearch$Goals", name := "heldCount", desc := "()I" } : Jvm.MethodName)) ∈ Wt := List.mem_filter.mpr ⟨t_in (t_in4 (List.mem_of_getElem? (i := 57) rfl)), rfl⟩
set_option maxRecDepth 20000 in
theorem k_778 : (Jvm.Cond.selects "PrunedSearch$Goals" ({ cls := "PrunedSearch$Goals", name := "heldCount", desc := "()I" } : Jvm.MethodName) ({ cls := "PrunedSearch$Goals", name := "heldCount", desc := "()I" } : Jvm.MethodName)) ∈ Wt := List.mem_filter.mpr ⟨t_in (t_in4 (List.mem_of_getElem? (i := 58) rfl)), rfl⟩
set_option maxRecDepth 20000 in
theorem k_779 : (Jvm.Cond.code ({ cls := "PrunedSearch$Goals", name := "heldCount", desc := "()I" } : Jvm.MethodName) prog_5_method_3_code (1 : Nat) (Option.some Jvm.ClassFile.FieldType.int)) ∈ Wt := List.mem_filter.mpr ⟨t_in (t_in4 (List.mem_of_getElem? (i := 59) rfl)), rfl⟩
set_option maxRecDepth 20000 in
theorem k_780 : (Jvm.Cond.methodLink "PrunedSearch$Search" (171 : Nat) ({ cls := "PrunedSearch$Choices", name := "put", desc := "(IILPrunedSearch$Terms;II)V" } : Jvm.MethodName)) ∈ Wt := List.mem_filter.mpr ⟨t_in (t_in4 (List.mem_of_getElem? (i := 60) rfl)), rfl⟩
set_option maxRecDepth 20000 in
theorem k_781 : (Jvm.Cond.instanceMethod ({ cls := "PrunedSearch$Choices", name := "put", desc := "(IILPrunedSearch$Terms;II)V" } : Jvm.MethodName)) ∈ Wt := List.mem_filter.mpr ⟨t_in (t_in4 (List.mem_of_getElem? (i := 61) rfl)), rfl⟩
set_option maxRecDepth 20000 in
theorem k_782 : (Jvm.Cond.selects "PrunedSearch$Choices" ({ cls := "PrunedSearch$Choices", name := "put", desc := "(IILPrunedSearch$Terms;II)V" } : Jvm.MethodName) ({ cls := "PrunedSearch$Choices", name := "put", desc := "(IILPrunedSearch$Terms;II)V" } : Jvm.MethodName)) ∈ Wt := List.mem_filter.mpr ⟨t_in (t_in4 (List.mem_of_getElem? (i := 62) rfl)), rfl⟩
set_option maxRecDepth 20000 in
theorem k_783 : (Jvm.Cond.code ({ cls := "PrunedSearch$Choices", name := "put", desc := "(IILPrunedSearch$Terms;II)V" } : Jvm.MethodName) prog_2_method_3_code (6 : Nat) (Option.none : Option Jvm.ClassFile.FieldType)) ∈ Wt := List.mem_filter.mpr ⟨t_in (t_in4 (List.mem_of_getElem? (i := 63) rfl)), rfl⟩
set_option maxRecDepth 20000 in
theorem k_784 : (Jvm.Cond.methodLink "PrunedSearch$Choices" (34 : Nat) ({ cls := "PrunedSearch$Terms", name := "cellCount", desc := "()I" } : Jvm.MethodName)) ∈ Wt := List.mem_filter.mpr ⟨t_in (t_in4 (List.mem_of_getElem? (i := 64) rfl)), rfl⟩
set_option maxRecDepth 20000 in
theorem k_785 : (Jvm.Cond.methodLink "PrunedSearch$Choices" (40 : Nat) ({ cls := "PrunedSearch$Terms", name := "changeCount", desc := "()I" } : Jvm.MethodName)) ∈ Wt := List.mem_filter.mpr ⟨t_in (t_in4 (List.mem_of_getElem? (i := 65) rfl)), rfl⟩
set_option maxRecDepth 20000 in
theorem k_786 : (Jvm.Cond.instanceMethod ({ cls := "PrunedSearch$Terms", name := "changeCount", desc := "()I" } : Jvm.MethodName)) ∈ Wt := List.mem_filter.mpr ⟨t_in (t_in4 (List.mem_of_getElem? (i := 66) rfl)), rfl⟩
set_option maxRecDepth 20000 in
theorem k_787 : (Jvm.Cond.selects "PrunedSearch$Terms" ({ cls := "PrunedSearch$Terms", name := "changeCount", desc := "()I" } : Jvm.MethodName) ({ cls := "PrunedSearch$Terms", name := "changeCount", desc := "()I" } : Jvm.MethodName)) ∈ Wt := List.mem_filter.mpr ⟨t_in (t_in4 (List.mem_of_getElem? (i := 67) rfl)), rfl⟩
set_option maxRecDepth 20000 in
theorem k_788 : (Jvm.Cond.code ({ cls := "PrunedSearch$Terms", name := "changeCount", desc := "()I" } : Jvm.MethodName) prog_9_method_3_code (1 : Nat) (Option.some Jvm.ClassFile.FieldType.int)) ∈ Wt := List.mem_filter.mpr ⟨t_in (t_in4 (List.mem_of_getElem? (i := 68) rfl)), rfl⟩
set_option maxRecDepth 20000 in
theorem k_789 : (Jvm.Cond.methodLink "PrunedSearch$Search" (175 : Nat) ({ cls := "PrunedSearch$Choices", name := "firstOf", desc := "(I)I" } : Jvm.MethodName)) ∈ Wt := List.mem_filter.mpr ⟨t_in (t_in4 (List.mem_of_getElem? (i := 69) rfl)), rfl⟩
set_option maxRecDepth 20000 in
theorem k_790 : (Jvm.Cond.methodLink "PrunedSearch$Search" (116 : Nat) ({ cls := "PrunedSearch$Search", name := "resolve", desc := "(I)V" } : Jvm.MethodName)) ∈ Wt := List.mem_filter.mpr ⟨t_in (t_in4 (List.mem_of_getElem? (i := 70) rfl)), rfl⟩
set_option maxRecDepth 20000 in
theorem k_792 : (Jvm.Cond.instanceMethod ({ cls := "PrunedSearch$Search", name := "resolve", desc := "(I)V" } : Jvm.MethodName)) ∈ Wt := List.mem_filter.mpr ⟨t_in (t_in4 (List.mem_of_getElem? (i := 72) rfl)), rfl⟩
set_option maxRecDepth 20000 in
theorem k_793 : (Jvm.Cond.code ({ cls := "PrunedSearch$Search", name := "resolve", desc := "(I)V" } : Jvm.MethodName) prog_7_method_10_code (3 : Nat) (Option.none : Option Jvm.ClassFile.FieldType)) ∈ Wt := List.mem_filter.mpr ⟨t_in (t_in4 (List.mem_of_getElem? (i := 73) rfl)), rfl⟩
set_option maxRecDepth 20000 in
theorem k_794 : (Jvm.Cond.methodLink "PrunedSearch$Search" (190 : Nat) ({ cls := "PrunedSearch$Terms", name := "join", desc := "(II)Z" } : Jvm.MethodName)) ∈ Wt := List.mem_filter.mpr ⟨t_in (t_in4 (List.mem_of_getElem? (i := 74) rfl)), rfl⟩
set_option maxRecDepth 20000 in
theorem k_795 : (Jvm.Cond.instanceMethod ({ cls := "PrunedSearch$Terms", name := "join", desc := "(II)Z" } : Jvm.MethodName)) ∈ Wt := List.mem_filter.mpr ⟨t_in (t_in4 (List.mem_of_getElem? (i := 75) rfl)), rfl⟩
set_option maxRecDepth 20000 in
theorem k_796 : (Jvm.Cond.selects "PrunedSearch$Terms" ({ cls := "PrunedSearch$Terms", name := "join", desc := "(II)Z" } : Jvm.MethodName) ({ cls := "PrunedSearch$Terms", name := "join", desc := "(II)Z" } : Jvm.MethodName)) ∈ Wt := List.mem_filter.mpr ⟨t_in (t_in4 (List.mem_of_getElem? (i := 76) rfl)), rfl⟩
set_option maxRecDepth 20000 in
theorem k_797 : (Jvm.Cond.code ({ cls := "PrunedSearch$Terms", name := "join", desc := "(II)Z" } : Jvm.MethodName) prog_9_method_13_code (6 : Nat) (Option.some Jvm.ClassFile.FieldType.boolean)) ∈ Wt := List.mem_filter.mpr ⟨t_in (t_in4 (List.mem_of_getElem? (i := 77) rfl)), rfl⟩
set_option maxRecDepth 20000 in
theorem k_798 : (Jvm.Cond.methodLink "PrunedSearch$Terms" (71 : Nat) ({ cls := "PrunedSearch$Terms", name := "push", desc := "(I)V" } : Jvm.MethodName)) ∈ Wt := List.mem_filter.mpr ⟨t_in (t_in4 (List.mem_of_getElem? (i := 78) rfl)), rfl⟩
set_option maxRecDepth 20000 in
theorem k_800 : (Jvm.Cond.instanceMethod ({ cls := "PrunedSearch$Terms", name := "push", desc := "(I)V" } : Jvm.MethodName)) ∈ Wt := List.mem_filter.mpr ⟨t_in (t_in4 (List.mem_of_getElem? (i := 80) rfl)), rfl⟩
set_option maxRecDepth 20000 in
theorem k_801 : (Jvm.Cond.code ({ cls := "PrunedSearch$Terms", name := "push", desc := "(I)V" } : Jvm.MethodName) prog_9_method_21_code (2 : Nat) (Option.none : Option Jvm.ClassFile.FieldType)) ∈ Wt := List.mem_filter.mpr ⟨t_in (t_in4 (List.mem_of_getElem? (i := 81) rfl)), rfl⟩
set_option maxRecDepth 20000 in
theorem k_802 : (Jvm.Cond.constant "PrunedSearch$Terms" (75 : Nat) (1000000 : Int32)) ∈ Wt := List.mem_filter.mpr ⟨t_in (t_in4 (List.mem_of_getElem? (i := 82) rfl)), rfl⟩
set_option maxRecDepth 20000 in
theorem k_803 : (Jvm.Cond.methodLink "PrunedSearch$Terms" (76 : Nat) ({ cls := "PrunedSearch$Terms", name := "pop", desc := "()I" } : Jvm.MethodName)) ∈ Wt := List.mem_filter.mpr ⟨t_in (t_in4 (List.mem_of_getElem? (i := 83) rfl)), rfl⟩
set_option maxRecDepth 20000 in
theorem k_805 : (Jvm.Cond.instanceMethod ({ cls := "PrunedSearch$Terms", name := "pop", desc := "()I" } : Jvm.MethodName)) ∈ Wt := List.mem_filter.mpr ⟨t_in (t_in4 (List.mem_of_getElem? (i := 85) rfl)), rfl⟩
set_option maxRecDepth 20000 in
theorem k_806 : (Jvm.Cond.code ({ cls := "PrunedSearch$Terms", name := "pop", desc := "()I" } : Jvm.MethodName) prog_9_method_22_code (1 : Nat) (Option.some Jvm.ClassFile.FieldType.int)) ∈ Wt := List.mem_filter.mpr ⟨t_in (t_in4 (List.mem_of_getElem? (i := 86) rfl)), rfl⟩
set_option maxRecDepth 20000 in
theorem k_807 : (Jvm.Cond.methodLink "PrunedSearch$Terms" (80 : Nat) ({ cls := "PrunedSearch$Terms", name := "standing", desc := "(I)I" } : Jvm.MethodName)) ∈ Wt := List.mem_filter.mpr ⟨t_in (t_in4 (List.mem_of_getElem? (i := 87) rfl)), rfl⟩
set_option maxRecDepth 20000 in
theorem k_808 : (Jvm.Cond.methodLink "PrunedSearch$Terms" (83 : Nat) ({ cls := "PrunedSearch$Terms", name := "symbolAt", desc := "(I)I" } : Jvm.MethodName)) ∈ Wt := List.mem_filter.mpr ⟨t_in (t_in4 (List.mem_of_getElem? (i := 88) rfl)), rfl⟩
set_option maxRecDepth 20000 in
theorem k_809 : (Jvm.Cond.methodLink "PrunedSearch$Terms" (84 : Nat) ({ cls := "PrunedSearch$Terms", name := "letStand", desc := "(II)V" } : Jvm.MethodName)) ∈ Wt := List.mem_filter.mpr ⟨t_in (t_in4 (List.mem_of_getElem? (i := 89) rfl)), rfl⟩
set_option maxRecDepth 20000 in
theorem k_811 : (Jvm.Cond.instanceMethod ({ cls := "PrunedSearch$Terms", name := "letStand", desc := "(II)V" } : Jvm.MethodName)) ∈ Wt := List.mem_filter.mpr ⟨t_in (t_in4 (List.mem_of_getElem? (i := 91) rfl)), rfl⟩
set_option maxRecDepth 20000 in
theorem k_812 : (Jvm.Cond.code ({ cls := "PrunedSearch$Terms", name := "letStand", desc := "(II)V" } : Jvm.MethodName) prog_9_method_14_code (3 : Nat) (Option.none : Option Jvm.ClassFile.FieldType)) ∈ Wt := List.mem_filter.mpr ⟨t_in (t_in4 (List.mem_of_getElem? (i := 92) rfl)), rfl⟩
set_option maxRecDepth 20000 in
theorem k_813 : (Jvm.Cond.methodLink "PrunedSearch$Terms" (88 : Nat) ({ cls := "PrunedSearch$Terms", name := "pushPairs", desc := "(II)V" } : Jvm.MethodName)) ∈ Wt := List.mem_filter.mpr ⟨t_in (t_in4 (List.mem_of_getElem? (i := 93) rfl)), rfl⟩
set_option maxRecDepth 20000 in
theorem k_815 : (Jvm.Cond.instanceMethod ({ cls := "PrunedSearch$Terms", name := "pushPairs", desc := "(II)V" } : Jvm.MethodName)) ∈ Wt := List.mem_filter.mpr ⟨t_in (t_in4 (List.mem_of_getElem? (i := 95) rfl)), rfl⟩
set_option maxRecDepth 20000 in
theorem k_816 : (Jvm.Cond.code ({ cls := "PrunedSearch$Terms", name := "pushPairs", desc := "(II)V" } : Jvm.MethodName) prog_9_method_15_code (7 : Nat) (Option.none : Option Jvm.ClassFile.FieldType)) ∈ Wt := List.mem_filter.mpr ⟨t_in (t_in4 (List.mem_of_getElem? (i := 96) rfl)), rfl⟩
set_option maxRecDepth 20000 in
theorem k_817 : (Jvm.Cond.methodLinkNest "PrunedSearch$Terms" (91 : Nat) ({ cls := "PrunedSearch", name := "argumentsOf", desc := "(I)I" } : Jvm.MethodName) "PrunedSearch") ∈ lw_tbl := t_in (t_in4 (List.mem_of_getElem? (i := 97) rfl))
set_option maxRecDepth 20000 in
theorem k_818 : (Jvm.Cond.methodLink "PrunedSearch$Terms" (64 : Nat) ({ cls := "PrunedSearch$Terms", name := "sizeAt", desc := "(I)I" } : Jvm.MethodName)) ∈ Wt := List.mem_filter.mpr ⟨t_in (t_in4 (List.mem_of_getElem? (i := 98) rfl)), rfl⟩
set_option maxRecDepth 20000 in
theorem k_819 : (Jvm.Cond.methodLink "PrunedSearch$Search" (194 : Nat) ({ cls := "PrunedSearch$Terms", name := "isCircular", desc := "(I)Z" } : Jvm.MethodName)) ∈ Wt := List.mem_filter.mpr ⟨t_in (t_in4 (List.mem_of_getElem? (i := 99) rfl)), rfl⟩
set_option maxRecDepth 20000 in
theorem k_820 : (Jvm.Cond.instanceMethod ({ cls := "PrunedSearch$Terms", name := "isCircular", desc := "(I)Z" } : Jvm.MethodName)) ∈ Wt := List.mem_filter.mpr ⟨t_in (t_in4 (List.mem_of_getElem? (i := 100) rfl)), rfl⟩
set_option maxRecDepth 20000 in
theorem k_821 : (Jvm.Cond.selects "PrunedSearch$Terms" ({ cls := "PrunedSearch$Terms", name := "isCircular", desc := "(I)Z" } : Jvm.MethodName) ({ cls := "PrunedSearch$Terms", name := "isCircular", desc := "(I)Z" } : Jvm.MethodName)) ∈ Wt := List.mem_filter.mpr ⟨t_in (t_in4 (List.mem_of_getElem? (i := 101) rfl)), rfl⟩
set_option maxRecDepth 20000 in
theorem k_822 : (Jvm.Cond.code ({ cls := "PrunedSearch$Terms", name := "isCircular", desc := "(I)Z" } : Jvm.MethodName) prog_9_method_16_code (7 : Nat) (Option.some Jvm.ClassFile.FieldType.boolean)) ∈ Wt := List.mem_filter.mpr ⟨t_in (t_in4 (List.mem_of_getElem? (i := 102) rfl)), rfl⟩
set_option maxRecDepth 20000 in
theorem k_823 : (Jvm.Cond.methodLink "PrunedSearch$Terms" (97 : Nat) ({ cls := "PrunedSearch$Terms", name := "mark", desc := "(II)V" } : Jvm.MethodName)) ∈ Wt := List.mem_filter.mpr ⟨t_in (t_in4 (List.mem_of_getElem? (i := 103) rfl)), rfl⟩
set_option maxRecDepth 20000 in
theorem k_825 : (Jvm.Cond.instanceMethod ({ cls := "PrunedSearch$Terms", name := "mark", desc := "(II)V" } : Jvm.MethodName)) ∈ Wt := List.mem_filter.mpr ⟨t_in (t_in4 (List.mem_of_getElem? (i := 105) rfl)), rfl⟩
set_option maxRecDepth 20000 in
theorem k_826 : (Jvm.Cond.code ({ cls := "PrunedSearch$Terms", name := "mark", desc := "(II)V" } : Jvm.MethodName) prog_9_method_17_code (3 : Nat) (Option.none : Option Jvm.ClassFile.FieldType)) ∈ Wt := List.mem_filter.mpr ⟨t_in (t_in4 (List.mem_of_getElem? (i := 106) rfl)), rfl⟩
set_option maxRecDepth 20000 in
theorem k_827 : (Jvm.Cond.methodLink "PrunedSearch$Terms" (100 : Nat) ({ cls := "PrunedSearch$Terms", name := "markAt", desc := "(I)I" } : Jvm.MethodName)) ∈ Wt := List.mem_filter.mpr ⟨t_in (t_in4 (List.mem_of_getElem? (i := 107) rfl)), rfl⟩
set_option maxRecDepth 20000 in
theorem k_829 : (Jvm.Cond.instanceMethod ({ cls := "PrunedSearch$Terms", name := "markAt", desc := "(I)I" } : Jvm.MethodName)) ∈ Wt := List.mem_filter.mpr ⟨t_in (t_in4 (List.mem_of_getElem? (i := 109) rfl)), rfl⟩
set_option maxRecDepth 20000 in
theorem k_830 : (Jvm.Cond.code ({ cls := "PrunedSearch$Terms", name := "markAt", desc := "(I)I" } : Jvm.MethodName) prog_9_method_18_code (2 : Nat) (Option.some Jvm.ClassFile.FieldType.int)) ∈ Wt := List.mem_filter.mpr ⟨t_in (t_in4 (List.mem_of_getElem? (i := 110) rfl)), rfl⟩
set_option maxRecDepth 20000 in
theorem k_831 : (Jvm.Cond.methodLink "PrunedSearch$Terms" (103 : Nat) ({ cls := "PrunedSearch$Terms", name := "pushArguments", desc := "(I)V" } : Jvm.MethodName)) ∈ Wt := List.mem_filter.mpr ⟨t_in (t_in4 (List.mem_of_getElem? (i := 111) rfl)), rfl⟩
set_option maxRecDepth 20000 in
theorem k_833 : (Jvm.Cond.instanceMethod ({ cls := "PrunedSearch$Terms", name := "pushArguments", desc := "(I)V" } : Jvm.MethodName)) ∈ Wt := List.mem_filter.mpr ⟨t_in (t_in4 (List.mem_of_getElem? (i := 113) rfl)), rfl⟩
set_option maxRecDepth 20000 in
theorem k_834 : (Jvm.Cond.code ({ cls := "PrunedSearch$Terms", name := "pushArguments", desc := "(I)V" } : Jvm.MethodName) prog_9_method_20_code (5 : Nat) (Option.none : Option Jvm.ClassFile.FieldType)) ∈ Wt := List.mem_filter.mpr ⟨t_in (t_in4 (List.mem_of_getElem? (i := 114) rfl)), rfl⟩
set_option maxRecDepth 20000 in
theorem k_835 : (Jvm.Cond.methodLink "PrunedSearch$Search" (198 : Nat) ({ cls := "PrunedSearch$Terms", name := "sizeAt", desc := "(I)I" } : Jvm.MethodName)) ∈ Wt := List.mem_filter.mpr ⟨t_in (t_in4 (List.mem_of_getElem? (i := 115) rfl)), rfl⟩
set_option maxRecDepth 20000 in
theorem k_836 : (Jvm.Cond.methodLink "PrunedSearch$Search" (201 : Nat) ({ cls := "PrunedSearch$Search", name := "isLarge", desc := "()Z" } : Jvm.MethodName)) ∈ Wt := List.mem_filter.mpr ⟨t_in (t_in4 (List.mem_of_getElem? (i := 116) rfl)), rfl⟩
set_option maxRecDepth 20000 in
theorem k_838 : (Jvm.Cond.instanceMethod ({ cls := "PrunedSearch$Search", name := "isLarge", desc := "()Z" } : Jvm.MethodName)) ∈ Wt := List.mem_filter.mpr ⟨t_in (t_in4 (List.mem_of_getElem? (i := 118) rfl)), rfl⟩
set_option maxRecDepth 20000 in
theorem k_839 : (Jvm.Cond.code ({ cls := "PrunedSearch$Search", name := "isLarge", desc := "()Z" } : Jvm.MethodName) prog_7_method_11_code (4 : Nat) (Option.some Jvm.ClassFile.FieldType.boolean)) ∈ Wt := List.mem_filter.mpr ⟨t_in (t_in4 (List.mem_of_getElem? (i := 119) rfl)), rfl⟩
set_option maxRecDepth 20000 in
theorem k_840 : (Jvm.Cond.methodLink "PrunedSearch$Search" (205 : Nat) ({ cls := "PrunedSearch$Terms", name := "countSymbols", desc := "(II)I" } : Jvm.MethodName)) ∈ Wt := List.mem_filter.mpr ⟨t_in (t_in4 (List.mem_of_getElem? (i := 120) rfl)), rfl⟩
set_option maxRecDepth 20000 in
theorem k_841 : (Jvm.Cond.instanceMethod ({ cls := "PrunedSearch$Terms", name := "countSymbols", desc := "(II)I" } : Jvm.MethodName)) ∈ Wt := List.mem_filter.mpr ⟨t_in (t_in4 (List.mem_of_getElem? (i := 121) rfl)), rfl⟩
set_option maxRecDepth 20000 in
theorem k_842 : (Jvm.Cond.selects "PrunedSearch$Terms" ({ cls := "PrunedSearch$Terms", name := "countSymbols", desc := "(II)I" } : Jvm.MethodName) ({ cls := "PrunedSearch$Terms", name := "countSymbols", desc := "(II)I" } : Jvm.MethodName)) ∈ Wt := List.mem_filter.mpr ⟨t_in (t_in4 (List.mem_of_getElem? (i := 122) rfl)), rfl⟩
set_option maxRecDepth 20000 in
theorem k_843 : (Jvm.Cond.code ({ cls := "PrunedSearch$Terms", name := "countSymbols", desc := "(II)I" } : Jvm.MethodName) prog_9_method_19_code (4 : Nat) (Option.some Jvm.ClassFile.FieldType.int)) ∈ Wt := List.mem_filter.mpr ⟨t_in (t_in4 (List.mem_of_getElem? (i := 123) rfl)), rfl⟩
set_option maxRecDepth 20000 in
theorem k_844 : (Jvm.Cond.methodLink "PrunedSearch$Search" (208 : Nat) ({ cls := "PrunedSearch$Goals", name := "after", desc := "(I)I" } : Jvm.MethodName)) ∈ Wt := List.mem_filter.mpr ⟨t_in (t_in4 (List.mem_of_getElem? (i := 124) rfl)), rfl⟩
set_option maxRecDepth 20000 in
theorem k_849 : (Jvm.Cond.methodLink "PrunedSearch" (88 : Nat) ({ cls := "PrunedSearch$Search", name := "letter", desc := "(II)C" } : Jvm.MethodName)) ∈ Wt := List.mem_filter.mpr ⟨t_in (t_in4 (List.mem_of_getElem? (i := 129) rfl)), rfl⟩
set_option maxRecDepth 20000 in
theorem k_850 : (Jvm.Cond.instanceMethod ({ cls := "PrunedSearch$Search", name := "letter", desc := "(II)C" } : Jvm.MethodName)) ∈ Wt := List.mem_filter.mpr ⟨t_in (t_in4 (List.mem_of_getElem? (i := 130) rfl)), rfl⟩
set_option maxRecDepth 20000 in
theorem k_851 : (Jvm.Cond.selects "PrunedSearch$Search" ({ cls := "PrunedSearch$Search", name := "letter", desc := "(II)C" } : Jvm.MethodName) ({ cls := "PrunedSearch$Search", name := "letter", desc := "(II)C" } : Jvm.MethodName)) ∈ Wt := List.mem_filter.mpr ⟨t_in (t_in4 (List.mem_of_getElem? (i := 131) rfl)), rfl⟩
set_option maxRecDepth 20000 in
theorem k_852 : (Jvm.Cond.code ({ cls := "PrunedSearch$Search", name := "letter", desc := "(II)C" } : Jvm.MethodName) prog_7_method_12_code (3 : Nat) (Option.some Jvm.ClassFile.FieldType.char)) ∈ Wt := List.mem_filter.mpr ⟨t_in (t_in4 (List.mem_of_getElem? (i := 132) rfl)), rfl⟩
set_option maxRecDepth 20000 in
theorem k_853 : (Jvm.Cond.methodLink "PrunedSearch$Search" (211 : Nat) ({ cls := "PrunedSearch$TermWriter", name := "isDone", desc := "()Z" } : Jvm.MethodName)) ∈ Wt := List.mem_filter.mpr ⟨t_in (t_in4 (List.mem_of_getElem? (i := 133) rfl)), rfl⟩
set_option maxRecDepth 20000 in
theorem k_854 : (Jvm.Cond.instanceMethod ({ cls := "PrunedSearch$TermWriter", name := "isDone", desc := "()Z" } : Jvm.MethodName)) ∈ Wt := List.mem_filter.mpr ⟨t_in (t_in4 (List.mem_of_getElem? (i := 134) rfl)), rfl⟩
set_option maxRecDepth 20000 in
theorem k_855 : (Jvm.Cond.selects "PrunedSearch$TermWriter" ({ cls := "PrunedSearch$TermWriter", name := "isDone", desc := "()Z" } : Jvm.MethodName) ({ cls := "PrunedSearch$TermWriter", name := "isDone", desc := "()Z" } : Jvm.MethodName)) ∈ Wt := List.mem_filter.mpr ⟨t_in (t_in4 (List.mem_of_getElem? (i := 135) rfl)), rfl⟩
set_option maxRecDepth 20000 in
theorem k_856 : (Jvm.Cond.code ({ cls := "PrunedSearch$TermWriter", name := "isDone", desc := "()Z" } : Jvm.MethodName) prog_8_method_3_code (1 : Nat) (Option.some Jvm.ClassFile.FieldType.boolean)) ∈ Wt := List.mem_filter.mpr ⟨t_in (t_in4 (List.mem_of_getElem? (i := 136) rfl)), rfl⟩
set_option maxRecDepth 20000 in
theorem k_857 : (Jvm.Cond.methodLink "PrunedSearch$Search" (214 : Nat) ({ cls := "PrunedSearch$TermWriter", name := "writeAll", desc := "([II)V" } : Jvm.MethodName)) ∈ Wt := List.mem_filter.mpr ⟨t_in (t_in4 (List.mem_of_getElem? (i := 137) rfl)), rfl⟩
set_option maxRecDepth 20000 in
theorem k_858 : (Jvm.Cond.instanceMethod ({ cls := "PrunedSearch$TermWriter", name := "writeAll", desc := "([II)V" } : Jvm.MethodName)) ∈ Wt := List.mem_filter.mpr ⟨t_in (t_in4 (List.mem_of_getElem? (i := 138) rfl)), rfl⟩
set_option maxRecDepth 20000 in
theorem k_859 : (Jvm.Cond.selects "PrunedSearch$TermWriter" ({ cls := "PrunedSearch$TermWriter", name := "writeAll", desc := "([II)V" } : Jvm.MethodName) ({ cls := "PrunedSearch$TermWriter", name := "writeAll", desc := "([II)V" } : Jvm.MethodName)) ∈ Wt := List.mem_filter.mpr ⟨t_in (t_in4 (List.mem_of_getElem? (i := 139) rfl)), rfl⟩
set_option maxRecDepth 20000 in
theorem k_860 : (Jvm.Cond.code ({ cls := "PrunedSearch$TermWriter", name := "writeAll", desc := "([II)V" } : Jvm.MethodName) prog_8_method_5_code (4 : Nat) (Option.none : Option Jvm.ClassFile.FieldType)) ∈ Wt := List.mem_filter.mpr ⟨t_in (t_in4 (List.mem_of_getElem? (i := 140) rfl)), rfl⟩
set_option maxRecDepth 20000 in
theorem k_861 : (Jvm.Cond.methodLink "PrunedSearch$TermWriter" (44 : Nat) ({ cls := "PrunedSearch$TermWriter", name := "clear", desc := "()V" } : Jvm.MethodName)) ∈ Wt := List.mem_filter.mpr ⟨t_in (t_in4 (List.mem_of_getElem? (i := 141) rfl)), rfl⟩
set_option maxRecDepth 20000 in
theorem k_862 : (Jvm.Cond.methodLink "PrunedSearch$TermWriter" (47 : Nat) ({ cls := "PrunedSearch$TermWriter", name := "write", desc := "(I)V" } : Jvm.MethodName)) ∈ Wt := List.mem_filter.mpr ⟨t_in (t_in4 (List.mem_of_getElem? (i := 142) rfl)), rfl⟩
set_option maxRecDepth 20000 in
theorem k_864 : (Jvm.Cond.instanceMethod ({ cls := "PrunedSearch$TermWriter", name := "write", desc := "(I)V" } : Jvm.MethodName)) ∈ Wt := List.mem_filter.mpr ⟨t_in (t_in4 (List.mem_of_getElem? (i := 144) rfl)), rfl⟩
set_option maxRecDepth 20000 in
theorem k_865 : (Jvm.Cond.code ({ cls := "PrunedSearch$TermWriter", name := "write", desc := "(I)V" } : Jvm.MethodName) prog_8_method_6_code (5 : Nat) (Option.none : Option Jvm.ClassFile.FieldType)) ∈ Wt := List.mem_filter.mpr ⟨t_in (t_in4 (List.mem_of_getElem? (i := 145) rfl)), rfl⟩
set_option maxRecDepth 20000 in
theorem k_866 : (Jvm.Cond.methodLink "PrunedSearch$TermWriter" (54 : Nat) ({ cls := "PrunedSearch$TermWriter", name := "push", desc := "(II)V" } : Jvm.MethodName)) ∈ Wt := List.mem_filter.mpr ⟨t_in (t_in4 (List.mem_of_getElem? (i := 146) rfl)), rfl⟩
set_option maxRecDepth 20000 in
theorem k_868 : (Jvm.Cond.instanceMethod ({ cls := "PrunedSearch$TermWriter", name := "push", desc := "(II)V" } : Jvm.MethodName)) ∈ Wt := List.mem_filter.mpr ⟨t_in (t_in4 (List.mem_of_getElem? (i := 148) rfl)), rfl⟩
set_option maxRecDepth 20000 in
theorem k_869 : (Jvm.Cond.code ({ cls := "PrunedSearch$TermWriter", name := "push", desc := "(II)V" } : Jvm.MethodName) prog_8_method_14_code (3 : Nat) (Option.none : Option Jvm.ClassFile.FieldType)) ∈ Wt := List.mem_filter.mpr ⟨t_in (t_in4 (List.mem_of_getElem? (i := 149) rfl)), rfl⟩
set_option maxRecDepth 20000 in
theorem k_870 : (Jvm.Cond.constant "PrunedSearch$TermWriter" (58 : Nat) (1000000 : Int32)) ∈ Wt := List.mem_filter.mpr ⟨t_in (t_in4 (List.mem_of_getElem? (i := 150) rfl)), rfl⟩
set_option maxRecDepth 20000 in
theorem k_871 : (Jvm.Cond.methodLink "PrunedSearch$TermWriter" (59 : Nat) ({ cls := "PrunedSearch$TermWriter", name := "put", desc := "(C)V" } : Jvm.MethodName)) ∈ Wt := List.mem_filter.mpr ⟨t_in (t_in4 (List.mem_of_getElem? (i := 151) rfl)), rfl⟩
set_option maxRecDepth 20000 in
theorem k_873 : (Jvm.Cond.instanceMethod ({ cls := "PrunedSearch$TermWriter", name := "put", desc := "(C)V" } : Jvm.MethodName)) ∈ Wt := List.mem_filter.mpr ⟨t_in (t_in4 (List.mem_of_getElem? (i := 153) rfl)), rfl⟩
set_option maxRecDepth 20000 in
theorem k_874 : (Jvm.Cond.code ({ cls := "PrunedSearch$TermWriter", name := "put", desc := "(C)V" } : Jvm.MethodName) prog_8_method_13_code (2 : Nat) (Option.none : Option Jvm.ClassFile.FieldType)) ∈ Wt := List.mem_filter.mpr ⟨t_in (t_in4 (List.mem_of_getElem? (i := 154) rfl)), rfl⟩
set_option maxRecDepth 20000 in
theorem k_875 : (Jvm.Cond.methodLink "PrunedSearch$TermWriter" (63 : Nat) ({ cls := "PrunedSearch$Terms", name := "standing", desc := "(I)I" } : Jvm.MethodName)) ∈ Wt := List.mem_filter.mpr ⟨t_in (t_in4 (List.mem_of_getElem? (i := 155) rfl)), rfl⟩
set_option maxRecDepth 20000 in
theorem k_876 : (Jvm.Cond.methodLink "PrunedSearch$TermWriter" (69 : Nat) ({ cls := "PrunedSearch$TermWriter", name := "writeTerm", desc := "(I)V" } : Jvm.MethodName)) ∈ Wt := List.mem_filter.mpr ⟨t_in (t_in4 (List.mem_of_getElem? (i := 156) rfl)), rfl⟩
set_option maxRecDepth 20000 in
theorem k_878 : (Jvm.Cond.instanceMethod ({ cls := "PrunedSearch$TermWriter", name := "writeTerm", desc := "(I)V" } : Jvm.MethodName)) ∈ Wt := List.mem_filter.mpr ⟨t_in (t_in4 (List.mem_of_getElem? (i := 158) rfl)), rfl⟩
set_option maxRecDepth 20000 in
theorem k_879 : (Jvm.Cond.code ({ cls := "PrunedSearch$TermWriter", name := "writeTerm", desc := "(I)V" } : Jvm.MethodName) prog_8_method_7_code (3 : Nat) (Option.none : Option Jvm.ClassFile.FieldType)) ∈ Wt := List.mem_filter.mpr ⟨t_in (t_in4 (List.mem_of_getElem? (i := 159) rfl)), rfl⟩
set_option maxRecDepth 20000 in
theorem k_880 : (Jvm.Cond.methodLink "PrunedSearch$TermWriter" (75 : Nat) ({ cls := "PrunedSearch$Terms", name := "symbolAt", desc := "(I)I" } : Jvm.MethodName)) ∈ Wt := List.mem_filter.mpr ⟨t_in (t_in4 (List.mem_of_getElem? (i := 160) rfl)), rfl⟩
set_option maxRecDepth 20000 in
theorem k_881 : (Jvm.Cond.methodLink "PrunedSearch$TermWriter" (78 : Nat) ({ cls := "PrunedSearch$TermWriter", name := "writeVariable", desc := "(I)V" } : Jvm.MethodName)) ∈ Wt := List.mem_filter.mpr ⟨t_in (t_in4 (List.mem_of_getElem? (i := 161) rfl)), rfl⟩
set_option maxRecDepth 20000 in
theorem k_883 : (Jvm.Cond.instanceMethod ({ cls := "PrunedSearch$TermWriter", name := "writeVariable", desc := "(I)V" } : Jvm.MethodName)) ∈ Wt := List.mem_filter.mpr ⟨t_in (t_in4 (List.mem_of_getElem? (i := 163) rfl)), rfl⟩
set_option maxRecDepth 20000 in
theorem k_884 : (Jvm.Cond.code ({ cls := "PrunedSearch$TermWriter", name := "writeVariable", desc := "(I)V" } : Jvm.MethodName) prog_8_method_12_code (3 : Nat) (Option.none : Option Jvm.ClassFile.FieldType)) ∈ Wt := List.mem_filter.mpr ⟨t_in (t_in4 (List.mem_of_getElem? (i := 164) rfl)), rfl⟩
set_option maxRecDepth 20000 in
theorem k_885 : (Jvm.Cond.methodLink "PrunedSearch$TermWriter" (81 : Nat) ({ cls := "PrunedSearch$TermWriter", name := "pushList", desc := "(I)V" } : Jvm.MethodName)) ∈ Wt := List.mem_filter.mpr ⟨t_in (t_in4 (List.mem_of_getElem? (i := 165) rfl)), rfl⟩
set_option maxRecDepth 20000 in
theorem k_887 : (Jvm.Cond.instanceMethod ({ cls := "PrunedSearch$TermWriter", name := "pushList", desc := "(I)V" } : Jvm.MethodName)) ∈ Wt := List.mem_filter.mpr ⟨t_in (t_in4 (List.mem_of_getElem? (i := 167) rfl)), rfl⟩
set_option maxRecDepth 20000 in
theorem k_888 : (Jvm.Cond.code ({ cls := "PrunedSearch$TermWriter", name := "pushList", desc := "(I)V" } : Jvm.MethodName) prog_8_method_9_code (2 : Nat) (Option.none : Option Jvm.ClassFile.FieldType)) ∈ Wt := List.mem_filter.mpr ⟨t_in (t_in4 (List.mem_of_getElem? (i := 168) rfl)), rfl⟩
set_option maxRecDepth 20000 in
theorem k_889 : (Jvm.Cond.methodLink "PrunedSearch$TermWriter" (100 : Nat) ({ cls := "PrunedSearch$Terms", name := "argument", desc := "(II)I" } : Jvm.MethodName)) ∈ Wt := List.mem_filter.mpr ⟨t_in (t_in4 (List.mem_of_getElem? (i := 169) rfl)), rfl⟩
set_option maxRecDepth 20000 in
theorem k_890 : (Jvm.Cond.instanceMethod ({ cls := "PrunedSearch$Terms", name := "argument", desc := "(II)I" } : Jvm.MethodName)) ∈ Wt := List.mem_filter.mpr ⟨t_in (t_in4 (List.mem_of_getElem? (i := 170) rfl)), rfl⟩
set_option maxRecDepth 20000 in
theorem k_891 : (Jvm.Cond.selects "PrunedSearch$Terms" ({ cls := "PrunedSearch$Terms", name := "argument", desc := "(II)I" } : Jvm.MethodName) ({ cls := "PrunedSearch$Terms", name := "argument", desc := "(II)I" } : Jvm.MethodName)) ∈ Wt := List.mem_filter.mpr ⟨t_in (t_in4 (List.mem_of_getElem? (i := 171) rfl)), rfl⟩
set_option maxRecDepth 20000 in
theorem k_892 : (Jvm.Cond.code ({ cls := "PrunedSearch$Terms", name := "argument", desc := "(II)I" } : Jvm.MethodName) prog_9_method_10_code (5 : Nat) (Option.some Jvm.ClassFile.FieldType.int)) ∈ Wt := List.mem_filter.mpr ⟨t_in (t_in4 (List.mem_of_getElem? (i := 172) rfl)), rfl⟩
set_option maxRecDepth 20000 in
theorem k_893 : (Jvm.Cond.methodLink "PrunedSearch$TermWriter" (84 : Nat) ({ cls := "PrunedSearch$Names", name := "wordOf", desc := "(I)J" } : Jvm.MethodName)) ∈ Wt := List.mem_filter.mpr ⟨t_in (t_in4 (List.mem_of_getElem? (i := 173) rfl)), rfl⟩
set_option maxRecDepth 20000 in
theorem k_894 : (Jvm.Cond.methodLink "PrunedSearch$TermWriter" (90 : Nat) ({ cls := "PrunedSearch$TermWriter", name := "writeWord", desc := "(J)V" } : Jvm.MethodName)) ∈ Wt := List.mem_filter.mpr ⟨t_in (t_in4 (List.mem_of_getElem? (i := 174) rfl)), rfl⟩
set_option maxRecDepth 20000 in
theorem k_896 : (Jvm.Cond.instanceMethod ({ cls := "PrunedSearch$TermWriter", name := "writeWord", desc := "(J)V" } : Jvm.MethodName)) ∈ Wt := List.mem_filter.mpr ⟨t_in (t_in4 (List.mem_of_getElem? (i := 176) rfl)), rfl⟩
set_option maxRecDepth 20000 in
theorem k_897 : (Jvm.Cond.code ({ cls := "PrunedSearch$TermWriter", name := "writeWord", desc := "(J)V" } : Jvm.MethodName) prog_8_method_11_code (5 : Nat) (Option.none : Option Jvm.ClassFile.FieldType)) ∈ Wt := List.mem_filter.mpr ⟨t_in (t_in4 (List.mem_of_getElem? (i := 177) rfl)), rfl⟩
set_option maxRecDepth 20000 in
theorem k_898 : (Jvm.Cond.constantLong "PrunedSearch$TermWriter" (104 : Nat) (255 : Int64)) ∈ Wt := List.mem_filter.mpr ⟨t_in (t_in4 (List.mem_of_getElem? (i := 178) rfl)), rfl⟩
set_option maxRecDepth 20000 in
theorem k_899 : (Jvm.Cond.methodLinkNest "PrunedSearch$TermWriter" (94 : Nat) ({ cls := "PrunedSearch", name := "argumentsOf", desc := "(I)I" } : Jvm.MethodName) "PrunedSearch") ∈ lw_tbl := t_in (t_in4 (List.mem_of_getElem? (i := 179) rfl))
set_option maxRecDepth 20000 in
theorem k_900 : (Jvm.Cond.methodLink "PrunedSearch$TermWriter" (97 : Nat) ({ cls := "PrunedSearch$TermWriter", name := "pushArguments", desc := "(II)V" } : Jvm.MethodName)) ∈ Wt := List.mem_filter.mpr ⟨t_in (t_in4 (List.mem_of_getElem? (i := 180) rfl)), rfl⟩
set_option maxRecDepth 20000 in
theorem k_902 : (Jvm.Cond.instanceMethod ({ cls := "PrunedSearch$TermWriter", name := "pushArguments", desc := "(II)V" } : Jvm.MethodName)) ∈ Wt := List.mem_filter.mpr ⟨t_in (t_in4 (List.mem_of_getElem? (i := 182) rfl)), rfl⟩
set_option maxRecDepth 20000 in
theorem k_903 : (Jvm.Cond.code ({ cls := "PrunedSearch$TermWriter", name := "pushArguments", desc := "(II)V" } : Jvm.MethodName) prog_8_method_10_code (4 : Nat) (Option.none : Option Jvm.ClassFile.FieldType)) ∈ Wt := List.mem_filter.mpr ⟨t_in (t_in4 (List.mem_of_getElem? (i := 183) rfl)), rfl⟩
set_option maxRecDepth 20000 in
theorem k_904 : (Jvm.Cond.methodLink "PrunedSearch$TermWriter" (72 : Nat) ({ cls := "PrunedSearch$TermWriter", name := "writeRest", desc := "(I)V" } : Jvm.MethodName)) ∈ Wt := List.mem_filter.mpr ⟨t_in (t_in4 (List.mem_of_getElem? (i := 184) rfl)), rfl⟩
set_option maxRecDepth 20000 in
theorem k_906 : (Jvm.Cond.instanceMethod ({ cls := "PrunedSearch$TermWriter", name := "writeRest", desc := "(I)V" } : Jvm.MethodName)) ∈ Wt := List.mem_filter.mpr ⟨t_in (t_in4 (List.mem_of_getElem? (i := 186) rfl)), rfl⟩
set_option maxRecDepth 20000 in
theorem k_907 : (Jvm.Cond.code ({ cls := "PrunedSearch$TermWriter", name := "writeRest", desc := "(I)V" } : Jvm.MethodName) prog_8_method_8_code (3 : Nat) (Option.none : Option Jvm.ClassFile.FieldType)) ∈ Wt := List.mem_filter.mpr ⟨t_in (t_in4 (List.mem_of_getElem? (i := 187) rfl)), rfl⟩
set_option maxRecDepth 20000 in
theorem k_908 : (Jvm.Cond.methodLink "PrunedSearch$Search" (218 : Nat) ({ cls := "PrunedSearch$TermWriter", name := "letter", desc := "(II)C" } : Jvm.MethodName)) ∈ Wt := List.mem_filter.mpr ⟨t_in (t_in4 (List.mem_of_getElem? (i := 188) rfl)), rfl⟩
set_option maxRecDepth 20000 in
theorem k_909 : (Jvm.Cond.instanceMethod ({ cls := "PrunedSearch$TermWriter", name := "letter", desc := "(II)C" } : Jvm.MethodName)) ∈ Wt := List.mem_filter.mpr ⟨t_in (t_in4 (List.mem_of_getElem? (i := 189) rfl)), rfl⟩
set_option maxRecDepth 20000 in
theorem k_910 : (Jvm.Cond.selects "PrunedSearch$TermWriter" ({ cls := "PrunedSearch$TermWriter", name := "letter", desc := "(II)C" } : Jvm.MethodName) ({ cls := "PrunedSearch$TermWriter", name := "letter", desc := "(II)C" } : Jvm.MethodName)) ∈ Wt := List.mem_filter.mpr ⟨t_in (t_in4 (List.mem_of_getElem? (i := 190) rfl)), rfl⟩
set_option maxRecDepth 20000 in
theorem k_911 : (Jvm.Cond.code ({ cls := "PrunedSearch$TermWriter", name := "letter", desc := "(II)C" } : Jvm.MethodName) prog_8_method_4_code (4 : Nat) (Option.some Jvm.ClassFile.FieldType.char)) ∈ Wt := List.mem_filter.mpr ⟨t_in (t_in4 (List.mem_of_getElem? (i := 191) rfl)), rfl⟩
set_option maxRecDepth 20000 in
theorem k_920 : (Jvm.Cond.methodLink "PrunedSearch" (92 : Nat) ({ cls := "PrunedSearch$Search", name := "tryCount", desc := "()I" } : Jvm.MethodName)) ∈ Wt := List.mem_filter.mpr ⟨t_in (t_in4 (List.mem_of_getElem? (i := 200) rfl)), rfl⟩
set_option maxRecDepth 20000 in
theorem k_921 : (Jvm.Cond.instanceMethod ({ cls := "PrunedSearch$Search", name := "tryCount", desc := "()I" } : Jvm.MethodName)) ∈ Wt := List.mem_filter.mpr ⟨t_in (t_in4 (List.mem_of_getElem? (i := 201) rfl)), rfl⟩
set_option maxRecDepth 20000 in
theorem k_922 : (Jvm.Cond.selects "PrunedSearch$Search" ({ cls := "PrunedSearch$Search", name := "tryCount", desc := "()I" } : Jvm.MethodName) ({ cls := "PrunedSearch$Search", name := "tryCount", desc := "()I" } : Jvm.MethodName)) ∈ Wt := List.mem_filter.mpr ⟨t_in (t_in4 (List.mem_of_getElem? (i := 202) rfl)), rfl⟩
set_option maxRecDepth 20000 in
theorem k_923 : (Jvm.Cond.code ({ cls := "PrunedSearch$Search", name := "tryCount", desc := "()I" } : Jvm.MethodName) prog_7_method_13_code (1 : Nat) (Option.some Jvm.ClassFile.FieldType.int)) ∈ Wt := List.mem_filter.mpr ⟨t_in (t_in4 (List.mem_of_getElem? (i := 203) rfl)), rfl⟩
set_option maxRecDepth 20000 in
theorem k_928 : (Jvm.Cond.methodLink "PrunedSearch" (95 : Nat) ({ cls := "PrunedSearch$Search", name := "choiceCount", desc := "()I" } : Jvm.MethodName)) ∈ Wt := List.mem_filter.mpr ⟨t_in (t_in4 (List.mem_of_getElem? (i := 208) rfl)), rfl⟩
set_option maxRecDepth 20000 in
theorem k_929 : (Jvm.Cond.instanceMethod ({ cls := "PrunedSearch$Search", name := "choiceCount", desc := "()I" } : Jvm.MethodName)) ∈ Wt := List.mem_filter.mpr ⟨t_in (t_in4 (List.mem_of_getElem? (i := 209) rfl)), rfl⟩
set_option maxRecDepth 20000 in
theorem k_930 : (Jvm.Cond.selects "PrunedSearch$Search" ({ cls := "PrunedSearch$Search", name := "choiceCount", desc := "()I" } : Jvm.MethodName) ({ cls := "PrunedSearch$Search", name := "choiceCount", desc := "()I" } : Jvm.MethodName)) ∈ Wt := List.mem_filter.mpr ⟨t_in (t_in4 (List.mem_of_getElem? (i := 210) rfl)), rfl⟩
set_option maxRecDepth 20000 in
theorem k_931 : (Jvm.Cond.code ({ cls := "PrunedSearch$Search", name := "choiceCount", desc := "()I" } : Jvm.MethodName) prog_7_method_14_code (1 : Nat) (Option.some Jvm.ClassFile.FieldType.int)) ∈ Wt := List.mem_filter.mpr ⟨t_in (t_in4 (List.mem_of_getElem? (i := 211) rfl)), rfl⟩
set_option maxRecDepth 20000 in
theorem k_936 : (Jvm.Cond.methodLink "PrunedSearch" (98 : Nat) ({ cls := "PrunedSearch$Search", name := "branchLength", desc := "()I" } : Jvm.MethodName)) ∈ Wt := List.mem_filter.mpr ⟨t_in (t_in4 (List.mem_of_getElem? (i := 216) rfl)), rfl⟩
set_option maxRecDepth 20000 in
theorem k_937 : (Jvm.Cond.instanceMethod ({ cls := "PrunedSearch$Search", name := "branchLength", desc := "()I" } : Jvm.MethodName)) ∈ Wt := List.mem_filter.mpr ⟨t_in (t_in4 (List.mem_of_getElem? (i := 217) rfl)), rfl⟩
set_option maxRecDepth 20000 in
theorem k_938 : (Jvm.Cond.selects "PrunedSearch$Search" ({ cls := "PrunedSearch$Search", name := "branchLength", desc := "()I" } : Jvm.MethodName) ({ cls := "PrunedSearch$Search", name := "branchLength", desc := "()I" } : Jvm.MethodName)) ∈ Wt := List.mem_filter.mpr ⟨t_in (t_in4 (List.mem_of_getElem? (i := 218) rfl)), rfl⟩
set_option maxRecDepth 20000 in
theorem k_939 : (Jvm.Cond.code ({ cls := "PrunedSearch$Search", name := "branchLength", desc := "()I" } : Jvm.MethodName) prog_7_method_15_code (1 : Nat) (Option.some Jvm.ClassFile.FieldType.int)) ∈ Wt := List.mem_filter.mpr ⟨t_in (t_in4 (List.mem_of_getElem? (i := 219) rfl)), rfl⟩
set_option maxRecDepth 20000 in
theorem k_944 : (Jvm.Cond.methodLink "PrunedSearch" (101 : Nat) ({ cls := "PrunedSearch$Search", name := "goalCount", desc := "()I" } : Jvm.MethodName)) ∈ Wt := List.mem_filter.mpr ⟨t_in (t_in4 (List.mem_of_getElem? (i := 224) rfl)), rfl⟩
set_option maxRecDepth 20000 in
theorem k_945 : (Jvm.Cond.instanceMethod ({ cls := "PrunedSearch$Search", name := "goalCount", desc := "()I" } : Jvm.MethodName)) ∈ Wt := List.mem_filter.mpr ⟨t_in (t_in4 (List.mem_of_getElem? (i := 225) rfl)), rfl⟩
set_option maxRecDepth 20000 in
theorem k_946 : (Jvm.Cond.selects "PrunedSearch$Search" ({ cls := "PrunedSearch$Search", name := "goalCount", desc := "()I" } : Jvm.MethodName) ({ cls := "PrunedSearch$Search", name := "goalCount", desc := "()I" } : Jvm.MethodName)) ∈ Wt := List.mem_filter.mpr ⟨t_in (t_in4 (List.mem_of_getElem? (i := 226) rfl)), rfl⟩
set_option maxRecDepth 20000 in
theorem k_947 : (Jvm.Cond.code ({ cls := "PrunedSearch$Search", name := "goalCount", desc := "()I" } : Jvm.MethodName) prog_7_method_16_code (1 : Nat) (Option.some Jvm.ClassFile.FieldType.int)) ∈ Wt := List.mem_filter.mpr ⟨t_in (t_in4 (List.mem_of_getElem? (i := 227) rfl)), rfl⟩
set_option maxRecDepth 20000 in
theorem k_948 : (Jvm.Cond.methodLink "PrunedSearch$Search" (222 : Nat) ({ cls := "PrunedSearch$Goals", name := "count", desc := "()I" } : Jvm.MethodName)) ∈ Wt := List.mem_filter.mpr ⟨t_in (t_in4 (List.mem_of_getElem? (i := 228) rfl)), rfl⟩
set_option maxRecDepth 20000 in
theorem k_949 : (Jvm.Cond.instanceMethod ({ cls := "PrunedSearch$Goals", name := "count", desc := "()I" } : Jvm.MethodName)) ∈ Wt := List.mem_filter.mpr ⟨t_in (t_in4 (List.mem_of_getElem? (i := 229) rfl)), rfl⟩
set_option maxRecDepth 20000 in
theorem k_950 : (Jvm.Cond.selects "PrunedSearch$Goals" ({ cls := "PrunedSearch$Goals", name := "count", desc := "()I" } : Jvm.MethodName) ({ cls := "PrunedSearch$Goals", name := "count", desc := "()I" } : Jvm.MethodName)) ∈ Wt := List.mem_filter.mpr ⟨t_in (t_in4 (List.mem_of_getElem? (i := 230) rfl)), rfl⟩
set_option maxRecDepth 20000 in
theorem k_951 : (Jvm.Cond.code ({ cls := "PrunedSearch$Goals", name := "count", desc := "()I" } : Jvm.MethodName) prog_5_method_10_code (3 : Nat) (Option.some Jvm.ClassFile.FieldType.int)) ∈ Wt := List.mem_filter.mpr ⟨t_in (t_in4 (List.mem_of_getElem? (i := 231) rfl)), rfl⟩
set_option maxRecDepth 20000 in
theorem k_956 : (Jvm.Cond.methodLink "PrunedSearch" (104 : Nat) ({ cls := "PrunedSearch$Code", name := "clear", desc := "()V" } : Jvm.MethodName)) ∈ Wt := List.mem_filter.mpr ⟨t_in (t_in4 (List.mem_of_getElem? (i := 236) rfl)), rfl⟩
set_option maxRecDepth 20000 in
theorem k_957 : (Jvm.Cond.methodLink "PrunedSearch" (105 : Nat) ({ cls := "PrunedSearch$Names", name := "clear", desc := "()V" } : Jvm.MethodName)) ∈ Wt := List.mem_filter.mpr ⟨t_in (t_in4 (List.mem_of_getElem? (i := 237) rfl)), rfl⟩
set_option maxRecDepth 20000 in
theorem k_958 : (Jvm.Cond.instanceMethod ({ cls := "PrunedSearch$Names", name := "clear", desc := "()V" } : Jvm.MethodName)) ∈ Wt := List.mem_filter.mpr ⟨t_in (t_in4 (List.mem_of_getElem? (i := 238) rfl)), rfl⟩
set_option maxRecDepth 20000 in
theorem k_959 : (Jvm.Cond.selects "PrunedSearch$Names" ({ cls := "PrunedSearch$Names", name := "clear", desc := "()V" } : Jvm.MethodName) ({ cls := "PrunedSearch$Names", name := "clear", desc := "()V" } : Jvm.MethodName)) ∈ Wt := List.mem_filter.mpr ⟨t_in (t_in4 (List.mem_of_getElem? (i := 239) rfl)), rfl⟩
set_option maxRecDepth 20000 in
theorem k_960 : (Jvm.Cond.code ({ cls := "PrunedSearch$Names", name := "clear", desc := "()V" } : Jvm.MethodName) prog_6_method_7_code (1 : Nat) (Option.none : Option Jvm.ClassFile.FieldType)) ∈ Wt := List.mem_filter.mpr ⟨t_in (t_in5 (List.mem_of_getElem? (i := 0) rfl)), rfl⟩
set_option maxRecDepth 20000 in
theorem k_961 : (Jvm.Cond.methodLink "PrunedSearch$Names" (26 : Nat) ({ cls := "PrunedSearch$Names", name := "drop", desc := "()V" } : Jvm.MethodName)) ∈ Wt := List.mem_filter.mpr ⟨t_in (t_in5 (List.mem_of_getElem? (i := 1) rfl)), rfl⟩
set_option maxRecDepth 20000 in
theorem k_968 : (Jvm.Cond.fieldLink "PrunedSearchModel" (7 : Nat) "PrunedSearchModel" "text" "[I") ∈ Wt := List.mem_filter.mpr ⟨t_in (t_in5 (List.mem_of_getElem? (i := 8) rfl)), rfl⟩
set_option maxRecDepth 20000 in
theorem k_969 : (Jvm.Cond.fieldLink "PrunedSearchModel" (116 : Nat) "PrunedSearchModel" "typed" "I") ∈ Wt := List.mem_filter.mpr ⟨t_in (t_in5 (List.mem_of_getElem? (i := 9) rfl)), rfl⟩
set_option maxRecDepth 20000 in
theorem k_970 : (Jvm.Cond.fieldLink "PrunedSearchModel" (130 : Nat) "PrunedSearchModel" "token" "I") ∈ Wt := List.mem_filter.mpr ⟨t_in (t_in5 (List.mem_of_getElem? (i := 10) rfl)), rfl⟩
set_option maxRecDepth 20000 in
theorem k_971 : (Jvm.Cond.fieldLink "PrunedSearchModel" (123 : Nat) "PrunedSearchModel" "place" "I") ∈ Wt := List.mem_filter.mpr ⟨t_in (t_in5 (List.mem_of_getElem? (i := 11) rfl)), rfl⟩
set_option maxRecDepth 20000 in
theorem k_972 : (Jvm.Cond.fieldLink "PrunedSearchModel" (120 : Nat) "PrunedSearchModel" "after" "I") ∈ Wt := List.mem_filter.mpr ⟨t_in (t_in5 (List.mem_of_getElem? (i := 12) rfl)), rfl⟩
set_option maxRecDepth 20000 in
theorem k_973 : (Jvm.Cond.fieldLink "PrunedSearchModel" (133 : Nat) "PrunedSearchModel" "word" "J") ∈ Wt := List.mem_filter.mpr ⟨t_in (t_in5 (List.mem_of_getElem? (i := 13) rfl)), rfl⟩
set_option maxRecDepth 20000 in
theorem k_974 : (Jvm.Cond.fieldLink "PrunedSearchModel" (13 : Nat) "PrunedSearchModel" "readCode" "[J") ∈ Wt := List.mem_filter.mpr ⟨t_in (t_in5 (List.mem_of_getElem? (i := 14) rfl)), rfl⟩
set_option maxRecDepth 20000 in
theorem k_975 : (Jvm.Cond.fieldLink "PrunedSearchModel" (17 : Nat) "PrunedSearchModel" "readArity" "[I") ∈ Wt := List.mem_filter.mpr ⟨t_in (t_in5 (List.mem_of_getElem? (i := 15) rfl)), rfl⟩
set_option maxRecDepth 20000 in
theorem k_976 : (Jvm.Cond.fieldLink "PrunedSearchModel" (137 : Nat) "PrunedSearchModel" "symbols" "I") ∈ Wt := List.mem_filter.mpr ⟨t_in (t_in5 (List.mem_of_getElem? (i := 16) rfl)), rfl⟩
set_option maxRecDepth 20000 in
theorem k_977 : (Jvm.Cond.fieldLink "PrunedSearchModel" (149 : Nat) "PrunedSearchModel" "pieces" "I") ∈ Wt := List.mem_filter.mpr ⟨t_in (t_in5 (List.mem_of_getElem? (i := 17) rfl)), rfl⟩
set_option maxRecDepth 20000 in
theorem k_978 : (Jvm.Cond.fieldLink "PrunedSearchModel" (20 : Nat) "PrunedSearchModel" "pieceAt" "[I") ∈ Wt := List.mem_filter.mpr ⟨t_in (t_in5 (List.mem_of_getElem? (i := 18) rfl)), rfl⟩
set_option maxRecDepth 20000 in
theorem k_979 : (Jvm.Cond.fieldLink "PrunedSearchModel" (23 : Nat) "PrunedSearchModel" "pieceGoals" "[I") ∈ Wt := List.mem_filter.mpr ⟨t_in (t_in5 (List.mem_of_getElem? (i := 19) rfl)), rfl⟩
set_option maxRecDepth 20000 in
theorem k_980 : (Jvm.Cond.fieldLink "PrunedSearchModel" (26 : Nat) "PrunedSearchModel" "pieceVars" "[I") ∈ Wt := List.mem_filter.mpr ⟨t_in (t_in5 (List.mem_of_getElem? (i := 20) rfl)), rfl⟩
set_option maxRecDepth 20000 in
theorem k_981 : (Jvm.Cond.fieldLink "PrunedSearchModel" (152 : Nat) "PrunedSearchModel" "goalsRead" "I") ∈ Wt := List.mem_filter.mpr ⟨t_in (t_in5 (List.mem_of_getElem? (i := 21) rfl)), rfl⟩
set_option maxRecDepth 20000 in
theorem k_982 : (Jvm.Cond.fieldLink "PrunedSearchModel" (29 : Nat) "PrunedSearchModel" "readGoal" "[I") ∈ Wt := List.mem_filter.mpr ⟨t_in (t_in5 (List.mem_of_getElem? (i := 22) rfl)), rfl⟩
set_option maxRecDepth 20000 in
theorem k_983 : (Jvm.Cond.fieldLink "PrunedSearchModel" (32 : Nat) "PrunedSearchModel" "varWord" "[J") ∈ Wt := List.mem_filter.mpr ⟨t_in (t_in5 (List.mem_of_getElem? (i := 23) rfl)), rfl⟩
set_option maxRecDepth 20000 in
theorem k_984 : (Jvm.Cond.fieldLink "PrunedSearchModel" (35 : Nat) "PrunedSearchModel" "varAt" "[I") ∈ Wt := List.mem_filter.mpr ⟨t_in (t_in5 (List.mem_of_getElem? (i := 24) rfl)), rfl⟩
set_option maxRecDepth 20000 in
theorem k_985 : (Jvm.Cond.fieldLink "PrunedSearchModel" (140 : Nat) "PrunedSearchModel" "vars" "I") ∈ Wt := List.mem_filter.mpr ⟨t_in (t_in5 (List.mem_of_getElem? (i := 25) rfl)), rfl⟩
set_option maxRecDepth 20000 in
theorem k_986 : (Jvm.Cond.fieldLink "PrunedSearchModel" (155 : Nat) "PrunedSearchModel" "open" "I") ∈ Wt := List.mem_filter.mpr ⟨t_in (t_in5 (List.mem_of_getElem? (i := 26) rfl)), rfl⟩
set_option maxRecDepth 20000 in
theorem k_987 : (Jvm.Cond.fieldLink "PrunedSearchModel" (38 : Nat) "PrunedSearchModel" "kind" "[I") ∈ Wt := List.mem_filter.mpr ⟨t_in (t_in5 (List.mem_of_getElem? (i := 27) rfl)), rfl⟩
set_option maxRecDepth 20000 in
theorem k_988 : (Jvm.Cond.fieldLink "PrunedSearchModel" (41 : Nat) "PrunedSearchModel" "owner" "[I") ∈ Wt := List.mem_filter.mpr ⟨t_in (t_in5 (List.mem_of_getElem? (i := 28) rfl)), rfl⟩
set_option maxRecDepth 20000 in
theorem k_989 : (Jvm.Cond.fieldLink "PrunedSearchModel" (44 : Nat) "PrunedSearchModel" "count" "[I") ∈ Wt := List.mem_filter.mpr ⟨t_in (t_in5 (List.mem_of_getElem? (i := 29) rfl)), rfl⟩
set_option maxRecDepth 20000 in
theorem k_990 : (Jvm.Cond.fieldLink "PrunedSearchModel" (158 : Nat) "PrunedSearchModel" "fresh" "Z") ∈ Wt := List.mem_filter.mpr ⟨t_in (t_in5 (List.mem_of_getElem? (i := 30) rfl)), rfl⟩
set_option maxRecDepth 20000 in
theorem k_991 : (Jvm.Cond.fieldLink "PrunedSearchModel" (47 : Nat) "PrunedSearchModel" "code" "[J") ∈ Wt := List.mem_filter.mpr ⟨t_in (t_in5 (List.mem_of_getElem? (i := 31) rfl)), rfl⟩
set_option maxRecDepth 20000 in
theorem k_992 : (Jvm.Cond.fieldLink "PrunedSearchModel" (50 : Nat) "PrunedSearchModel" "arity" "[I") ∈ Wt := List.mem_filter.mpr ⟨t_in (t_in5 (List.mem_of_getElem? (i := 32) rfl)), rfl⟩
set_option maxRecDepth 20000 in
theorem k_993 : (Jvm.Cond.fieldLink "PrunedSearchModel" (221 : Nat) "PrunedSearchModel" "known" "I") ∈ Wt := List.mem_filter.mpr ⟨t_in (t_in5 (List.mem_of_getElem? (i := 33) rfl)), rfl⟩
set_option maxRecDepth 20000 in
theorem k_994 : (Jvm.Cond.fieldLink "PrunedSearchModel" (53 : Nat) "PrunedSearchModel" "size" "[I") ∈ Wt := List.mem_filter.mpr ⟨t_in (t_in5 (List.mem_of_getElem? (i := 34) rfl)), rfl⟩
set_option maxRecDepth 20000 in
theorem k_995 : (Jvm.Cond.fieldLink "PrunedSearchModel" (56 : Nat) "PrunedSearchModel" "goalCount" "[I") ∈ Wt := List.mem_filter.mpr ⟨t_in (t_in5 (List.mem_of_getElem? (i := 35) rfl)), rfl⟩
set_option maxRecDepth 20000 in
theorem k_996 : (Jvm.Cond.fieldLink "PrunedSearchModel" (59 : Nat) "PrunedSearchModel" "goalAt" "[I") ∈ Wt := List.mem_filter.mpr ⟨t_in (t_in5 (List.mem_of_getElem? (i := 36) rfl)), rfl⟩
set_option maxRecDepth 20000 in
theorem k_997 : (Jvm.Cond.fieldLink "PrunedSearchModel" (196 : Nat) "PrunedSearchModel" "names" "I") ∈ Wt := List.mem_filter.mpr ⟨t_in (t_in5 (List.mem_of_getElem? (i := 37) rfl)), rfl⟩
set_option maxRecDepth 20000 in
theorem k_998 : (Jvm.Cond.fieldLink "PrunedSearchModel" (62 : Nat) "PrunedSearchModel" "nameOf" "[J") ∈ Wt := List.mem_filter.mpr ⟨t_in (t_in5 (List.mem_of_getElem? (i := 38) rfl)), rfl⟩
set_option maxRecDepth 20000 in
theorem k_999 : (Jvm.Cond.fieldLink "PrunedSearchModel" (235 : Nat) "PrunedSearchModel" "asked" "I") ∈ Wt := List.mem_filter.mpr ⟨t_in (t_in5 (List.mem_of_getElem? (i := 39) rfl)), rfl⟩
set_option maxRecDepth 20000 in
theorem k_1000 : (Jvm.Cond.fieldLink "PrunedSearchModel" (65 : Nat) "PrunedSearchModel" "askedAt" "[I") ∈ Wt := List.mem_filter.mpr ⟨t_in (t_in5 (List.mem_of_getElem? (i := 40) rfl)), rfl⟩
set_option maxRecDepth 20000 in
theorem k_1001 : (Jvm.Cond.fieldLink "PrunedSearchModel" (199 : Nat) "PrunedSearchModel" "status" "I") ∈ Wt := List.mem_filter.mpr ⟨t_in (t_in5 (List.mem_of_getElem? (i := 41) rfl)), rfl⟩
set_option maxRecDepth 20000 in
theorem k_1002 : (Jvm.Cond.fieldLink "PrunedSearchModel" (288 : Nat) "PrunedSearchModel" "ending" "I") ∈ Wt := List.mem_filter.mpr ⟨t_in (t_in5 (List.mem_of_getElem? (i := 42) rfl)), rfl⟩
set_option maxRecDepth 20000 in
theorem k_1003 : (Jvm.Cond.fieldLink "PrunedSearchModel" (202 : Nat) "PrunedSearchModel" "tried" "I") ∈ Wt := List.mem_filter.mpr ⟨t_in (t_in5 (List.mem_of_getElem? (i := 43) rfl)), rfl⟩
set_option maxRecDepth 20000 in
theorem k_1004 : (Jvm.Cond.fieldLink "PrunedSearchModel" (205 : Nat) "PrunedSearchModel" "depth" "I") ∈ Wt := List.mem_filter.mpr ⟨t_in (t_in5 (List.mem_of_getElem? (i := 44) rfl)), rfl⟩
set_option maxRecDepth 20000 in
theorem k_1005 : (Jvm.Cond.fieldLink "PrunedSearchModel" (68 : Nat) "PrunedSearchModel" "pathClause" "[I") ∈ Wt := List.mem_filter.mpr ⟨t_in (t_in5 (List.mem_of_getElem? (i := 45) rfl)), rfl⟩
set_option maxRecDepth 20000 in
theorem k_1006 : (Jvm.Cond.fieldLink "PrunedSearchModel" (71 : Nat) "PrunedSearchModel" "pathCut" "[I") ∈ Wt := List.mem_filter.mpr ⟨t_in (t_in5 (List.mem_of_getElem? (i := 46) rfl)), rfl⟩
set_option maxRecDepth 20000 in
theorem k_1007 : (Jvm.Cond.fieldLink "PrunedSearchModel" (208 : Nat) "PrunedSearchModel" "picks" "I") ∈ Wt := List.mem_filter.mpr ⟨t_in (t_in5 (List.mem_of_getElem? (i := 47) rfl)), rfl⟩
set_option maxRecDepth 20000 in
theorem k_1008 : (Jvm.Cond.fieldLink "PrunedSearchModel" (74 : Nat) "PrunedSearchModel" "choiceDepth" "[I") ∈ Wt := List.mem_filter.mpr ⟨t_in (t_in5 (List.mem_of_getElem? (i := 48) rfl)), rfl⟩
set_option maxRecDepth 20000 in
theorem k_1009 : (Jvm.Cond.fieldLink "PrunedSearchModel" (77 : Nat) "PrunedSearchModel" "choiceLast" "[I") ∈ Wt := List.mem_filter.mpr ⟨t_in (t_in5 (List.mem_of_getElem? (i := 49) rfl)), rfl⟩
set_option maxRecDepth 20000 in
theorem k_1010 : (Jvm.Cond.fieldLink "PrunedSearchModel" (211 : Nat) "PrunedSearchModel" "left" "I") ∈ Wt := List.mem_filter.mpr ⟨t_in (t_in5 (List.mem_of_getElem? (i := 50) rfl)), rfl⟩
set_option maxRecDepth 20000 in
theorem k_1011 : (Jvm.Cond.fieldLink "PrunedSearchModel" (80 : Nat) "PrunedSearchModel" "goal" "[I") ∈ Wt := List.mem_filter.mpr ⟨t_in (t_in5 (List.mem_of_getElem? (i := 51) rfl)), rfl⟩
set_option maxRecDepth 20000 in
theorem k_1012 : (Jvm.Cond.fieldLink "PrunedSearchModel" (83 : Nat) "PrunedSearchModel" "goalFrame" "[I") ∈ Wt := List.mem_filter.mpr ⟨t_in (t_in5 (List.mem_of_getElem? (i := 52) rfl)), rfl⟩
set_option maxRecDepth 20000 in
theorem k_1013 : (Jvm.Cond.fieldLink "PrunedSearchModel" (86 : Nat) "PrunedSearchModel" "goalCut" "[I") ∈ Wt := List.mem_filter.mpr ⟨t_in (t_in5 (List.mem_of_getElem? (i := 53) rfl)), rfl⟩
set_option maxRecDepth 20000 in
theorem k_1014 : (Jvm.Cond.fieldLink "PrunedSearchModel" (89 : Nat) "PrunedSearchModel" "standsAt" "[I") ∈ Wt := List.mem_filter.mpr ⟨t_in (t_in5 (List.mem_of_getElem? (i := 54) rfl)), rfl⟩
set_option maxRecDepth 20000 in
theorem k_1015 : (Jvm.Cond.fieldLink "PrunedSearchModel" (92 : Nat) "PrunedSearchModel" "standsIn" "[I") ∈ Wt := List.mem_filter.mpr ⟨t_in (t_in5 (List.mem_of_getElem? (i := 55) rfl)), rfl⟩
set_option maxRecDepth 20000 in
theorem k_1016 : (Jvm.Cond.fieldLink "PrunedSearchModel" (241 : Nat) "PrunedSearchModel" "seenAt" "I") ∈ Wt := List.mem_filter.mpr ⟨t_in (t_in5 (List.mem_of_getElem? (i := 56) rfl)), rfl⟩
set_option maxRecDepth 20000 in
theorem k_1017 : (Jvm.Cond.fieldLink "PrunedSearchModel" (244 : Nat) "PrunedSearchModel" "seenIn" "I") ∈ Wt := List.mem_filter.mpr ⟨t_in (t_in5 (List.mem_of_getElem? (i := 57) rfl)), rfl⟩
set_option maxRecDepth 20000 in
theorem k_1018 : (Jvm.Cond.fieldLink "PrunedSearchModel" (95 : Nat) "PrunedSearchModel" "stack" "[I") ∈ Wt := List.mem_filter.mpr ⟨t_in (t_in5 (List.mem_of_getElem? (i := 58) rfl)), rfl⟩
set_option maxRecDepth 20000 in
theorem k_1019 : (Jvm.Cond.fieldLink "PrunedSearchModel" (98 : Nat) "PrunedSearchModel" "out" "[I") ∈ Wt := List.mem_filter.mpr ⟨t_in (t_in5 (List.mem_of_getElem? (i := 59) rfl)), rfl⟩
set_option maxRecDepth 20000 in
theorem k_1020 : (Jvm.Cond.fieldLink "PrunedSearchModel" (317 : Nat) "PrunedSearchModel" "written" "I") ∈ Wt := List.mem_filter.mpr ⟨t_in (t_in5 (List.mem_of_getElem? (i := 60) rfl)), rfl⟩
set_option maxRecDepth 20000 in
theorem k_1021 : (Jvm.Cond.fieldLink "PrunedSearchModel" (101 : Nat) "PrunedSearchModel" "shown" "[I") ∈ Wt := List.mem_filter.mpr ⟨t_in (t_in5 (List.mem_of_getElem? (i := 61) rfl)), rfl⟩
set_option maxRecDepth 20000 in
theorem k_1022 : (Jvm.Cond.fieldLink "PrunedSearchModel" (323 : Nat) "PrunedSearchModel" "numbered" "I") ∈ Wt := List.mem_filter.mpr ⟨t_in (t_in5 (List.mem_of_getElem? (i := 62) rfl)), rfl⟩
set_option maxRecDepth 20000 in
theorem k_1138 : (Jvm.Cond.constantLong "PrunedSearchModel" (108 : Nat) (255 : Int64)) ∈ Wt := List.mem_filter.mpr ⟨t_in (t_in5 (List.mem_of_getElem? (i := 178) rfl)), rfl⟩
set_option maxRecDepth 20000 in
theorem k_1139 : (Jvm.Cond.methodLink "PrunedSearchModel" (110 : Nat) ({ cls := "PrunedSearchModel", name := "isWord", desc := "(I)Z" } : Jvm.MethodName)) ∈ Wt := List.mem_filter.mpr ⟨t_in (t_in5 (List.mem_of_getElem? (i := 179) rfl)), rfl⟩
set_option maxRecDepth 20000 in
theorem k_1140 : (Jvm.Cond.static ({ cls := "PrunedSearchModel", name := "isWord", desc := "(I)Z" } : Jvm.MethodName)) ∈ Wt := List.mem_filter.mpr ⟨t_in (t_in5 (List.mem_of_getElem? (i := 180) rfl)), rfl⟩
set_option maxRecDepth 20000 in
theorem k_1141 : (Jvm.Cond.code ({ cls := "PrunedSearchModel", name := "isWord", desc := "(I)Z" } : Jvm.MethodName) prog_13_method_3_code (1 : Nat) (Option.some Jvm.ClassFile.FieldType.boolean)) ∈ Wt := List.mem_filter.mpr ⟨t_in (t_in5 (List.mem_of_getElem? (i := 181) rfl)), rfl⟩
set_option maxRecDepth 20000 in
theorem k_1142 : (Jvm.Cond.methodLink "PrunedSearchModel" (104 : Nat) ({ cls := "PrunedSearchModel", name := "isSmall", desc := "(I)Z" } : Jvm.MethodName)) ∈ Wt := List.mem_filter.mpr ⟨t_in (t_in5 (List.mem_of_getElem? (i := 182) rfl)), rfl⟩
set_option maxRecDepth 20000 in
theorem k_1143 : (Jvm.Cond.static ({ cls := "PrunedSearchModel", name := "isSmall", desc := "(I)Z" } : Jvm.MethodName)) ∈ Wt := List.mem_filter.mpr ⟨t_in (t_in5 (List.mem_of_getElem? (i := 183) rfl)), rfl⟩
set_option maxRecDepth 20000 in
theorem k_1144 : (Jvm.Cond.code ({ cls := "PrunedSearchModel", name := "isSmall", desc := "(I)Z" } : Jvm.MethodName) prog_13_method_2_code (1 : Nat) (Option.some Jvm.ClassFile.FieldType.boolean)) ∈ Wt := List.mem_filter.mpr ⟨t_in (t_in5 (List.mem_of_getElem? (i := 184) rfl)), rfl⟩
set_option maxRecDepth 20000 in
theorem k_1145 : (Jvm.Cond.methodLink "PrunedSearchModel" (113 : Nat) ({ cls := "PrunedSearchModel", name := "isSign", desc := "(I)Z" } : Jvm.MethodName)) ∈ Wt := List.mem_filter.mpr ⟨t_in (t_in5 (List.mem_of_getElem? (i := 185) rfl)), rfl⟩
set_option maxRecDepth 20000 in
theorem k_1146 : (Jvm.Cond.static ({ cls := "PrunedSearchModel", name := "isSign", desc := "(I)Z" } : Jvm.MethodName)) ∈ Wt := List.mem_filter.mpr ⟨t_in (t_in5 (List.mem_of_getElem? (i := 186) rfl)), rfl⟩
set_option maxRecDepth 20000 in
theorem k_1147 : (Jvm.Cond.code ({ cls := "PrunedSearchModel", name := "isSign", desc := "(I)Z" } : Jvm.MethodName) prog_13_method_4_code (1 : Nat) (Option.some Jvm.ClassFile.FieldType.boolean)) ∈ Wt := List.mem_filter.mpr ⟨t_in (t_in5 (List.mem_of_getElem? (i := 187) rfl)), rfl⟩
set_option maxRecDepth 20000 in
theorem k_1152 : (Jvm.Cond.methodLink "PrunedSearchModel" (214 : Nat) ({ cls := "PrunedSearchModel", name := "read", desc := "(Z)I" } : Jvm.MethodName)) ∈ Wt := List.mem_filter.mpr ⟨t_in (t_in5 (List.mem_of_getElem? (i := 192) rfl)), rfl⟩
set_option maxRecDepth 20000 in
theorem k_1154 : (Jvm.Cond.instanceMethod ({ cls := "PrunedSearchModel", name := "read", desc := "(Z)I" } : Jvm.MethodName)) ∈ Wt := List.mem_filter.mpr ⟨t_in (t_in5 (List.mem_of_getElem? (i := 194) rfl)), rfl⟩
set_option maxRecDepth 20000 in
theorem k_1155 : (Jvm.Cond.code ({ cls := "PrunedSearchModel", name := "read", desc := "(Z)I" } : Jvm.MethodName) prog_13_method_17_code (6 : Nat) (Option.some Jvm.ClassFile.FieldType.int)) ∈ Wt := List.mem_filter.mpr ⟨t_in (t_in5 (List.mem_of_getElem? (i := 195) rfl)), rfl⟩
set_option maxRecDepth 20000 in
theorem k_1156 : (Jvm.Cond.methodLink "PrunedSearchModel" (170 : Nat) ({ cls := "PrunedSearchModel", name := "beginPiece", desc := "()V" } : Jvm.MethodName)) ∈ Wt := List.mem_filter.mpr ⟨t_in (t_in5 (List.mem_of_getElem? (i := 196) rfl)), rfl⟩
set_option maxRecDepth 20000 in
theorem k_1158 : (Jvm.Cond.instanceMethod ({ cls := "PrunedSearchModel", name := "beginPiece", desc := "()V" } : Jvm.MethodName)) ∈ Wt := List.mem_filter.mpr ⟨t_in (t_in5 (List.mem_of_getElem? (i := 198) rfl)), rfl⟩
set_option maxRecDepth 20000 in
theorem k_1159 : (Jvm.Cond.code ({ cls := "PrunedSearchModel", name := "beginPiece", desc := "()V" } : Jvm.MethodName) prog_13_method_10_code (1 : Nat) (Option.none : Option Jvm.ClassFile.FieldType)) ∈ Wt := List.mem_filter.mpr ⟨t_in (t_in5 (List.mem_of_getElem? (i := 199) rfl)), rfl⟩
set_option maxRecDepth 20000 in
theorem k_1160 : (Jvm.Cond.methodLink "PrunedSearchModel" (179 : Nat) ({ cls := "PrunedSearchModel", name := "take", desc := "()V" } : Jvm.MethodName)) ∈ Wt := List.mem_filter.mpr ⟨t_in (t_in5 (List.mem_of_getElem? (i := 200) rfl)), rfl⟩
set_option maxRecDepth 20000 in
theorem k_1162 : (Jvm.Cond.instanceMethod ({ cls := "PrunedSearchModel", name := "take", desc := "()V" } : Jvm.MethodName)) ∈ Wt := List.mem_filter.mpr ⟨t_in (t_in5 (List.mem_of_getElem? (i := 202) rfl)), rfl⟩
set_option maxRecDepth 20000 in
theorem k_1163 : (Jvm.Cond.code ({ cls := "PrunedSearchModel", name := "take", desc := "()V" } : Jvm.MethodName) prog_13_method_7_code (2 : Nat) (Option.none : Option Jvm.ClassFile.FieldType)) ∈ Wt := List.mem_filter.mpr ⟨t_in (t_in5 (List.mem_of_getElem? (i := 203) rfl)), rfl⟩
set_option maxRecDepth 20000 in
theorem k_1164 : (Jvm.Cond.methodLink "PrunedSearchModel" (126 : Nat) ({ cls := "PrunedSearchModel", name := "at", desc := "(I)I" } : Jvm.MethodName)) ∈ Wt := List.mem_filter.mpr ⟨t_in (t_in5 (List.mem_of_getElem? (i := 204) rfl)), rfl⟩
set_option maxRecDepth 20000 in
theorem k_1166 : (Jvm.Cond.instanceMethod ({ cls := "PrunedSearchModel", name := "at", desc := "(I)I" } : Jvm.MethodName)) ∈ Wt := List.mem_filter.mpr ⟨t_in (t_in5 (List.mem_of_getElem? (i := 206) rfl)), rfl⟩
set_option maxRecDepth 20000 in
theorem k_1167 : (Jvm.Cond.code ({ cls := "PrunedSearchModel", name := "at", desc := "(I)I" } : Jvm.MethodName) prog_13_method_6_code (2 : Nat) (Option.some Jvm.ClassFile.FieldType.int)) ∈ Wt := List.mem_filter.mpr ⟨t_in (t_in5 (List.mem_of_getElem? (i := 207) rfl)), rfl⟩
set_option maxRecDepth 20000 in
theorem k_1168 : (Jvm.Cond.methodLink "PrunedSearchModel" (165 : Nat) ({ cls := "PrunedSearchModel", name := "push", desc := "(I)Z" } : Jvm.MethodName)) ∈ Wt := List.mem_filter.mpr ⟨t_in (t_in5 (List.mem_of_getElem? (i := 208) rfl)), rfl⟩
set_option maxRecDepth 20000 in
theorem k_1170 : (Jvm.Cond.instanceMethod ({ cls := "PrunedSearchModel", name := "push", desc := "(I)Z" } : Jvm.MethodName)) ∈ Wt := List.mem_filter.mpr ⟨t_in (t_in5 (List.mem_of_getElem? (i := 210) rfl)), rfl⟩
set_option maxRecDepth 20000 in
theorem k_1171 : (Jvm.Cond.code ({ cls := "PrunedSearchModel", name := "push", desc := "(I)Z" } : Jvm.MethodName) prog_13_method_13_code (2 : Nat) (Option.some Jvm.ClassFile.FieldType.boolean)) ∈ Wt := List.mem_filter.mpr ⟨t_in (t_in5 (List.mem_of_getElem? (i := 211) rfl)), rfl⟩
set_option maxRecDepth 20000 in
theorem k_1172 : (Jvm.Cond.methodLink "PrunedSearchModel" (182 : Nat) ({ cls := "PrunedSearchModel", name := "outside", desc := "(IZ)I" } : Jvm.MethodName)) ∈ Wt := List.mem_filter.mpr ⟨t_in (t_in5 (List.mem_of_getElem? (i := 212) rfl)), rfl⟩
set_option maxRecDepth 20000 in
theorem k_1174 : (Jvm.Cond.instanceMethod ({ cls := "PrunedSearchModel", name := "outside", desc := "(IZ)I" } : Jvm.MethodName)) ∈ Wt := List.mem_filter.mpr ⟨t_in (t_in5 (List.mem_of_getElem? (i := 214) rfl)), rfl⟩
set_option maxRecDepth 20000 in
theorem k_1175 : (Jvm.Cond.code ({ cls := "PrunedSearchModel", name := "outside", desc := "(IZ)I" } : Jvm.MethodName) prog_13_method_16_code (3 : Nat) (Option.some Jvm.ClassFile.FieldType.int)) ∈ Wt := List.mem_filter.mpr ⟨t_in (t_in5 (List.mem_of_getElem? (i := 215) rfl)), rfl⟩
set_option maxRecDepth 20000 in
theorem k_1176 : (Jvm.Cond.methodLink "PrunedSearchModel" (173 : Nat) ({ cls := "PrunedSearchModel", name := "beginGoal", desc := "()V" } : Jvm.MethodName)) ∈ Wt := List.mem_filter.mpr ⟨t_in (t_in5 (List.mem_of_getElem? (i := 216) rfl)), rfl⟩
set_option maxRecDepth 20000 in
theorem k_1178 : (Jvm.Cond.instanceMethod ({ cls := "PrunedSearchModel", name := "beginGoal", desc := "()V" } : Jvm.MethodName)) ∈ Wt := List.mem_filter.mpr ⟨t_in (t_in5 (List.mem_of_getElem? (i := 218) rfl)), rfl⟩
set_option maxRecDepth 20000 in
theorem k_1179 : (Jvm.Cond.code ({ cls := "PrunedSearchModel", name := "beginGoal", desc := "()V" } : Jvm.MethodName) prog_13_method_11_code (1 : Nat) (Option.none : Option Jvm.ClassFile.FieldType)) ∈ Wt := List.mem_filter.mpr ⟨t_in (t_in5 (List.mem_of_getElem? (i := 219) rfl)), rfl⟩
set_option maxRecDepth 20000 in
theorem k_1180 : (Jvm.Cond.methodLink "PrunedSearchModel" (145 : Nat) ({ cls := "PrunedSearchModel", name := "emit", desc := "(JI)V" } : Jvm.MethodName)) ∈ Wt := List.mem_filter.mpr ⟨t_in (t_in5 (List.mem_of_getElem? (i := 220) rfl)), rfl⟩
set_option maxRecDepth 20000 in
theorem k_1182 : (Jvm.Cond.instanceMethod ({ cls := "PrunedSearchModel", name := "emit", desc := "(JI)V" } : Jvm.MethodName)) ∈ Wt := List.mem_filter.mpr ⟨t_in (t_in5 (List.mem_of_getElem? (i := 222) rfl)), rfl⟩
set_option maxRecDepth 20000 in
theorem k_1183 : (Jvm.Cond.code ({ cls := "PrunedSearchModel", name := "emit", desc := "(JI)V" } : Jvm.MethodName) prog_13_method_8_code (4 : Nat) (Option.none : Option Jvm.ClassFile.FieldType)) ∈ Wt := List.mem_filter.mpr ⟨t_in (t_in5 (List.mem_of_getElem? (i := 223) rfl)), rfl⟩
set_option maxRecDepth 20000 in
theorem k_1184 : (Jvm.Cond.methodLink "PrunedSearchModel" (176 : Nat) ({ cls := "PrunedSearchModel", name := "endPiece", desc := "()V" } : Jvm.MethodName)) ∈ Wt := List.mem_filter.mpr ⟨t_in (t_in5 (List.mem_of_getElem? (i := 224) rfl)), rfl⟩
set_option maxRecDepth 20000 in
theorem k_1186 : (Jvm.Cond.instanceMethod ({ cls := "PrunedSearchModel", name := "endPiece", desc := "()V" } : Jvm.MethodName)) ∈ Wt := List.mem_filter.mpr ⟨t_in (t_in5 (List.mem_of_getElem? (i := 226) rfl)), rfl⟩
set_option maxRecDepth 20000 in
theorem k_1187 : (Jvm.Cond.code ({ cls := "PrunedSearchModel", name := "endPiece", desc := "()V" } : Jvm.MethodName) prog_13_method_12_code (1 : Nat) (Option.none : Option Jvm.ClassFile.FieldType)) ∈ Wt := List.mem_filter.mpr ⟨t_in (t_in5 (List.mem_of_getElem? (i := 227) rfl)), rfl⟩
set_option maxRecDepth 20000 in
theorem k_1188 : (Jvm.Cond.constantLong "PrunedSearchModel" (168 : Nat) (2 : Int64)) ∈ Wt := List.mem_filter.mpr ⟨t_in (t_in5 (List.mem_of_getElem? (i := 228) rfl)), rfl⟩
set_option maxRecDepth 20000 in
theorem k_1189 : (Jvm.Cond.methodLink "PrunedSearchModel" (186 : Nat) ({ cls := "PrunedSearchModel", name := "beginTerm", desc := "()Z" } : Jvm.MethodName)) ∈ Wt := List.mem_filter.mpr ⟨t_in (t_in5 (List.mem_of_getElem? (i := 229) rfl)), rfl⟩
set_option maxRecDepth 20000 in
theorem k_1191 : (Jvm.Cond.instanceMethod ({ cls := "PrunedSearchModel", name := "beginTerm", desc := "()Z" } : Jvm.MethodName)) ∈ Wt := List.mem_filter.mpr ⟨t_in (t_in5 (List.mem_of_getElem? (i := 231) rfl)), rfl⟩
set_option maxRecDepth 20000 in
theorem k_1192 : (Jvm.Cond.code ({ cls := "PrunedSearchModel", name := "beginTerm", desc := "()Z" } : Jvm.MethodName) prog_13_method_14_code (1 : Nat) (Option.some Jvm.ClassFile.FieldType.boolean)) ∈ Wt := List.mem_filter.mpr ⟨t_in (t_in5 (List.mem_of_getElem? (i := 232) rfl)), rfl⟩
set_option maxRecDepth 20000 in
theorem k_1193 : (Jvm.Cond.methodLink "PrunedSearchModel" (162 : Nat) ({ cls := "PrunedSearchModel", name := "emitVariable", desc := "()V" } : Jvm.MethodName)) ∈ Wt := List.mem_filter.mpr ⟨t_in (t_in5 (List.mem_of_getElem? (i := 233) rfl)), rfl⟩
set_option maxRecDepth 20000 in
theorem k_1195 : (Jvm.Cond.instanceMethod ({ cls := "PrunedSearchModel", name := "emitVariable", desc := "()V" } : Jvm.MethodName)) ∈ Wt := List.mem_filter.mpr ⟨t_in (t_in5 (List.mem_of_getElem? (i := 235) rfl)), rfl⟩
set_option maxRecDepth 20000 in
theorem k_1196 : (Jvm.Cond.code ({ cls := "PrunedSearchModel", name := "emitVariable", desc := "()V" } : Jvm.MethodName) prog_13_method_9_code (3 : Nat) (Option.none : Option Jvm.ClassFile.FieldType)) ∈ Wt := List.mem_filter.mpr ⟨t_in (t_in5 (List.mem_of_getElem? (i := 236) rfl)), rfl⟩
set_option maxRecDepth 20000 in
theorem k_1197 : (Jvm.Cond.constantLong "PrunedSearchModel" (143 : Nat) (95 : Int64)) ∈ Wt := List.mem_filter.mpr ⟨t_in (t_in5 (List.mem_of_getElem? (i := 237) rfl)), rfl⟩
set_option maxRecDepth 20000 in
theorem k_1198 : (Jvm.Cond.methodLink "PrunedSearchModel" (190 : Nat) ({ cls := "PrunedSearchModel", name := "goOn", desc := "()Z" } : Jvm.MethodName)) ∈ Wt := List.mem_filter.mpr ⟨t_in (t_in5 (List.mem_of_getElem? (i := 238) rfl)), rfl⟩
set_option maxRecDepth 20000 in
theorem k_1200 : (Jvm.Cond.instanceMethod ({ cls := "PrunedSearchModel", name := "goOn", desc := "()Z" } : Jvm.MethodName)) ∈ Wt := List.mem_filter.mpr ⟨t_in (t_in6 (List.mem_of_getElem? (i := 0) rfl)), rfl⟩
set_option maxRecDepth 20000 in
theorem k_1201 : (Jvm.Cond.code ({ cls := "PrunedSearchModel", name := "goOn", desc := "()Z" } : Jvm.MethodName) prog_13_method_15_code (2 : Nat) (Option.some Jvm.ClassFile.FieldType.boolean)) ∈ Wt := List.mem_filter.mpr ⟨t_in (t_in6 (List.mem_of_getElem? (i := 1) rfl)), rfl⟩
set_option maxRecDepth 20000 in
theorem k_1202 : (Jvm.Cond.methodLink "PrunedSearchModel" (218 : Nat) ({ cls := "PrunedSearchModel", name := "noSearch", desc := "()V" } : Jvm.MethodName)) ∈ Wt := List.mem_filter.mpr ⟨t_in (t_in6 (List.mem_of_getElem? (i := 2) rfl)), rfl⟩
set_option maxRecDepth 20000 in
theorem k_1204 : (Jvm.Cond.instanceMethod ({ cls := "PrunedSearchModel", name := "noSearch", desc := "()V" } : Jvm.MethodName)) ∈ Wt := List.mem_filter.mpr ⟨t_in (t_in6 (List.mem_of_getElem? (i := 4) rfl)), rfl⟩
set_option maxRecDepth 20000 in
theorem k_1205 : (Jvm.Cond.code ({ cls := "PrunedSearchModel", name := "noSearch", desc := "()V" } : Jvm.MethodName) prog_13_method_22_code (1 : Nat) (Option.none : Option Jvm.ClassFile.FieldType)) ∈ Wt := List.mem_filter.mpr ⟨t_in (t_in6 (List.mem_of_getElem? (i := 5) rfl)), rfl⟩
set_option maxRecDepth 20000 in
theorem k_1206 : (Jvm.Cond.methodLink "PrunedSearchModel" (224 : Nat) ({ cls := "PrunedSearchModel", name := "tooMuch", desc := "(I)Z" } : Jvm.MethodName)) ∈ Wt := List.mem_filter.mpr ⟨t_in (t_in6 (List.mem_of_getElem? (i := 6) rfl)), rfl⟩
set_option maxRecDepth 20000 in
theorem k_1208 : (Jvm.Cond.instanceMethod ({ cls := "PrunedSearchModel", name := "tooMuch", desc := "(I)Z" } : Jvm.MethodName)) ∈ Wt := List.mem_filter.mpr ⟨t_in (t_in6 (List.mem_of_getElem? (i := 8) rfl)), rfl⟩
set_option maxRecDepth 20000 in
theorem k_1209 : (Jvm.Cond.code ({ cls := "PrunedSearchModel", name := "tooMuch", desc := "(I)Z" } : Jvm.MethodName) prog_13_method_19_code (4 : Nat) (Option.some Jvm.ClassFile.FieldType.boolean)) ∈ Wt := List.mem_filter.mpr ⟨t_in (t_in6 (List.mem_of_getElem? (i := 9) rfl)), rfl⟩
set_option maxRecDepth 20000 in
theorem k_1210 : (Jvm.Cond.methodLink "PrunedSearchModel" (193 : Nat) ({ cls := "PrunedSearchModel", name := "endOf", desc := "(I)I" } : Jvm.MethodName)) ∈ Wt := List.mem_filter.mpr ⟨t_in (t_in6 (List.mem_of_getElem? (i := 10) rfl)), rfl⟩
set_option maxRecDepth 20000 in
theorem k_1212 : (Jvm.Cond.instanceMethod ({ cls := "PrunedSearchModel", name := "endOf", desc := "(I)I" } : Jvm.MethodName)) ∈ Wt := List.mem_filter.mpr ⟨t_in (t_in6 (List.mem_of_getElem? (i := 12) rfl)), rfl⟩
set_option maxRecDepth 20000 in
theorem k_1213 : (Jvm.Cond.code ({ cls := "PrunedSearchModel", name := "endOf", desc := "(I)I" } : Jvm.MethodName) prog_13_method_18_code (2 : Nat) (Option.some Jvm.ClassFile.FieldType.int)) ∈ Wt := List.mem_filter.mpr ⟨t_in (t_in6 (List.mem_of_getElem? (i := 13) rfl)), rfl⟩
set_option maxRecDepth 20000 in
theorem k_1214 : (Jvm.Cond.methodLink "PrunedSearchModel" (227 : Nat) ({ cls := "PrunedSearchModel", name := "addNames", desc := "()I" } : Jvm.MethodName)) ∈ Wt := List.mem_filter.mpr ⟨t_in (t_in6 (List.mem_of_getElem? (i := 14) rfl)), rfl⟩
set_option maxRecDepth 20000 in
theorem k_1216 : (Jvm.Cond.instanceMethod ({ cls := "PrunedSearchModel", name := "addNames", desc := "()I" } : Jvm.MethodName)) ∈ Wt := List.mem_filter.mpr ⟨t_in (t_in6 (List.mem_of_getElem? (i := 16) rfl)), rfl⟩
set_option maxRecDepth 20000 in
theorem k_1217 : (Jvm.Cond.code ({ cls := "PrunedSearchModel", name := "addNames", desc := "()I" } : Jvm.MethodName) prog_13_method_20_code (5 : Nat) (Option.some Jvm.ClassFile.FieldType.int)) ∈ Wt := List.mem_filter.mpr ⟨t_in (t_in6 (List.mem_of_getElem? (i := 17) rfl)), rfl⟩
set_option maxRecDepth 20000 in
theorem k_1218 : (Jvm.Cond.methodLink "PrunedSearchModel" (231 : Nat) ({ cls := "PrunedSearchModel", name := "keep", desc := "(III)V" } : Jvm.MethodName)) ∈ Wt := List.mem_filter.mpr ⟨t_in (t_in6 (List.mem_of_getElem? (i := 18) rfl)), rfl⟩
set_option maxRecDepth 20000 in
theorem k_1220 : (Jvm.Cond.instanceMethod ({ cls := "PrunedSearchModel", name := "keep", desc := "(III)V" } : Jvm.MethodName)) ∈ Wt := List.mem_filter.mpr ⟨t_in (t_in6 (List.mem_of_getElem? (i := 20) rfl)), rfl⟩
set_option maxRecDepth 20000 in
theorem k_1221 : (Jvm.Cond.code ({ cls := "PrunedSearchModel", name := "keep", desc := "(III)V" } : Jvm.MethodName) prog_13_method_21_code (5 : Nat) (Option.none : Option Jvm.ClassFile.FieldType)) ∈ Wt := List.mem_filter.mpr ⟨t_in (t_in6 (List.mem_of_getElem? (i := 21) rfl)), rfl⟩
set_option maxRecDepth 20000 in
theorem k_1226 : (Jvm.Cond.methodLink "PrunedSearchModel" (238 : Nat) ({ cls := "PrunedSearchModel", name := "begin", desc := "()V" } : Jvm.MethodName)) ∈ Wt := List.mem_filter.mpr ⟨t_in (t_in6 (List.mem_of_getElem? (i := 26) rfl)), rfl⟩
set_option maxRecDepth 20000 in
theorem k_1228 : (Jvm.Cond.instanceMethod ({ cls := "PrunedSearchModel", name := "begin", desc := "()V" } : Jvm.MethodName)) ∈ Wt := List.mem_filter.mpr ⟨t_in (t_in6 (List.mem_of_getElem? (i := 28) rfl)), rfl⟩
set_option maxRecDepth 20000 in
theorem k_1229 : (Jvm.Cond.code ({ cls := "PrunedSearchModel", name := "begin", desc := "()V" } : Jvm.MethodName) prog_13_method_34_code (1 : Nat) (Option.none : Option Jvm.ClassFile.FieldType)) ∈ Wt := List.mem_filter.mpr ⟨t_in (t_in6 (List.mem_of_getElem? (i := 29) rfl)), rfl⟩
set_option maxRecDepth 20000 in
theorem k_1230 : (Jvm.Cond.methodLink "PrunedSearchModel" (265 : Nat) ({ cls := "PrunedSearchModel", name := "clearFrame", desc := "(I)V" } : Jvm.MethodName)) ∈ Wt := List.mem_filter.mpr ⟨t_in (t_in6 (List.mem_of_getElem? (i := 30) rfl)), rfl⟩
set_option maxRecDepth 20000 in
theorem k_1232 : (Jvm.Cond.instanceMethod ({ cls := "PrunedSearchModel", name := "clearFrame", desc := "(I)V" } : Jvm.MethodName)) ∈ Wt := List.mem_filter.mpr ⟨t_in (t_in6 (List.mem_of_getElem? (i := 32) rfl)), rfl⟩
set_option maxRecDepth 20000 in
theorem k_1233 : (Jvm.Cond.code ({ cls := "PrunedSearchModel", name := "clearFrame", desc := "(I)V" } : Jvm.MethodName) prog_13_method_32_code (3 : Nat) (Option.none : Option Jvm.ClassFile.FieldType)) ∈ Wt := List.mem_filter.mpr ⟨t_in (t_in6 (List.mem_of_getElem? (i := 33) rfl)), rfl⟩
set_option maxRecDepth 20000 in
theorem k_1234 : (Jvm.Cond.methodLink "PrunedSearchModel" (269 : Nat) ({ cls := "PrunedSearchModel", name := "prepend", desc := "(III)V" } : Jvm.MethodName)) ∈ Wt := List.mem_filter.mpr ⟨t_in (t_in6 (List.mem_of_getElem? (i := 34) rfl)), rfl⟩
set_option maxRecDepth 20000 in
theorem k_1236 : (Jvm.Cond.instanceMethod ({ cls := "PrunedSearchModel", name := "prepend", desc := "(III)V" } : Jvm.MethodName)) ∈ Wt := List.mem_filter.mpr ⟨t_in (t_in6 (List.mem_of_getElem? (i := 36) rfl)), rfl⟩
set_option maxRecDepth 20000 in
theorem k_1237 : (Jvm.Cond.code ({ cls := "PrunedSearchModel", name := "prepend", desc := "(III)V" } : Jvm.MethodName) prog_13_method_33_code (5 : Nat) (Option.none : Option Jvm.ClassFile.FieldType)) ∈ Wt := List.mem_filter.mpr ⟨t_in (t_in6 (List.mem_of_getElem? (i := 37) rfl)), rfl⟩
set_option maxRecDepth 20000 in
theorem k_1242 : (Jvm.Cond.methodLink "PrunedSearchModel" (294 : Nat) ({ cls := "PrunedSearchModel", name := "end", desc := "(I)V" } : Jvm.MethodName)) ∈ Wt := List.mem_filter.mpr ⟨t_in (t_in6 (List.mem_of_getElem? (i := 42) rfl)), rfl⟩
set_option maxRecDepth 20000 in
theorem k_1244 : (Jvm.Cond.instanceMethod ({ cls := "PrunedSearchModel", name := "end", desc := "(I)V" } : Jvm.MethodName)) ∈ Wt := List.mem_filter.mpr ⟨t_in (t_in6 (List.mem_of_getElem? (i := 44) rfl)), rfl⟩
set_option maxRecDepth 20000 in
theorem k_1245 : (Jvm.Cond.code ({ cls := "PrunedSearchModel", name := "end", desc := "(I)V" } : Jvm.MethodName) prog_13_method_40_code (2 : Nat) (Option.none : Option Jvm.ClassFile.FieldType)) ∈ Wt := List.mem_filter.mpr ⟨t_in (t_in6 (List.mem_of_getElem? (i := 45) rfl)), rfl⟩
set_option maxRecDepth 20000 in
theorem k_1246 : (Jvm.Cond.methodLink "PrunedSearchModel" (314 : Nat) ({ cls := "PrunedSearchModel", name := "step", desc := "()V" } : Jvm.MethodName)) ∈ Wt := List.mem_filter.mpr ⟨t_in (t_in6 (List.mem_of_getElem? (i := 46) rfl)), rfl⟩
set_option maxRecDepth 20000 in
theorem k_1248 : (Jvm.Cond.instanceMethod ({ cls := "PrunedSearchModel", name := "step", desc := "()V" } : Jvm.MethodName)) ∈ Wt := List.mem_filter.mpr ⟨t_in (t_in6 (List.mem_of_getElem? (i := 48) rfl)), rfl⟩
set_option maxRecDepth 20000 in
theorem k_1249 : (Jvm.Cond.code ({ cls := "PrunedSearchModel", name := "step", desc := "()V" } : Jvm.MethodName) prog_13_method_44_code (1 : Nat) (Option.none : Option Jvm.ClassFile.FieldType)) ∈ Wt := List.mem_filter.mpr ⟨t_in (t_in6 (List.mem_of_getElem? (i := 49) rfl)), rfl⟩
set_option maxRecDepth 20000 in
theorem k_1250 : (Jvm.Cond.methodLink "PrunedSearchModel" (308 : Nat) ({ cls := "PrunedSearchModel", name := "forward", desc := "()V" } : Jvm.MethodName)) ∈ Wt := List.mem_filter.mpr ⟨t_in (t_in6 (List.mem_of_getElem? (i := 50) rfl)), rfl⟩
set_option maxRecDepth 20000 in
theorem k_1252 : (Jvm.Cond.instanceMethod ({ cls := "PrunedSearchModel", name := "forward", desc := "()V" } : Jvm.MethodName)) ∈ Wt := List.mem_filter.mpr ⟨t_in (t_in6 (List.mem_of_getElem? (i := 52) rfl)), rfl⟩
set_option maxRecDepth 20000 in
theorem k_1253 : (Jvm.Cond.code ({ cls := "PrunedSearchModel", name := "forward", desc := "()V" } : Jvm.MethodName) prog_13_method_42_code (5 : Nat) (Option.none : Option Jvm.ClassFile.FieldType)) ∈ Wt := List.mem_filter.mpr ⟨t_in (t_in6 (List.mem_of_getElem? (i := 53) rfl)), rfl⟩
set_option maxRecDepth 20000 in
theorem k_1254 : (Jvm.Cond.constantLong "PrunedSearchModel" (272 : Nat) (1702195828 : Int64)) ∈ Wt := List.mem_filter.mpr ⟨t_in (t_in6 (List.mem_of_getElem? (i := 54) rfl)), rfl⟩
set_option maxRecDepth 20000 in
theorem k_1255 : (Jvm.Cond.methodLink "PrunedSearchModel" (274 : Nat) ({ cls := "PrunedSearchModel", name := "isWordAlone", desc := "(IJ)Z" } : Jvm.MethodName)) ∈ Wt := List.mem_filter.mpr ⟨t_in (t_in6 (List.mem_of_getElem? (i := 55) rfl)), rfl⟩
set_option maxRecDepth 20000 in
theorem k_1257 : (Jvm.Cond.instanceMethod ({ cls := "PrunedSearchModel", name := "isWordAlone", desc := "(IJ)Z" } : Jvm.MethodName)) ∈ Wt := List.mem_filter.mpr ⟨t_in (t_in6 (List.mem_of_getElem? (i := 57) rfl)), rfl⟩
set_option maxRecDepth 20000 in
theorem k_1258 : (Jvm.Cond.code ({ cls := "PrunedSearchModel", name := "isWordAlone", desc := "(IJ)Z" } : Jvm.MethodName) prog_13_method_35_code (4 : Nat) (Option.some Jvm.ClassFile.FieldType.boolean)) ∈ Wt := List.mem_filter.mpr ⟨t_in (t_in6 (List.mem_of_getElem? (i := 58) rfl)), rfl⟩
set_option maxRecDepth 20000 in
theorem k_1259 : (Jvm.Cond.constantLong "PrunedSearchModel" (297 : Nat) (1818845542 : Int64)) ∈ Wt := List.mem_filter.mpr ⟨t_in (t_in6 (List.mem_of_getElem? (i := 59) rfl)), rfl⟩
set_option maxRecDepth 20000 in
theorem k_1260 : (Jvm.Cond.methodLink "PrunedSearchModel" (299 : Nat) ({ cls := "PrunedSearchModel", name := "candidate", desc := "(III)I" } : Jvm.MethodName)) ∈ Wt := List.mem_filter.mpr ⟨t_in (t_in6 (List.mem_of_getElem? (i := 60) rfl)), rfl⟩
set_option maxRecDepth 20000 in
theorem k_1262 : (Jvm.Cond.instanceMethod ({ cls := "PrunedSearchModel", name := "candidate", desc := "(III)I" } : Jvm.MethodName)) ∈ Wt := List.mem_filter.mpr ⟨t_in (t_in6 (List.mem_of_getElem? (i := 62) rfl)), rfl⟩
set_option maxRecDepth 20000 in
theorem k_1263 : (Jvm.Cond.code ({ cls := "PrunedSearchModel", name := "candidate", desc := "(III)I" } : Jvm.MethodName) prog_13_method_38_code (8 : Nat) (Option.some Jvm.ClassFile.FieldType.int)) ∈ Wt := List.mem_filter.mpr ⟨t_in (t_in6 (List.mem_of_getElem? (i := 63) rfl)), rfl⟩
set_option maxRecDepth 20000 in
theorem k_1264 : (Jvm.Cond.methodLink "PrunedSearchModel" (250 : Nat) ({ cls := "PrunedSearchModel", name := "follow", desc := "(II)V" } : Jvm.MethodName)) ∈ Wt := List.mem_filter.mpr ⟨t_in (t_in6 (List.mem_of_getElem? (i := 64) rfl)), rfl⟩
set_option maxRecDepth 20000 in
theorem k_1266 : (Jvm.Cond.instanceMethod ({ cls := "PrunedSearchModel", name := "follow", desc := "(II)V" } : Jvm.MethodName)) ∈ Wt := List.mem_filter.mpr ⟨t_in (t_in6 (List.mem_of_getElem? (i := 66) rfl)), rfl⟩
set_option maxRecDepth 20000 in
theorem k_1267 : (Jvm.Cond.code ({ cls := "PrunedSearchModel", name := "follow", desc := "(II)V" } : Jvm.MethodName) prog_13_method_26_code (5 : Nat) (Option.none : Option Jvm.ClassFile.FieldType)) ∈ Wt := List.mem_filter.mpr ⟨t_in (t_in6 (List.mem_of_getElem? (i := 67) rfl)), rfl⟩
set_option maxRecDepth 20000 in
theorem k_1268 : (Jvm.Cond.methodLink "PrunedSearchModel" (302 : Nat) ({ cls := "PrunedSearchModel", name := "resolve", desc := "(II)V" } : Jvm.MethodName)) ∈ Wt := List.mem_filter.mpr ⟨t_in (t_in6 (List.mem_of_getElem? (i := 68) rfl)), rfl⟩
set_option maxRecDepth 20000 in
theorem k_1270 : (Jvm.Cond.instanceMethod ({ cls := "PrunedSearchModel", name := "resolve", desc := "(II)V" } : Jvm.MethodName)) ∈ Wt := List.mem_filter.mpr ⟨t_in (t_in6 (List.mem_of_getElem? (i := 70) rfl)), rfl⟩
set_option maxRecDepth 20000 in
theorem k_1271 : (Jvm.Cond.code ({ cls := "PrunedSearchModel", name := "resolve", desc := "(II)V" } : Jvm.MethodName) prog_13_method_41_code (5 : Nat) (Option.none : Option Jvm.ClassFile.FieldType)) ∈ Wt := List.mem_filter.mpr ⟨t_in (t_in6 (List.mem_of_getElem? (i := 71) rfl)), rfl⟩
set_option maxRecDepth 20000 in
theorem k_1272 : (Jvm.Cond.methodLink "PrunedSearchModel" (281 : Nat) ({ cls := "PrunedSearchModel", name := "equalize", desc := "(IIII)Z" } : Jvm.MethodName)) ∈ Wt := List.mem_filter.mpr ⟨t_in (t_in6 (List.mem_of_getElem? (i := 72) rfl)), rfl⟩
set_option maxRecDepth 20000 in
theorem k_1274 : (Jvm.Cond.instanceMethod ({ cls := "PrunedSearchModel", name := "equalize", desc := "(IIII)Z" } : Jvm.MethodName)) ∈ Wt := List.mem_filter.mpr ⟨t_in (t_in6 (List.mem_of_getElem? (i := 74) rfl)), rfl⟩
set_option maxRecDepth 20000 in
theorem k_1275 : (Jvm.Cond.code ({ cls := "PrunedSearchModel", name := "equalize", desc := "(IIII)Z" } : Jvm.MethodName) prog_13_method_31_code (19 : Nat) (Option.some Jvm.ClassFile.FieldType.boolean)) ∈ Wt := List.mem_filter.mpr ⟨t_in (t_in6 (List.mem_of_getElem? (i := 75) rfl)), rfl⟩
set_option maxRecDepth 20000 in
theorem k_1276 : (Jvm.Cond.methodLink "PrunedSearchModel" (262 : Nat) ({ cls := "PrunedSearchModel", name := "bind", desc := "(IIII)Z" } : Jvm.MethodName)) ∈ Wt := List.mem_filter.mpr ⟨t_in (t_in6 (List.mem_of_getElem? (i := 76) rfl)), rfl⟩
set_option maxRecDepth 20000 in
theorem k_1278 : (Jvm.Cond.instanceMethod ({ cls := "PrunedSearchModel", name := "bind", desc := "(IIII)Z" } : Jvm.MethodName)) ∈ Wt := List.mem_filter.mpr ⟨t_in (t_in6 (List.mem_of_getElem? (i := 78) rfl)), rfl⟩
set_option maxRecDepth 20000 in
theorem k_1279 : (Jvm.Cond.code ({ cls := "PrunedSearchModel", name := "bind", desc := "(IIII)Z" } : Jvm.MethodName) prog_13_method_30_code (5 : Nat) (Option.some Jvm.ClassFile.FieldType.boolean)) ∈ Wt := List.mem_filter.mpr ⟨t_in (t_in6 (List.mem_of_getElem? (i := 79) rfl)), rfl⟩
set_option maxRecDepth 20000 in
theorem k_1280 : (Jvm.Cond.methodLink "PrunedSearchModel" (258 : Nat) ({ cls := "PrunedSearchModel", name := "stands", desc := "(IIII)Z" } : Jvm.MethodName)) ∈ Wt := List.mem_filter.mpr ⟨t_in (t_in6 (List.mem_of_getElem? (i := 80) rfl)), rfl⟩
set_option maxRecDepth 20000 in
theorem k_1282 : (Jvm.Cond.instanceMethod ({ cls := "PrunedSearchModel", name := "stands", desc := "(IIII)Z" } : Jvm.MethodName)) ∈ Wt := List.mem_filter.mpr ⟨t_in (t_in6 (List.mem_of_getElem? (i := 82) rfl)), rfl⟩
set_option maxRecDepth 20000 in
theorem k_1283 : (Jvm.Cond.code ({ cls := "PrunedSearchModel", name := "stands", desc := "(IIII)Z" } : Jvm.MethodName) prog_13_method_29_code (6 : Nat) (Option.some Jvm.ClassFile.FieldType.boolean)) ∈ Wt := List.mem_filter.mpr ⟨t_in (t_in6 (List.mem_of_getElem? (i := 83) rfl)), rfl⟩
set_option maxRecDepth 20000 in
theorem k_1284 : (Jvm.Cond.methodLink "PrunedSearchModel" (254 : Nat) ({ cls := "PrunedSearchModel", name := "pushAll", desc := "(III)I" } : Jvm.MethodName)) ∈ Wt := List.mem_filter.mpr ⟨t_in (t_in6 (List.mem_of_getElem? (i := 84) rfl)), rfl⟩
set_option maxRecDepth 20000 in
theorem k_1286 : (Jvm.Cond.instanceMethod ({ cls := "PrunedSearchModel", name := "pushAll", desc := "(III)I" } : Jvm.MethodName)) ∈ Wt := List.mem_filter.mpr ⟨t_in (t_in6 (List.mem_of_getElem? (i := 86) rfl)), rfl⟩
set_option maxRecDepth 20000 in
theorem k_1287 : (Jvm.Cond.code ({ cls := "PrunedSearchModel", name := "pushAll", desc := "(III)I" } : Jvm.MethodName) prog_13_method_27_code (7 : Nat) (Option.some Jvm.ClassFile.FieldType.int)) ∈ Wt := List.mem_filter.mpr ⟨t_in (t_in6 (List.mem_of_getElem? (i := 87) rfl)), rfl⟩
set_option maxRecDepth 20000 in
theorem k_1288 : (Jvm.Cond.methodLink "PrunedSearchModel" (247 : Nat) ({ cls := "PrunedSearchModel", name := "behind", desc := "(I)I" } : Jvm.MethodName)) ∈ Wt := List.mem_filter.mpr ⟨t_in (t_in6 (List.mem_of_getElem? (i := 88) rfl)), rfl⟩
set_option maxRecDepth 20000 in
theorem k_1290 : (Jvm.Cond.instanceMethod ({ cls := "PrunedSearchModel", name := "behind", desc := "(I)I" } : Jvm.MethodName)) ∈ Wt := List.mem_filter.mpr ⟨t_in (t_in6 (List.mem_of_getElem? (i := 90) rfl)), rfl⟩
set_option maxRecDepth 20000 in
theorem k_1291 : (Jvm.Cond.code ({ cls := "PrunedSearchModel", name := "behind", desc := "(I)I" } : Jvm.MethodName) prog_13_method_25_code (4 : Nat) (Option.some Jvm.ClassFile.FieldType.int)) ∈ Wt := List.mem_filter.mpr ⟨t_in (t_in6 (List.mem_of_getElem? (i := 91) rfl)), rfl⟩
set_option maxRecDepth 20000 in
theorem k_1292 : (Jvm.Cond.methodLink "PrunedSearchModel" (291 : Nat) ({ cls := "PrunedSearchModel", name := "large", desc := "()Z" } : Jvm.MethodName)) ∈ Wt := List.mem_filter.mpr ⟨t_in (t_in6 (List.mem_of_getElem? (i := 92) rfl)), rfl⟩
set_option maxRecDepth 20000 in
theorem k_1294 : (Jvm.Cond.instanceMethod ({ cls := "PrunedSearchModel", name := "large", desc := "()Z" } : Jvm.MethodName)) ∈ Wt := List.mem_filter.mpr ⟨t_in (t_in6 (List.mem_of_getElem? (i := 94) rfl)), rfl⟩
set_option maxRecDepth 20000 in
theorem k_1295 : (Jvm.Cond.code ({ cls := "PrunedSearchModel", name := "large", desc := "()Z" } : Jvm.MethodName) prog_13_method_39_code (3 : Nat) (Option.some Jvm.ClassFile.FieldType.boolean)) ∈ Wt := List.mem_filter.mpr ⟨t_in (t_in6 (List.mem_of_getElem? (i := 95) rfl)), rfl⟩
set_option maxRecDepth 20000 in
theorem k_1296 : (Jvm.Cond.methodLink "PrunedSearchModel" (284 : Nat) ({ cls := "PrunedSearchModel", name := "symbolsOf", desc := "(II)I" } : Jvm.MethodName)) ∈ Wt := List.mem_filter.mpr ⟨t_in (t_in6 (List.mem_of_getElem? (i := 96) rfl)), rfl⟩
set_option maxRecDepth 20000 in
theorem k_1298 : (Jvm.Cond.instanceMethod ({ cls := "PrunedSearchModel", name := "symbolsOf", desc := "(II)I" } : Jvm.MethodName)) ∈ Wt := List.mem_filter.mpr ⟨t_in (t_in6 (List.mem_of_getElem? (i := 98) rfl)), rfl⟩
set_option maxRecDepth 20000 in
theorem k_1299 : (Jvm.Cond.code ({ cls := "PrunedSearchModel", name := "symbolsOf", desc := "(II)I" } : Jvm.MethodName) prog_13_method_28_code (5 : Nat) (Option.some Jvm.ClassFile.FieldType.int)) ∈ Wt := List.mem_filter.mpr ⟨t_in (t_in6 (List.mem_of_getElem? (i := 99) rfl)), rfl⟩
set_option maxRecDepth 20000 in
theorem k_1300 : (Jvm.Cond.methodLink "PrunedSearchModel" (311 : Nat) ({ cls := "PrunedSearchModel", name := "back", desc := "()V" } : Jvm.MethodName)) ∈ Wt := List.mem_filter.mpr ⟨t_in (t_in6 (List.mem_of_getElem? (i := 100) rfl)), rfl⟩
set_option maxRecDepth 20000 in
theorem k_1302 : (Jvm.Cond.instanceMethod ({ cls := "PrunedSearchModel", name := "back", desc := "()V" } : Jvm.MethodName)) ∈ Wt := List.mem_filter.mpr ⟨t_in (t_in6 (List.mem_of_getElem? (i := 102) rfl)), rfl⟩
set_option maxRecDepth 20000 in
theorem k_1303 : (Jvm.Cond.code ({ cls := "PrunedSearchModel", name := "back", desc := "()V" } : Jvm.MethodName) prog_13_method_43_code (3 : Nat) (Option.none : Option Jvm.ClassFile.FieldType)) ∈ Wt := List.mem_filter.mpr ⟨t_in (t_in6 (List.mem_of_getElem? (i := 103) rfl)), rfl⟩
set_option maxRecDepth 20000 in
theorem k_1304 : (Jvm.Cond.methodLink "PrunedSearchModel" (305 : Nat) ({ cls := "PrunedSearchModel", name := "again", desc := "(I)V" } : Jvm.MethodName)) ∈ Wt := List.mem_filter.mpr ⟨t_in (t_in6 (List.mem_of_getElem? (i := 104) rfl)), rfl⟩
set_option maxRecDepth 20000 in
theorem k_1306 : (Jvm.Cond.instanceMethod ({ cls := "PrunedSearchModel", name := "again", desc := "(I)V" } : Jvm.MethodName)) ∈ Wt := List.mem_filter.mpr ⟨t_in (t_in6 (List.mem_of_getElem? (i := 106) rfl)), rfl⟩
set_option maxRecDepth 20000 in
theorem k_1307 : (Jvm.Cond.code ({ cls := "PrunedSearchModel", name := "again", desc := "(I)V" } : Jvm.MethodName) prog_13_method_37_code (4 : Nat) (Option.none : Option Jvm.ClassFile.FieldType)) ∈ Wt := List.mem_filter.mpr ⟨t_in (t_in6 (List.mem_of_getElem? (i := 107) rfl)), rfl⟩
set_option maxRecDepth 20000 in
theorem k_1308 : (Jvm.Cond.methodLink "PrunedSearchModel" (278 : Nat) ({ cls := "PrunedSearchModel", name := "strip", desc := "()V" } : Jvm.MethodName)) ∈ Wt := List.mem_filter.mpr ⟨t_in (t_in6 (List.mem_of_getElem? (i := 108) rfl)), rfl⟩
set_option maxRecDepth 20000 in
theorem k_1310 : (Jvm.Cond.instanceMethod ({ cls := "PrunedSearchModel", name := "strip", desc := "()V" } : Jvm.MethodName)) ∈ Wt := List.mem_filter.mpr ⟨t_in (t_in6 (List.mem_of_getElem? (i := 110) rfl)), rfl⟩
set_option maxRecDepth 20000 in
theorem k_1311 : (Jvm.Cond.code ({ cls := "PrunedSearchModel", name := "strip", desc := "()V" } : Jvm.MethodName) prog_13_method_36_code (1 : Nat) (Option.none : Option Jvm.ClassFile.FieldType)) ∈ Wt := List.mem_filter.mpr ⟨t_in (t_in6 (List.mem_of_getElem? (i := 111) rfl)), rfl⟩
set_option maxRecDepth 20000 in
theorem k_1316 : (Jvm.Cond.methodLink "PrunedSearchModel" (343 : Nat) ({ cls := "PrunedSearchModel", name := "write", desc := "(I)V" } : Jvm.MethodName)) ∈ Wt := List.mem_filter.mpr ⟨t_in (t_in6 (List.mem_of_getElem? (i := 116) rfl)), rfl⟩
set_option maxRecDepth 20000 in
theorem k_1318 : (Jvm.Cond.instanceMethod ({ cls := "PrunedSearchModel", name := "write", desc := "(I)V" } : Jvm.MethodName)) ∈ Wt := List.mem_filter.mpr ⟨t_in (t_in6 (List.mem_of_getElem? (i := 118) rfl)), rfl⟩
set_option maxRecDepth 20000 in
theorem k_1319 : (Jvm.Cond.code ({ cls := "PrunedSearchModel", name := "write", desc := "(I)V" } : Jvm.MethodName) prog_13_method_52_code (5 : Nat) (Option.none : Option Jvm.ClassFile.FieldType)) ∈ Wt := List.mem_filter.mpr ⟨t_in (t_in6 (List.mem_of_getElem? (i := 119) rfl)), rfl⟩
set_option maxRecDepth 20000 in
theorem k_1320 : (Jvm.Cond.methodLink "PrunedSearchModel" (329 : Nat) ({ cls := "PrunedSearchModel", name := "later", desc := "(IIII)I" } : Jvm.MethodName)) ∈ Wt := List.mem_filter.mpr ⟨t_in (t_in6 (List.mem_of_getElem? (i := 120) rfl)), rfl⟩
set_option maxRecDepth 20000 in
theorem k_1322 : (Jvm.Cond.instanceMethod ({ cls := "PrunedSearchModel", name := "later", desc := "(IIII)I" } : Jvm.MethodName)) ∈ Wt := List.mem_filter.mpr ⟨t_in (t_in6 (List.mem_of_getElem? (i := 122) rfl)), rfl⟩
set_option maxRecDepth 20000 in
theorem k_1323 : (Jvm.Cond.code ({ cls := "PrunedSearchModel", name := "later", desc := "(IIII)I" } : Jvm.MethodName) prog_13_method_49_code (5 : Nat) (Option.some Jvm.ClassFile.FieldType.int)) ∈ Wt := List.mem_filter.mpr ⟨t_in (t_in6 (List.mem_of_getElem? (i := 123) rfl)), rfl⟩
set_option maxRecDepth 20000 in
theorem k_1324 : (Jvm.Cond.methodLink "PrunedSearchModel" (320 : Nat) ({ cls := "PrunedSearchModel", name := "put", desc := "(I)V" } : Jvm.MethodName)) ∈ Wt := List.mem_filter.mpr ⟨t_in (t_in6 (List.mem_of_getElem? (i := 124) rfl)), rfl⟩
set_option maxRecDepth 20000 in
theorem k_1326 : (Jvm.Cond.instanceMethod ({ cls := "PrunedSearchModel", name := "put", desc := "(I)V" } : Jvm.MethodName)) ∈ Wt := List.mem_filter.mpr ⟨t_in (t_in6 (List.mem_of_getElem? (i := 126) rfl)), rfl⟩
set_option maxRecDepth 20000 in
theorem k_1327 : (Jvm.Cond.code ({ cls := "PrunedSearchModel", name := "put", desc := "(I)V" } : Jvm.MethodName) prog_13_method_46_code (2 : Nat) (Option.none : Option Jvm.ClassFile.FieldType)) ∈ Wt := List.mem_filter.mpr ⟨t_in (t_in6 (List.mem_of_getElem? (i := 127) rfl)), rfl⟩
set_option maxRecDepth 20000 in
theorem k_1328 : (Jvm.Cond.methodLink "PrunedSearchModel" (337 : Nat) ({ cls := "PrunedSearchModel", name := "writeTerm", desc := "(III)I" } : Jvm.MethodName)) ∈ Wt := List.mem_filter.mpr ⟨t_in (t_in6 (List.mem_of_getElem? (i := 128) rfl)), rfl⟩
set_option maxRecDepth 20000 in
theorem k_1330 : (Jvm.Cond.instanceMethod ({ cls := "PrunedSearchModel", name := "writeTerm", desc := "(III)I" } : Jvm.MethodName)) ∈ Wt := List.mem_filter.mpr ⟨t_in (t_in6 (List.mem_of_getElem? (i := 130) rfl)), rfl⟩
set_option maxRecDepth 20000 in
theorem k_1331 : (Jvm.Cond.code ({ cls := "PrunedSearchModel", name := "writeTerm", desc := "(III)I" } : Jvm.MethodName) prog_13_method_50_code (8 : Nat) (Option.some Jvm.ClassFile.FieldType.int)) ∈ Wt := List.mem_filter.mpr ⟨t_in (t_in6 (List.mem_of_getElem? (i := 131) rfl)), rfl⟩
set_option maxRecDepth 20000 in
theorem k_1332 : (Jvm.Cond.methodLink "PrunedSearchModel" (326 : Nat) ({ cls := "PrunedSearchModel", name := "putVariable", desc := "(I)V" } : Jvm.MethodName)) ∈ Wt := List.mem_filter.mpr ⟨t_in (t_in6 (List.mem_of_getElem? (i := 132) rfl)), rfl⟩
set_option maxRecDepth 20000 in
theorem k_1334 : (Jvm.Cond.instanceMethod ({ cls := "PrunedSearchModel", name := "putVariable", desc := "(I)V" } : Jvm.MethodName)) ∈ Wt := List.mem_filter.mpr ⟨t_in (t_in6 (List.mem_of_getElem? (i := 134) rfl)), rfl⟩
set_option maxRecDepth 20000 in
theorem k_1335 : (Jvm.Cond.code ({ cls := "PrunedSearchModel", name := "putVariable", desc := "(I)V" } : Jvm.MethodName) prog_13_method_48_code (2 : Nat) (Option.none : Option Jvm.ClassFile.FieldType)) ∈ Wt := List.mem_filter.mpr ⟨t_in (t_in6 (List.mem_of_getElem? (i := 135) rfl)), rfl⟩
set_option maxRecDepth 20000 in
theorem k_1336 : (Jvm.Cond.methodLink "PrunedSearchModel" (333 : Nat) ({ cls := "PrunedSearchModel", name := "putWord", desc := "(J)V" } : Jvm.MethodName)) ∈ Wt := List.mem_filter.mpr ⟨t_in (t_in6 (List.mem_of_getElem? (i := 136) rfl)), rfl⟩
set_option maxRecDepth 20000 in
theorem k_1338 : (Jvm.Cond.instanceMethod ({ cls := "PrunedSearchModel", name := "putWord", desc := "(J)V" } : Jvm.MethodName)) ∈ Wt := List.mem_filter.mpr ⟨t_in (t_in6 (List.mem_of_getElem? (i := 138) rfl)), rfl⟩
set_option maxRecDepth 20000 in
theorem k_1339 : (Jvm.Cond.code ({ cls := "PrunedSearchModel", name := "putWord", desc := "(J)V" } : Jvm.MethodName) prog_13_method_47_code (5 : Nat) (Option.none : Option Jvm.ClassFile.FieldType)) ∈ Wt := List.mem_filter.mpr ⟨t_in (t_in6 (List.mem_of_getElem? (i := 139) rfl)), rfl⟩
set_option maxRecDepth 20000 in
theorem k_1340 : (Jvm.Cond.methodLink "PrunedSearchModel" (340 : Nat) ({ cls := "PrunedSearchModel", name := "writeRest", desc := "(III)I" } : Jvm.MethodName)) ∈ Wt := List.mem_filter.mpr ⟨t_in (t_in6 (List.mem_of_getElem? (i := 140) rfl)), rfl⟩
set_option maxRecDepth 20000 in
theorem k_1342 : (Jvm.Cond.instanceMethod ({ cls := "PrunedSearchModel", name := "writeRest", desc := "(III)I" } : Jvm.MethodName)) ∈ Wt := List.mem_filter.mpr ⟨t_in (t_in6 (List.mem_of_getElem? (i := 142) rfl)), rfl⟩
set_option maxRecDepth 20000 in
theorem k_1343 : (Jvm.Cond.code ({ cls := "PrunedSearchModel", name := "writeRest", desc := "(III)I" } : Jvm.MethodName) prog_13_method_51_code (5 : Nat) (Option.some Jvm.ClassFile.FieldType.int)) ∈ Wt := List.mem_filter.mpr ⟨t_in (t_in6 (List.mem_of_getElem? (i := 143) rfl)), rfl⟩
set_option maxRecDepth 20000 in
theorem k_1369 : (Jvm.Cond.fieldLink "java/lang/String" (15 : Nat) "java/lang/String" "coder" "B") ∈ Wt := List.mem_filter.mpr ⟨t_in (t_in6 (List.mem_of_getElem? (i := 169) rfl)), rfl⟩
set_option maxRecDepth 20000 in
theorem k_1370 : (Jvm.Cond.fieldLink "java/lang/String" (9 : Nat) "java/lang/String" "value" "[B") ∈ Wt := List.mem_filter.mpr ⟨t_in (t_in6 (List.mem_of_getElem? (i := 170) rfl)), rfl⟩
set_option maxRecDepth 20000 in
theorem kp_0 : Cond.selects "PrunedSearch$ClauseReader" ⟨"PrunedSearch$ClauseReader", "start", "(LPrunedSearch$Text;)V"⟩ ⟨"PrunedSearch$ClauseReader", "start", "(LPrunedSearch$Text;)V"⟩ ∈ Wt := List.mem_filter.mpr ⟨List.mem_append_left _ (List.mem_of_getElem? (i := 0) rfl), rfl⟩
set_option maxRecDepth 20000 in
theorem kp_1 : Cond.selects "PrunedSearch$Tokens" ⟨"PrunedSearch$Tokens", "lengthenWord", "(CI)V"⟩ ⟨"PrunedSearch$Tokens", "lengthenWord", "(CI)V"⟩ ∈ Wt := List.mem_filter.mpr ⟨List.mem_append_left _ (List.mem_of_getElem? (i := 1) rfl), rfl⟩
set_option maxRecDepth 20000 in
theorem kp_2 : Cond.selects "PrunedSearch$Tokens" ⟨"PrunedSearch$Tokens", "put", "(CIJ)V"⟩ ⟨"PrunedSearch$Tokens", "put", "(CIJ)V"⟩ ∈ Wt := List.mem_filter.mpr ⟨List.mem_append_left _ (List.mem_of_getElem? (i := 2) rfl), rfl⟩
set_option maxRecDepth 20000 in
theorem kp_3 : Cond.selects "PrunedSearch$Tokens" ⟨"PrunedSearch$Tokens", "completeNeck", "()V"⟩ ⟨"PrunedSearch$Tokens", "completeNeck", "()V"⟩ ∈ Wt := List.mem_filter.mpr ⟨List.mem_append_left _ (List.mem_of_getElem? (i := 3) rfl), rfl⟩
set_option maxRecDepth 20000 in
theorem kp_4 : Cond.selects "PrunedSearch$ClauseReader" ⟨"PrunedSearch$ClauseReader", "startPart", "()V"⟩ ⟨"PrunedSearch$ClauseReader", "startPart", "()V"⟩ ∈ Wt := List.mem_filter.mpr ⟨List.mem_append_left _ (List.mem_of_getElem? (i := 4) rfl), rfl⟩
set_option maxRecDepth 20000 in
theorem kp_5 : Cond.selects "PrunedSearch$ClauseReader" ⟨"PrunedSearch$ClauseReader", "isAt", "(C)Z"⟩ ⟨"PrunedSearch$ClauseReader", "isAt", "(C)Z"⟩ ∈ Wt := List.mem_filter.mpr ⟨List.mem_append_left _ (List.mem_of_getElem? (i := 5) rfl), rfl⟩
set_option maxRecDepth 20000 in
theorem kp_6 : Cond.selects "PrunedSearch$ClauseReader" ⟨"PrunedSearch$ClauseReader", "readClause", "()Z"⟩ ⟨"PrunedSearch$ClauseReader", "readClause", "()Z"⟩ ∈ Wt := List.mem_filter.mpr ⟨List.mem_append_left _ (List.mem_of_getElem? (i := 6) rfl), rfl⟩
set_option maxRecDepth 20000 in
theorem kp_7 : Cond.selects "PrunedSearch$ClauseReader" ⟨"PrunedSearch$ClauseReader", "readTerm", "()Z"⟩ ⟨"PrunedSearch$ClauseReader", "readTerm", "()Z"⟩ ∈ Wt := List.mem_filter.mpr ⟨List.mem_append_left _ (List.mem_of_getElem? (i := 7) rfl), rfl⟩
set_option maxRecDepth 20000 in
theorem kp_8 : Cond.selects "PrunedSearch$ClauseReader" ⟨"PrunedSearch$ClauseReader", "variableSymbol", "(J)I"⟩ ⟨"PrunedSearch$ClauseReader", "variableSymbol", "(J)I"⟩ ∈ Wt := List.mem_filter.mpr ⟨List.mem_append_left _ (List.mem_of_getElem? (i := 8) rfl), rfl⟩
set_option maxRecDepth 20000 in
theorem kp_9 : Cond.selects "PrunedSearch$ClauseReader" ⟨"PrunedSearch$ClauseReader", "readArguments", "(I)Z"⟩ ⟨"PrunedSearch$ClauseReader", "readArguments", "(I)Z"⟩ ∈ Wt := List.mem_filter.mpr ⟨List.mem_append_left _ (List.mem_of_getElem? (i := 9) rfl), rfl⟩
set_option maxRecDepth 20000 in
theorem kp_10 : Cond.selects "PrunedSearch$ClauseReader" ⟨"PrunedSearch$ClauseReader", "enter", "()Z"⟩ ⟨"PrunedSearch$ClauseReader", "enter", "()Z"⟩ ∈ Wt := List.mem_filter.mpr ⟨List.mem_append_left _ (List.mem_of_getElem? (i := 10) rfl), rfl⟩
set_option maxRecDepth 20000 in
theorem kp_11 : Cond.selects "PrunedSearch$ClauseReader" ⟨"PrunedSearch$ClauseReader", "accept", "(C)Z"⟩ ⟨"PrunedSearch$ClauseReader", "accept", "(C)Z"⟩ ∈ Wt := List.mem_filter.mpr ⟨List.mem_append_left _ (List.mem_of_getElem? (i := 11) rfl), rfl⟩
set_option maxRecDepth 20000 in
theorem kp_12 : Cond.selects "PrunedSearch$ClauseReader" ⟨"PrunedSearch$ClauseReader", "readList", "()Z"⟩ ⟨"PrunedSearch$ClauseReader", "readList", "()Z"⟩ ∈ Wt := List.mem_filter.mpr ⟨List.mem_append_left _ (List.mem_of_getElem? (i := 12) rfl), rfl⟩
set_option maxRecDepth 20000 in
theorem kp_13 : Cond.selects "PrunedSearch$ClauseReader" ⟨"PrunedSearch$ClauseReader", "readGoals", "()Z"⟩ ⟨"PrunedSearch$ClauseReader", "readGoals", "()Z"⟩ ∈ Wt := List.mem_filter.mpr ⟨List.mem_append_left _ (List.mem_of_getElem? (i := 13) rfl), rfl⟩
set_option maxRecDepth 20000 in
theorem kp_14 : Cond.selects "PrunedSearch$ClauseReader" ⟨"PrunedSearch$ClauseReader", "endPart", "()Z"⟩ ⟨"PrunedSearch$ClauseReader", "endPart", "()Z"⟩ ∈ Wt := List.mem_filter.mpr ⟨List.mem_append_left _ (List.mem_of_getElem? (i := 14) rfl), rfl⟩
set_option maxRecDepth 20000 in
theorem kp_15 : Cond.selects "PrunedSearch$Code" ⟨"PrunedSearch$Code", "measure", "(I)V"⟩ ⟨"PrunedSearch$Code", "measure", "(I)V"⟩ ∈ Wt := List.mem_filter.mpr ⟨List.mem_append_left _ (List.mem_of_getElem? (i := 15) rfl), rfl⟩
set_option maxRecDepth 20000 in
theorem kp_16 : Cond.selects "PrunedSearch$ClauseReader" ⟨"PrunedSearch$ClauseReader", "outcome", "(ZI)I"⟩ ⟨"PrunedSearch$ClauseReader", "outcome", "(ZI)I"⟩ ∈ Wt := List.mem_filter.mpr ⟨List.mem_append_left _ (List.mem_of_getElem? (i := 16) rfl), rfl⟩
set_option maxRecDepth 20000 in
theorem kp_17 : Cond.selects "PrunedSearch$Terms" ⟨"PrunedSearch$Terms", "sameVariable", "(I)I"⟩ ⟨"PrunedSearch$Terms", "sameVariable", "(I)I"⟩ ∈ Wt := List.mem_filter.mpr ⟨List.mem_append_left _ (List.mem_of_getElem? (i := 17) rfl), rfl⟩
set_option maxRecDepth 20000 in
theorem kp_18 : Cond.selects "PrunedSearch$Search" ⟨"PrunedSearch$Search", "step", "()V"⟩ ⟨"PrunedSearch$Search", "step", "()V"⟩ ∈ Wt := List.mem_filter.mpr ⟨List.mem_append_left _ (List.mem_of_getElem? (i := 18) rfl), rfl⟩
set_option maxRecDepth 20000 in
theorem kp_19 : Cond.selects "PrunedSearch$Search" ⟨"PrunedSearch$Search", "takeChoice", "()I"⟩ ⟨"PrunedSearch$Search", "takeChoice", "()I"⟩ ∈ Wt := List.mem_filter.mpr ⟨List.mem_append_left _ (List.mem_of_getElem? (i := 19) rfl), rfl⟩
set_option maxRecDepth 20000 in
theorem kp_20 : Cond.selects "PrunedSearch$Search" ⟨"PrunedSearch$Search", "takeGoal", "()I"⟩ ⟨"PrunedSearch$Search", "takeGoal", "()I"⟩ ∈ Wt := List.mem_filter.mpr ⟨List.mem_append_left _ (List.mem_of_getElem? (i := 20) rfl), rfl⟩
set_option maxRecDepth 20000 in
theorem kp_21 : Cond.selects "PrunedSearch$Search" ⟨"PrunedSearch$Search", "candidates", "(I)I"⟩ ⟨"PrunedSearch$Search", "candidates", "(I)I"⟩ ∈ Wt := List.mem_filter.mpr ⟨List.mem_append_left _ (List.mem_of_getElem? (i := 21) rfl), rfl⟩
set_option maxRecDepth 20000 in
theorem kp_22 : Cond.selects "PrunedSearch$Terms" ⟨"PrunedSearch$Terms", "nextStanding", "(I)I"⟩ ⟨"PrunedSearch$Terms", "nextStanding", "(I)I"⟩ ∈ Wt := List.mem_filter.mpr ⟨List.mem_append_left _ (List.mem_of_getElem? (i := 22) rfl), rfl⟩
set_option maxRecDepth 20000 in
theorem kp_23 : Cond.selects "PrunedSearch$Search" ⟨"PrunedSearch$Search", "choose", "(II)I"⟩ ⟨"PrunedSearch$Search", "choose", "(II)I"⟩ ∈ Wt := List.mem_filter.mpr ⟨List.mem_append_left _ (List.mem_of_getElem? (i := 23) rfl), rfl⟩
set_option maxRecDepth 20000 in
theorem kp_24 : Cond.selects "PrunedSearch$Search" ⟨"PrunedSearch$Search", "resolve", "(I)V"⟩ ⟨"PrunedSearch$Search", "resolve", "(I)V"⟩ ∈ Wt := List.mem_filter.mpr ⟨List.mem_append_left _ (List.mem_of_getElem? (i := 24) rfl), rfl⟩
set_option maxRecDepth 20000 in
theorem kp_25 : Cond.selects "PrunedSearch$Terms" ⟨"PrunedSearch$Terms", "push", "(I)V"⟩ ⟨"PrunedSearch$Terms", "push", "(I)V"⟩ ∈ Wt := List.mem_filter.mpr ⟨List.mem_append_left _ (List.mem_of_getElem? (i := 25) rfl), rfl⟩
set_option maxRecDepth 20000 in
theorem kp_26 : Cond.selects "PrunedSearch$Terms" ⟨"PrunedSearch$Terms", "pop", "()I"⟩ ⟨"PrunedSearch$Terms", "pop", "()I"⟩ ∈ Wt := List.mem_filter.mpr ⟨List.mem_append_left _ (List.mem_of_getElem? (i := 26) rfl), rfl⟩
set_option maxRecDepth 20000 in
theorem kp_27 : Cond.selects "PrunedSearch$Terms" ⟨"PrunedSearch$Terms", "letStand", "(II)V"⟩ ⟨"PrunedSearch$Terms", "letStand", "(II)V"⟩ ∈ Wt := List.mem_filter.mpr ⟨List.mem_append_left _ (List.mem_of_getElem? (i := 27) rfl), rfl⟩
set_option maxRecDepth 20000 in
theorem kp_28 : Cond.selects "PrunedSearch$Terms" ⟨"PrunedSearch$Terms", "pushPairs", "(II)V"⟩ ⟨"PrunedSearch$Terms", "pushPairs", "(II)V"⟩ ∈ Wt := List.mem_filter.mpr ⟨List.mem_append_left _ (List.mem_of_getElem? (i := 28) rfl), rfl⟩
set_option maxRecDepth 20000 in
theorem kp_29 : Cond.selects "PrunedSearch$Terms" ⟨"PrunedSearch$Terms", "mark", "(II)V"⟩ ⟨"PrunedSearch$Terms", "mark", "(II)V"⟩ ∈ Wt := List.mem_filter.mpr ⟨List.mem_append_left _ (List.mem_of_getElem? (i := 29) rfl), rfl⟩
set_option maxRecDepth 20000 in
theorem kp_30 : Cond.selects "PrunedSearch$Terms" ⟨"PrunedSearch$Terms", "markAt", "(I)I"⟩ ⟨"PrunedSearch$Terms", "markAt", "(I)I"⟩ ∈ Wt := List.mem_filter.mpr ⟨List.mem_append_left _ (List.mem_of_getElem? (i := 30) rfl), rfl⟩
set_option maxRecDepth 20000 in
theorem kp_31 : Cond.selects "PrunedSearch$Terms" ⟨"PrunedSearch$Terms", "pushArguments", "(I)V"⟩ ⟨"PrunedSearch$Terms", "pushArguments", "(I)V"⟩ ∈ Wt := List.mem_filter.mpr ⟨List.mem_append_left _ (List.mem_of_getElem? (i := 31) rfl), rfl⟩
set_option maxRecDepth 20000 in
theorem kp_32 : Cond.selects "PrunedSearch$Search" ⟨"PrunedSearch$Search", "isLarge", "()Z"⟩ ⟨"PrunedSearch$Search", "isLarge", "()Z"⟩ ∈ Wt := List.mem_filter.mpr ⟨List.mem_append_left _ (List.mem_of_getElem? (i := 32) rfl), rfl⟩
set_option maxRecDepth 20000 in
theorem kp_33 : Cond.selects "PrunedSearch$TermWriter" ⟨"PrunedSearch$TermWriter", "write", "(I)V"⟩ ⟨"PrunedSearch$TermWriter", "write", "(I)V"⟩ ∈ Wt := List.mem_filter.mpr ⟨List.mem_append_left _ (List.mem_of_getElem? (i := 33) rfl), rfl⟩
set_option maxRecDepth 20000 in
theorem kp_34 : Cond.selects "PrunedSearch$TermWriter" ⟨"PrunedSearch$TermWriter", "push", "(II)V"⟩ ⟨"PrunedSearch$TermWriter", "push", "(II)V"⟩ ∈ Wt := List.mem_filter.mpr ⟨List.mem_append_left _ (List.mem_of_getElem? (i := 34) rfl), rfl⟩
set_option maxRecDepth 20000 in
theorem kp_35 : Cond.selects "PrunedSearch$TermWriter" ⟨"PrunedSearch$TermWriter", "put", "(C)V"⟩ ⟨"PrunedSearch$TermWriter", "put", "(C)V"⟩ ∈ Wt := List.mem_filter.mpr ⟨List.mem_append_left _ (List.mem_of_getElem? (i := 35) rfl), rfl⟩
set_option maxRecDepth 20000 in
theorem kp_36 : Cond.selects "PrunedSearch$TermWriter" ⟨"PrunedSearch$TermWriter", "writeTerm", "(I)V"⟩ ⟨"PrunedSearch$TermWriter", "writeTerm", "(I)V"⟩ ∈ Wt := List.mem_filter.mpr ⟨List.mem_append_left _ (List.mem_of_getElem? (i := 36) rfl), rfl⟩
set_option maxRecDepth 20000 in
theorem kp_37 : Cond.selects "PrunedSearch$TermWriter" ⟨"PrunedSearch$TermWriter", "writeVariable", "(I)V"⟩ ⟨"PrunedSearch$TermWriter", "writeVariable", "(I)V"⟩ ∈ Wt := List.mem_filter.mpr ⟨List.mem_append_left _ (List.mem_of_getElem? (i := 37) rfl), rfl⟩
set_option maxRecDepth 20000 in
theorem kp_38 : Cond.selects "PrunedSearch$TermWriter" ⟨"PrunedSearch$TermWriter", "pushList", "(I)V"⟩ ⟨"PrunedSearch$TermWriter", "pushList", "(I)V"⟩ ∈ Wt := List.mem_filter.mpr ⟨List.mem_append_left _ (List.mem_of_getElem? (i := 38) rfl), rfl⟩
set_option maxRecDepth 20000 in
theorem kp_39 : Cond.selects "PrunedSearch$TermWriter" ⟨"PrunedSearch$TermWriter", "writeWord", "(J)V"⟩ ⟨"PrunedSearch$TermWriter", "writeWord", "(J)V"⟩ ∈ Wt := List.mem_filter.mpr ⟨List.mem_append_left _ (List.mem_of_getElem? (i := 39) rfl), rfl⟩
set_option maxRecDepth 20000 in
theorem kp_40 : Cond.selects "PrunedSearch$TermWriter" ⟨"PrunedSearch$TermWriter", "pushArguments", "(II)V"⟩ ⟨"PrunedSearch$TermWriter", "pushArguments", "(II)V"⟩ ∈ Wt := List.mem_filter.mpr ⟨List.mem_append_left _ (List.mem_of_getElem? (i := 40) rfl), rfl⟩
set_option maxRecDepth 20000 in
theorem kp_41 : Cond.selects "PrunedSearch$TermWriter" ⟨"PrunedSearch$TermWriter", "writeRest", "(I)V"⟩ ⟨"PrunedSearch$TermWriter", "writeRest", "(I)V"⟩ ∈ Wt := List.mem_filter.mpr ⟨List.mem_append_left _ (List.mem_of_getElem? (i := 41) rfl), rfl⟩
set_option maxRecDepth 20000 in
theorem kp_42 : Cond.selects "PrunedSearchModel" ⟨"PrunedSearchModel", "read", "(Z)I"⟩ ⟨"PrunedSearchModel", "read", "(Z)I"⟩ ∈ Wt := List.mem_filter.mpr ⟨List.mem_append_left _ (List.mem_of_getElem? (i := 42) rfl), rfl⟩
set_option maxRecDepth 20000 in
theorem kp_43 : Cond.selects "PrunedSearchModel" ⟨"PrunedSearchModel", "beginPiece", "()V"⟩ ⟨"PrunedSearchModel", "beginPiece", "()V"⟩ ∈ Wt := List.mem_filter.mpr ⟨List.mem_append_left _ (List.mem_of_getElem? (i := 43) rfl), rfl⟩
set_option maxRecDepth 20000 in
theorem kp_44 : Cond.selects "PrunedSearchModel" ⟨"PrunedSearchModel", "take", "()V"⟩ ⟨"PrunedSearchModel", "take", "()V"⟩ ∈ Wt := List.mem_filter.mpr ⟨List.mem_append_left _ (List.mem_of_getElem? (i := 44) rfl), rfl⟩
set_option maxRecDepth 20000 in
theorem kp_45 : Cond.selects "PrunedSearchModel" ⟨"PrunedSearchModel", "at", "(I)I"⟩ ⟨"PrunedSearchModel", "at", "(I)I"⟩ ∈ Wt := List.mem_filter.mpr ⟨List.mem_append_left _ (List.mem_of_getElem? (i := 45) rfl), rfl⟩
set_option maxRecDepth 20000 in
theorem kp_46 : Cond.selects "PrunedSearchModel" ⟨"PrunedSearchModel", "push", "(I)Z"⟩ ⟨"PrunedSearchModel", "push", "(I)Z"⟩ ∈ Wt := List.mem_filter.mpr ⟨List.mem_append_left _ (List.mem_of_getElem? (i := 46) rfl), rfl⟩
set_option maxRecDepth 20000 in
theorem kp_47 : Cond.selects "PrunedSearchModel" ⟨"PrunedSearchModel", "outside", "(IZ)I"⟩ ⟨"PrunedSearchModel", "outside", "(IZ)I"⟩ ∈ Wt := List.mem_filter.mpr ⟨List.mem_append_left _ (List.mem_of_getElem? (i := 47) rfl), rfl⟩
set_option maxRecDepth 20000 in
theorem kp_48 : Cond.selects "PrunedSearchModel" ⟨"PrunedSearchModel", "beginGoal", "()V"⟩ ⟨"PrunedSearchModel", "beginGoal", "()V"⟩ ∈ Wt := List.mem_filter.mpr ⟨List.mem_append_left _ (List.mem_of_getElem? (i := 48) rfl), rfl⟩
set_option maxRecDepth 20000 in
theorem kp_49 : Cond.selects "PrunedSearchModel" ⟨"PrunedSearchModel", "emit", "(JI)V"⟩ ⟨"PrunedSearchModel", "emit", "(JI)V"⟩ ∈ Wt := List.mem_filter.mpr ⟨List.mem_append_left _ (List.mem_of_getElem? (i := 49) rfl), rfl⟩
set_option maxRecDepth 20000 in
theorem kp_50 : Cond.selects "PrunedSearchModel" ⟨"PrunedSearchModel", "endPiece", "()V"⟩ ⟨"PrunedSearchModel", "endPiece", "()V"⟩ ∈ Wt := List.mem_filter.mpr ⟨List.mem_append_left _ (List.mem_of_getElem? (i := 50) rfl), rfl⟩
set_option maxRecDepth 20000 in
theorem kp_51 : Cond.selects "PrunedSearchModel" ⟨"PrunedSearchModel", "beginTerm", "()Z"⟩ ⟨"PrunedSearchModel", "beginTerm", "()Z"⟩ ∈ Wt := List.mem_filter.mpr ⟨List.mem_append_left _ (List.mem_of_getElem? (i := 51) rfl), rfl⟩
set_option maxRecDepth 20000 in
theorem kp_52 : Cond.selects "PrunedSearchModel" ⟨"PrunedSearchModel", "emitVariable", "()V"⟩ ⟨"PrunedSearchModel", "emitVariable", "()V"⟩ ∈ Wt := List.mem_filter.mpr ⟨List.mem_append_left _ (List.mem_of_getElem? (i := 52) rfl), rfl⟩
set_option maxRecDepth 20000 in
theorem kp_53 : Cond.selects "PrunedSearchModel" ⟨"PrunedSearchModel", "goOn", "()Z"⟩ ⟨"PrunedSearchModel", "goOn", "()Z"⟩ ∈ Wt := List.mem_filter.mpr ⟨List.mem_append_left _ (List.mem_of_getElem? (i := 53) rfl), rfl⟩
set_option maxRecDepth 20000 in
theorem kp_54 : Cond.selects "PrunedSearchModel" ⟨"PrunedSearchModel", "noSearch", "()V"⟩ ⟨"PrunedSearchModel", "noSearch", "()V"⟩ ∈ Wt := List.mem_filter.mpr ⟨List.mem_append_left _ (List.mem_of_getElem? (i := 54) rfl), rfl⟩
set_option maxRecDepth 20000 in
theorem kp_55 : Cond.selects "PrunedSearchModel" ⟨"PrunedSearchModel", "tooMuch", "(I)Z"⟩ ⟨"PrunedSearchModel", "tooMuch", "(I)Z"⟩ ∈ Wt := List.mem_filter.mpr ⟨List.mem_append_left _ (List.mem_of_getElem? (i := 55) rfl), rfl⟩
set_option maxRecDepth 20000 in
theorem kp_56 : Cond.selects "PrunedSearchModel" ⟨"PrunedSearchModel", "endOf", "(I)I"⟩ ⟨"PrunedSearchModel", "endOf", "(I)I"⟩ ∈ Wt := List.mem_filter.mpr ⟨List.mem_append_left _ (List.mem_of_getElem? (i := 56) rfl), rfl⟩
set_option maxRecDepth 20000 in
theorem kp_57 : Cond.selects "PrunedSearchModel" ⟨"PrunedSearchModel", "addNames", "()I"⟩ ⟨"PrunedSearchModel", "addNames", "()I"⟩ ∈ Wt := List.mem_filter.mpr ⟨List.mem_append_left _ (List.mem_of_getElem? (i := 57) rfl), rfl⟩
set_option maxRecDepth 20000 in
theorem kp_58 : Cond.selects "PrunedSearchModel" ⟨"PrunedSearchModel", "keep", "(III)V"⟩ ⟨"PrunedSearchModel", "keep", "(III)V"⟩ ∈ Wt := List.mem_filter.mpr ⟨List.mem_append_left _ (List.mem_of_getElem? (i := 58) rfl), rfl⟩
set_option maxRecDepth 20000 in
theorem kp_59 : Cond.selects "PrunedSearchModel" ⟨"PrunedSearchModel", "begin", "()V"⟩ ⟨"PrunedSearchModel", "begin", "()V"⟩ ∈ Wt := List.mem_filter.mpr ⟨List.mem_append_left _ (List.mem_of_getElem? (i := 59) rfl), rfl⟩
set_option maxRecDepth 20000 in
theorem kp_60 : Cond.selects "PrunedSearchModel" ⟨"PrunedSearchModel", "clearFrame", "(I)V"⟩ ⟨"PrunedSearchModel", "clearFrame", "(I)V"⟩ ∈ Wt := List.mem_filter.mpr ⟨List.mem_append_left _ (List.mem_of_getElem? (i := 60) rfl), rfl⟩
set_option maxRecDepth 20000 in
theorem kp_61 : Cond.selects "PrunedSearchModel" ⟨"PrunedSearchModel", "prepend", "(III)V"⟩ ⟨"PrunedSearchModel", "prepend", "(III)V"⟩ ∈ Wt := List.mem_filter.mpr ⟨List.mem_append_left _ (List.mem_of_getElem? (i := 61) rfl), rfl⟩
set_option maxRecDepth 20000 in
theorem kp_62 : Cond.selects "PrunedSearchModel" ⟨"PrunedSearchModel", "end", "(I)V"⟩ ⟨"PrunedSearchModel", "end", "(I)V"⟩ ∈ Wt := List.mem_filter.mpr ⟨List.mem_append_left _ (List.mem_of_getElem? (i := 62) rfl), rfl⟩
set_option maxRecDepth 20000 in
theorem kp_63 : Cond.selects "PrunedSearchModel" ⟨"PrunedSearchModel", "step", "()V"⟩ ⟨"PrunedSearchModel", "step", "()V"⟩ ∈ Wt := List.mem_filter.mpr ⟨List.mem_append_left _ (List.mem_of_getElem? (i := 63) rfl), rfl⟩
set_option maxRecDepth 20000 in
theorem kp_64 : Cond.selects "PrunedSearchModel" ⟨"PrunedSearchModel", "forward", "()V"⟩ ⟨"PrunedSearchModel", "forward", "()V"⟩ ∈ Wt := List.mem_filter.mpr ⟨List.mem_append_left _ (List.mem_of_getElem? (i := 64) rfl), rfl⟩
set_option maxRecDepth 20000 in
theorem kp_65 : Cond.selects "PrunedSearchModel" ⟨"PrunedSearchModel", "isWordAlone", "(IJ)Z"⟩ ⟨"PrunedSearchModel", "isWordAlone", "(IJ)Z"⟩ ∈ Wt := List.mem_filter.mpr ⟨List.mem_append_left _ (List.mem_of_getElem? (i := 65) rfl), rfl⟩
set_option maxRecDepth 20000 in
theorem kp_66 : Cond.selects "PrunedSearchModel" ⟨"PrunedSearchModel", "candidate", "(III)I"⟩ ⟨"PrunedSearchModel", "candidate", "(III)I"⟩ ∈ Wt := List.mem_filter.mpr ⟨List.mem_append_left _ (List.mem_of_getElem? (i := 66) rfl), rfl⟩
set_option maxRecDepth 20000 in
theorem kp_67 : Cond.selects "PrunedSearchModel" ⟨"PrunedSearchModel", "follow", "(II)V"⟩ ⟨"PrunedSearchModel", "follow", "(II)V"⟩ ∈ Wt := List.mem_filter.mpr ⟨List.mem_append_left _ (List.mem_of_getElem? (i := 67) rfl), rfl⟩
set_option maxRecDepth 20000 in
theorem kp_68 : Cond.selects "PrunedSearchModel" ⟨"PrunedSearchModel", "resolve", "(II)V"⟩ ⟨"PrunedSearchModel", "resolve", "(II)V"⟩ ∈ Wt := List.mem_filter.mpr ⟨List.mem_append_left _ (List.mem_of_getElem? (i := 68) rfl), rfl⟩
set_option maxRecDepth 20000 in
theorem kp_69 : Cond.selects "PrunedSearchModel" ⟨"PrunedSearchModel", "equalize", "(IIII)Z"⟩ ⟨"PrunedSearchModel", "equalize", "(IIII)Z"⟩ ∈ Wt := List.mem_filter.mpr ⟨List.mem_append_left _ (List.mem_of_getElem? (i := 69) rfl), rfl⟩
set_option maxRecDepth 20000 in
theorem kp_70 : Cond.selects "PrunedSearchModel" ⟨"PrunedSearchModel", "bind", "(IIII)Z"⟩ ⟨"PrunedSearchModel", "bind", "(IIII)Z"⟩ ∈ Wt := List.mem_filter.mpr ⟨List.mem_append_left _ (List.mem_of_getElem? (i := 70) rfl), rfl⟩
set_option maxRecDepth 20000 in
theorem kp_71 : Cond.selects "PrunedSearchModel" ⟨"PrunedSearchModel", "stands", "(IIII)Z"⟩ ⟨"PrunedSearchModel", "stands", "(IIII)Z"⟩ ∈ Wt := List.mem_filter.mpr ⟨List.mem_append_left _ (List.mem_of_getElem? (i := 71) rfl), rfl⟩
set_option maxRecDepth 20000 in
theorem kp_72 : Cond.selects "PrunedSearchModel" ⟨"PrunedSearchModel", "pushAll", "(III)I"⟩ ⟨"PrunedSearchModel", "pushAll", "(III)I"⟩ ∈ Wt := List.mem_filter.mpr ⟨List.mem_append_left _ (List.mem_of_getElem? (i := 72) rfl), rfl⟩
set_option maxRecDepth 20000 in
theorem kp_73 : Cond.selects "PrunedSearchModel" ⟨"PrunedSearchModel", "behind", "(I)I"⟩ ⟨"PrunedSearchModel", "behind", "(I)I"⟩ ∈ Wt := List.mem_filter.mpr ⟨List.mem_append_left _ (List.mem_of_getElem? (i := 73) rfl), rfl⟩
set_option maxRecDepth 20000 in
theorem kp_74 : Cond.selects "PrunedSearchModel" ⟨"PrunedSearchModel", "large", "()Z"⟩ ⟨"PrunedSearchModel", "large", "()Z"⟩ ∈ Wt := List.mem_filter.mpr ⟨List.mem_append_left _ (List.mem_of_getElem? (i := 74) rfl), rfl⟩
set_option maxRecDepth 20000 in
theorem kp_75 : Cond.selects "PrunedSearchModel" ⟨"PrunedSearchModel", "symbolsOf", "(II)I"⟩ ⟨"PrunedSearchModel", "symbolsOf", "(II)I"⟩ ∈ Wt := List.mem_filter.mpr ⟨List.mem_append_left _ (List.mem_of_getElem? (i := 75) rfl), rfl⟩
set_option maxRecDepth 20000 in
theorem kp_76 : Cond.selects "PrunedSearchModel" ⟨"PrunedSearchModel", "back", "()V"⟩ ⟨"PrunedSearchModel", "back", "()V"⟩ ∈ Wt := List.mem_filter.mpr ⟨List.mem_append_left _ (List.mem_of_getElem? (i := 76) rfl), rfl⟩
set_option maxRecDepth 20000 in
theorem kp_77 : Cond.selects "PrunedSearchModel" ⟨"PrunedSearchModel", "again", "(I)V"⟩ ⟨"PrunedSearchModel", "again", "(I)V"⟩ ∈ Wt := List.mem_filter.mpr ⟨List.mem_append_left _ (List.mem_of_getElem? (i := 77) rfl), rfl⟩
set_option maxRecDepth 20000 in
theorem kp_78 : Cond.selects "PrunedSearchModel" ⟨"PrunedSearchModel", "strip", "()V"⟩ ⟨"PrunedSearchModel", "strip", "()V"⟩ ∈ Wt := List.mem_filter.mpr ⟨List.mem_append_left _ (List.mem_of_getElem? (i := 78) rfl), rfl⟩
set_option maxRecDepth 20000 in
theorem kp_79 : Cond.selects "PrunedSearchModel" ⟨"PrunedSearchModel", "write", "(I)V"⟩ ⟨"PrunedSearchModel", "write", "(I)V"⟩ ∈ Wt := List.mem_filter.mpr ⟨List.mem_append_left _ (List.mem_of_getElem? (i := 79) rfl), rfl⟩
set_option maxRecDepth 20000 in
theorem kp_80 : Cond.selects "PrunedSearchModel" ⟨"PrunedSearchModel", "later", "(IIII)I"⟩ ⟨"PrunedSearchModel", "later", "(IIII)I"⟩ ∈ Wt := List.mem_filter.mpr ⟨List.mem_append_left _ (List.mem_of_getElem? (i := 80) rfl), rfl⟩
set_option maxRecDepth 20000 in
theorem kp_81 : Cond.selects "PrunedSearchModel" ⟨"PrunedSearchModel", "put", "(I)V"⟩ ⟨"PrunedSearchModel", "put", "(I)V"⟩ ∈ Wt := List.mem_filter.mpr ⟨List.mem_append_left _ (List.mem_of_getElem? (i := 81) rfl), rfl⟩
set_option maxRecDepth 20000 in
theorem kp_82 : Cond.selects "PrunedSearchModel" ⟨"PrunedSearchModel", "writeTerm", "(III)I"⟩ ⟨"PrunedSearchModel", "writeTerm", "(III)I"⟩ ∈ Wt := List.mem_filter.mpr ⟨List.mem_append_left _ (List.mem_of_getElem? (i := 82) rfl), rfl⟩
set_option maxRecDepth 20000 in
theorem kp_83 : Cond.selects "PrunedSearchModel" ⟨"PrunedSearchModel", "putVariable", "(I)V"⟩ ⟨"PrunedSearchModel", "putVariable", "(I)V"⟩ ∈ Wt := List.mem_filter.mpr ⟨List.mem_append_left _ (List.mem_of_getElem? (i := 83) rfl), rfl⟩
set_option maxRecDepth 20000 in
theorem kp_84 : Cond.selects "PrunedSearchModel" ⟨"PrunedSearchModel", "putWord", "(J)V"⟩ ⟨"PrunedSearchModel", "putWord", "(J)V"⟩ ∈ Wt := List.mem_filter.mpr ⟨List.mem_append_left _ (List.mem_of_getElem? (i := 84) rfl), rfl⟩
set_option maxRecDepth 20000 in
theorem kp_85 : Cond.selects "PrunedSearchModel" ⟨"PrunedSearchModel", "writeRest", "(III)I"⟩ ⟨"PrunedSearchModel", "writeRest", "(III)I"⟩ ∈ Wt := List.mem_filter.mpr ⟨List.mem_append_left _ (List.mem_of_getElem? (i := 85) rfl), rfl⟩
theorem pd_0 : (⟨"PrunedSearchModel", "isSmall", "(I)Z"⟩ : MethodName).cls ≠ "java/lang/invoke/MethodHandle" ∧ (⟨"PrunedSearchModel", "isSmall", "(I)Z"⟩ : MethodName).cls ≠ "java/lang/invoke/VarHandle" ∧ (parseMethodDescriptor (⟨"PrunedSearchModel", "isSmall", "(I)Z"⟩ : MethodName).desc).map (fun d => d.parameters.length) = some 1 := by decide +kernel
theorem pd_1 : (⟨"PrunedSearchModel", "isSign", "(I)Z"⟩ : MethodName).cls ≠ "java/lang/invoke/MethodHandle" ∧ (⟨"PrunedSearchModel", "isSign", "(I)Z"⟩ : MethodName).cls ≠ "java/lang/invoke/VarHandle" ∧ (parseMethodDescriptor (⟨"PrunedSearchModel", "isSign", "(I)Z"⟩ : MethodName).desc).map (fun d => d.parameters.length) = some 1 := by decide +kernel
theorem pd_2 : (⟨"PrunedSearchModel", "isWord", "(I)Z"⟩ : MethodName).cls ≠ "java/lang/invoke/MethodHandle" ∧ (⟨"PrunedSearchModel", "isWord", "(I)Z"⟩ : MethodName).cls ≠ "java/lang/invoke/VarHandle" ∧ (parseMethodDescriptor (⟨"PrunedSearchModel", "isWord", "(I)Z"⟩ : MethodName).desc).map (fun d => d.parameters.length) = some 1 := by decide +kernel
theorem pd_3 : (⟨"PrunedSearchModel", "at", "(I)I"⟩ : MethodName).cls ≠ "java/lang/invoke/MethodHandle" ∧ (⟨"PrunedSearchModel", "at", "(I)I"⟩ : MethodName).cls ≠ "java/lang/invoke/VarHandle" ∧ (parseMethodDescriptor (⟨"PrunedSearchModel", "at", "(I)I"⟩ : MethodName).desc).map (fun d => d.parameters.length) = some 1 := by decide +kernel
theorem pd_4 : (⟨"PrunedSearchModel", "endPiece", "()V"⟩ : MethodName).cls ≠ "java/lang/invoke/MethodHandle" ∧ (⟨"PrunedSearchModel", "endPiece", "()V"⟩ : MethodName).cls ≠ "java/lang/invoke/VarHandle" ∧ (parseMethodDescriptor (⟨"PrunedSearchModel", "endPiece", "()V"⟩ : MethodName).desc).map (fun d => d.parameters.length) = some 0 := by decide +kernel
theorem pd_5 : (⟨"PrunedSearchModel", "emit", "(JI)V"⟩ : MethodName).cls ≠ "java/lang/invoke/MethodHandle" ∧ (⟨"PrunedSearchModel", "emit", "(JI)V"⟩ : MethodName).cls ≠ "java/lang/invoke/VarHandle" ∧ (parseMethodDescriptor (⟨"PrunedSearchModel", "emit", "(JI)V"⟩ : MethodName).desc).map (fun d => d.parameters.length) = some 2 := by decide +kernel
theorem pd_6 : (⟨"PrunedSearchModel", "beginGoal", "()V"⟩ : MethodName).cls ≠ "java/lang/invoke/MethodHandle" ∧ (⟨"PrunedSearchModel", "beginGoal", "()V"⟩ : MethodName).cls ≠ "java/lang/invoke/VarHandle" ∧ (parseMethodDescriptor (⟨"PrunedSearchModel", "beginGoal", "()V"⟩ : MethodName).desc).map (fun d => d.parameters.length) = some 0 := by decide +kernel
theorem pd_7 : (⟨"PrunedSearchModel", "beginPiece", "()V"⟩ : MethodName).cls ≠ "java/lang/invoke/MethodHandle" ∧ (⟨"PrunedSearchModel", "beginPiece", "()V"⟩ : MethodName).cls ≠ "java/lang/invoke/VarHandle" ∧ (parseMethodDescriptor (⟨"PrunedSearchModel", "beginPiece", "()V"⟩ : MethodName).desc).map (fun d => d.parameters.length) = some 0 := by decide +kernel
theorem pd_8 : (⟨"PrunedSearchModel", "push", "(I)Z"⟩ : MethodName).cls ≠ "java/lang/invoke/MethodHandle" ∧ (⟨"PrunedSearchModel", "push", "(I)Z"⟩ : MethodName).cls ≠ "java/lang/invoke/VarHandle" ∧ (parseMethodDescriptor (⟨"PrunedSearchModel", "push", "(I)Z"⟩ : MethodName).desc).map (fun d => d.parameters.length) = some 1 := by decide +kernel
theorem pd_9 : (⟨"PrunedSearchModel", "emitVariable", "()V"⟩ : MethodName).cls ≠ "java/lang/invoke/MethodHandle" ∧ (⟨"PrunedSearchModel", "emitVariable", "()V"⟩ : MethodName).cls ≠ "java/lang/invoke/VarHandle" ∧ (parseMethodDescriptor (⟨"PrunedSearchModel", "emitVariable", "()V"⟩ : MethodName).desc).map (fun d => d.parameters.length) = some 0 := by decide +kernel
theorem pd_10 : (⟨"PrunedSearchModel", "goOn", "()Z"⟩ : MethodName).cls ≠ "java/lang/invoke/MethodHandle" ∧ (⟨"PrunedSearchModel", "goOn", "()Z"⟩ : MethodName).cls ≠ "java/lang/invoke/VarHandle" ∧ (parseMethodDescriptor (⟨"PrunedSearchModel", "goOn", "()Z"⟩ : MethodName).desc).map (fun d => d.parameters.length) = some 0 := by decide +kernel
theorem pd_11 : (⟨"PrunedSearchModel", "beginTerm", "()Z"⟩ : MethodName).cls ≠ "java/lang/invoke/MethodHandle" ∧ (⟨"PrunedSearchModel", "beginTerm", "()Z"⟩ : MethodName).cls ≠ "java/lang/invoke/VarHandle" ∧ (parseMethodDescriptor (⟨"PrunedSearchModel", "beginTerm", "()Z"⟩ : MethodName).desc).map (fun d => d.parameters.length) = some 0 := by decide +kernel
theorem pd_12 : (⟨"PrunedSearchModel", "outside", "(IZ)I"⟩ : MethodName).cls ≠ "java/lang/invoke/MethodHandle" ∧ (⟨"PrunedSearchModel", "outside", "(IZ)I"⟩ : MethodName).cls ≠ "java/lang/invoke/VarHandle" ∧ (parseMethodDescriptor (⟨"PrunedSearchModel", "outside", "(IZ)I"⟩ : MethodName).desc).map (fun d => d.parameters.length) = some 2 := by decide +kernel
theorem pd_13 : (⟨"PrunedSearchModel", "take", "()V"⟩ : MethodName).cls ≠ "java/lang/invoke/MethodHandle" ∧ (⟨"PrunedSearchModel", "take", "()V"⟩ : MethodName).cls ≠ "java/lang/invoke/VarHandle" ∧ (parseMethodDescriptor (⟨"PrunedSearchModel", "take", "()V"⟩ : MethodName).desc).map (fun d => d.parameters.length) = some 0 := by decide +kernel
theorem pd_14 : (⟨"PrunedSearchModel", "endOf", "(I)I"⟩ : MethodName).cls ≠ "java/lang/invoke/MethodHandle" ∧ (⟨"PrunedSearchModel", "endOf", "(I)I"⟩ : MethodName).cls ≠ "java/lang/invoke/VarHandle" ∧ (parseMethodDescriptor (⟨"PrunedSearchModel", "endOf", "(I)I"⟩ : MethodName).desc).map (fun d => d.parameters.length) = some 1 := by decide +kernel
theorem pd_15 : (⟨"PrunedSearchModel", "keep", "(III)V"⟩ : MethodName).cls ≠ "java/lang/invoke/MethodHandle" ∧ (⟨"PrunedSearchModel", "keep", "(III)V"⟩ : MethodName).cls ≠ "java/lang/invoke/VarHandle" ∧ (parseMethodDescriptor (⟨"PrunedSearchModel", "keep", "(III)V"⟩ : MethodName).desc).map (fun d => d.parameters.length) = some 3 := by decide +kernel
theorem pd_16 : (⟨"PrunedSearchModel", "addNames", "()I"⟩ : MethodName).cls ≠ "java/lang/invoke/MethodHandle" ∧ (⟨"PrunedSearchModel", "addNames", "()I"⟩ : MethodName).cls ≠ "java/lang/invoke/VarHandle" ∧ (parseMethodDescriptor (⟨"PrunedSearchModel", "addNames", "()I"⟩ : MethodName).desc).map (fun d => d.parameters.length) = some 0 := by decide +kernel
theorem pd_17 : (⟨"PrunedSearchModel", "tooMuch", "(I)Z"⟩ : MethodName).cls ≠ "java/lang/invoke/MethodHandle" ∧ (⟨"PrunedSearchModel", "tooMuch", "(I)Z"⟩ : MethodName).cls ≠ "java/lang/invoke/VarHandle" ∧ (parseMethodDescriptor (⟨"PrunedSearchModel", "tooMuch", "(I)Z"⟩ : MethodName).desc).map (fun d => d.parameters.length) = some 1 := by decide +kernel
theorem pd_18 : (⟨"PrunedSearchModel", "noSearch", "()V"⟩ : MethodName).cls ≠ "java/lang/invoke/MethodHandle" ∧ (⟨"PrunedSearchModel", "noSearch", "()V"⟩ : MethodName).cls ≠ "java/lang/invoke/VarHandle" ∧ (parseMethodDescriptor (⟨"PrunedSearchModel", "noSearch", "()V"⟩ : MethodName).desc).map (fun d => d.parameters.length) = some 0 := by decide +kernel
theorem pd_19 : (⟨"PrunedSearchModel", "read", "(Z)I"⟩ : MethodName).cls ≠ "java/lang/invoke/MethodHandle" ∧ (⟨"PrunedSearchModel", "read", "(Z)I"⟩ : MethodName).cls ≠ "java/lang/invoke/VarHandle" ∧ (parseMethodDescriptor (⟨"PrunedSearchModel", "read", "(Z)I"⟩ : MethodName).desc).map (fun d => d.parameters.length) = some 1 := by decide +kernel
theorem pd_20 : (⟨"PrunedSearchModel", "prepend", "(III)V"⟩ : MethodName).cls ≠ "java/lang/invoke/MethodHandle" ∧ (⟨"PrunedSearchModel", "prepend", "(III)V"⟩ : MethodName).cls ≠ "java/lang/invoke/VarHandle" ∧ (parseMethodDescriptor (⟨"PrunedSearchModel", "prepend", "(III)V"⟩ : MethodName).desc).map (fun d => d.parameters.length) = some 3 := by decide +kernel
theorem pd_21 : (⟨"PrunedSearchModel", "clearFrame", "(I)V"⟩ : MethodName).cls ≠ "java/lang/invoke/MethodHandle" ∧ (⟨"PrunedSearchModel", "clearFrame", "(I)V"⟩ : MethodName).cls ≠ "java/lang/invoke/VarHandle" ∧ (parseMethodDescriptor (⟨"PrunedSearchModel", "clearFrame", "(I)V"⟩ : MethodName).desc).map (fun d => d.parameters.length) = some 1 := by decide +kernel
theorem pd_22 : (⟨"PrunedSearchModel", "begin", "()V"⟩ : MethodName).cls ≠ "java/lang/invoke/MethodHandle" ∧ (⟨"PrunedSearchModel", "begin", "()V"⟩ : MethodName).cls ≠ "java/lang/invoke/VarHandle" ∧ (parseMethodDescriptor (⟨"PrunedSearchModel", "begin", "()V"⟩ : MethodName).desc).map (fun d => d.parameters.length) = some 0 := by decide +kernel
theorem pd_23 : (⟨"PrunedSearchModel", "follow", "(II)V"⟩ : MethodName).cls ≠ "java/lang/invoke/MethodHandle" ∧ (⟨"PrunedSearchModel", "follow", "(II)V"⟩ : MethodName).cls ≠ "java/lang/invoke/VarHandle" ∧ (parseMethodDescriptor (⟨"PrunedSearchModel", "follow", "(II)V"⟩ : MethodName).desc).map (fun d => d.parameters.length) = some 2 := by decide +kernel
theorem pd_24 : (⟨"PrunedSearchModel", "behind", "(I)I"⟩ : MethodName).cls ≠ "java/lang/invoke/MethodHandle" ∧ (⟨"PrunedSearchModel", "behind", "(I)I"⟩ : MethodName).cls ≠ "java/lang/invoke/VarHandle" ∧ (parseMethodDescriptor (⟨"PrunedSearchModel", "behind", "(I)I"⟩ : MethodName).desc).map (fun d => d.parameters.length) = some 1 := by decide +kernel
theorem pd_25 : (⟨"PrunedSearchModel", "pushAll", "(III)I"⟩ : MethodName).cls ≠ "java/lang/invoke/MethodHandle" ∧ (⟨"PrunedSearchModel", "pushAll", "(III)I"⟩ : MethodName).cls ≠ "java/lang/invoke/VarHandle" ∧ (parseMethodDescriptor (⟨"PrunedSearchModel", "pushAll", "(III)I"⟩ : MethodName).desc).map (fun d => d.parameters.length) = some 3 := by decide +kernel
theorem pd_26 : (⟨"PrunedSearchModel", "stands", "(IIII)Z"⟩ : MethodName).cls ≠ "java/lang/invoke/MethodHandle" ∧ (⟨"PrunedSearchModel", "stands", "(IIII)Z"⟩ : MethodName).cls ≠ "java/lang/invoke/VarHandle" ∧ (parseMethodDescriptor (⟨"PrunedSearchModel", "stands", "(IIII)Z"⟩ : MethodName).desc).map (fun d => d.parameters.length) = some 4 := by decide +kernel
theorem pd_27 : (⟨"PrunedSearchModel", "bind", "(IIII)Z"⟩ : MethodName).cls ≠ "java/lang/invoke/MethodHandle" ∧ (⟨"PrunedSearchModel", "bind", "(IIII)Z"⟩ : MethodName).cls ≠ "java/lang/invoke/VarHandle" ∧ (parseMethodDescriptor (⟨"PrunedSearchModel", "bind", "(IIII)Z"⟩ : MethodName).desc).map (fun d => d.parameters.length) = some 4 := by decide +kernel
theorem pd_28 : (⟨"PrunedSearchModel", "symbolsOf", "(II)I"⟩ : MethodName).cls ≠ "java/lang/invoke/MethodHandle" ∧ (⟨"PrunedSearchModel", "symbolsOf", "(II)I"⟩ : MethodName).cls ≠ "java/lang/invoke/VarHandle" ∧ (parseMethodDescriptor (⟨"PrunedSearchModel", "symbolsOf", "(II)I"⟩ : MethodName).desc).map (fun d => d.parameters.length) = some 2 := by decide +kernel
theorem pd_29 : (⟨"PrunedSearchModel", "end", "(I)V"⟩ : MethodName).cls ≠ "java/lang/invoke/MethodHandle" ∧ (⟨"PrunedSearchModel", "end", "(I)V"⟩ : MethodName).cls ≠ "java/lang/invoke/VarHandle" ∧ (parseMethodDescriptor (⟨"PrunedSearchModel", "end", "(I)V"⟩ : MethodName).desc).map (fun d => d.parameters.length) = some 1 := by decide +kernel
theorem pd_30 : (⟨"PrunedSearchModel", "large", "()Z"⟩ : MethodName).cls ≠ "java/lang/invoke/MethodHandle" ∧ (⟨"PrunedSearchModel", "large", "()Z"⟩ : MethodName).cls ≠ "java/lang/invoke/VarHandle" ∧ (parseMethodDescriptor (⟨"PrunedSearchModel", "large", "()Z"⟩ : MethodName).desc).map (fun d => d.parameters.length) = some 0 := by decide +kernel
theorem pd_31 : (⟨"PrunedSearchModel", "equalize", "(IIII)Z"⟩ : MethodName).cls ≠ "java/lang/invoke/MethodHandle" ∧ (⟨"PrunedSearchModel", "equalize", "(IIII)Z"⟩ : MethodName).cls ≠ "java/lang/invoke/VarHandle" ∧ (parseMethodDescriptor (⟨"PrunedSearchModel", "equalize", "(IIII)Z"⟩ : MethodName).desc).map (fun d => d.parameters.length) = some 4 := by decide +kernel
theorem pd_32 : (⟨"PrunedSearchModel", "resolve", "(II)V"⟩ : MethodName).cls ≠ "java/lang/invoke/MethodHandle" ∧ (⟨"PrunedSearchModel", "resolve", "(II)V"⟩ : MethodName).cls ≠ "java/lang/invoke/VarHandle" ∧ (parseMethodDescriptor (⟨"PrunedSearchModel", "resolve", "(II)V"⟩ : MethodName).desc).map (fun d => d.parameters.length) = some 2 := by decide +kernel
theorem pd_33 : (⟨"PrunedSearchModel", "candidate", "(III)I"⟩ : MethodName).cls ≠ "java/lang/invoke/MethodHandle" ∧ (⟨"PrunedSearchModel", "candidate", "(III)I"⟩ : MethodName).cls ≠ "java/lang/invoke/VarHandle" ∧ (parseMethodDescriptor (⟨"PrunedSearchModel", "candidate", "(III)I"⟩ : MethodName).desc).map (fun d => d.parameters.length) = some 3 := by decide +kernel
theorem pd_34 : (⟨"PrunedSearchModel", "isWordAlone", "(IJ)Z"⟩ : MethodName).cls ≠ "java/lang/invoke/MethodHandle" ∧ (⟨"PrunedSearchModel", "isWordAlone", "(IJ)Z"⟩ : MethodName).cls ≠ "java/lang/invoke/VarHandle" ∧ (parseMethodDescriptor (⟨"PrunedSearchModel", "isWordAlone", "(IJ)Z"⟩ : MethodName).desc).map (fun d => d.parameters.length) = some 2 := by decide +kernel
theorem pd_35 : (⟨"PrunedSearchModel", "strip", "()V"⟩ : MethodName).cls ≠ "java/lang/invoke/MethodHandle" ∧ (⟨"PrunedSearchModel", "strip", "()V"⟩ : MethodName).cls ≠ "java/lang/invoke/VarHandle" ∧ (parseMethodDescriptor (⟨"PrunedSearchModel", "strip", "()V"⟩ : MethodName).desc).map (fun d => d.parameters.length) = some 0 := by decide +kernel
theorem pd_36 : (⟨"PrunedSearchModel", "again", "(I)V"⟩ : MethodName).cls ≠ "java/lang/invoke/MethodHandle" ∧ (⟨"PrunedSearchModel", "again", "(I)V"⟩ : MethodName).cls ≠ "java/lang/invoke/VarHandle" ∧ (parseMethodDescriptor (⟨"PrunedSearchModel", "again", "(I)V"⟩ : MethodName).desc).map (fun d => d.parameters.length) = some 1 := by decide +kernel
theorem pd_37 : (⟨"PrunedSearchModel", "back", "()V"⟩ : MethodName).cls ≠ "java/lang/invoke/MethodHandle" ∧ (⟨"PrunedSearchModel", "back", "()V"⟩ : MethodName).cls ≠ "java/lang/invoke/VarHandle" ∧ (parseMethodDescriptor (⟨"PrunedSearchModel", "back", "()V"⟩ : MethodName).desc).map (fun d => d.parameters.length) = some 0 := by decide +kernel
theorem pd_38 : (⟨"PrunedSearchModel", "forward", "()V"⟩ : MethodName).cls ≠ "java/lang/invoke/MethodHandle" ∧ (⟨"PrunedSearchModel", "forward", "()V"⟩ : MethodName).cls ≠ "java/lang/invoke/VarHandle" ∧ (parseMethodDescriptor (⟨"PrunedSearchModel", "forward", "()V"⟩ : MethodName).desc).map (fun d => d.parameters.length) = some 0 := by decide +kernel
theorem pd_39 : (⟨"PrunedSearchModel", "step", "()V"⟩ : MethodName).cls ≠ "java/lang/invoke/MethodHandle" ∧ (⟨"PrunedSearchModel", "step", "()V"⟩ : MethodName).cls ≠ "java/lang/invoke/VarHandle" ∧ (parseMethodDescriptor (⟨"PrunedSearchModel", "step", "()V"⟩ : MethodName).desc).map (fun d => d.parameters.length) = some 0 := by decide +kernel
theorem pd_40 : (⟨"PrunedSearchModel", "put", "(I)V"⟩ : MethodName).cls ≠ "java/lang/invoke/MethodHandle" ∧ (⟨"PrunedSearchModel", "put", "(I)V"⟩ : MethodName).cls ≠ "java/lang/invoke/VarHandle" ∧ (parseMethodDescriptor (⟨"PrunedSearchModel", "put", "(I)V"⟩ : MethodName).desc).map (fun d => d.parameters.length) = some 1 := by decide +kernel
theorem pd_41 : (⟨"PrunedSearchModel", "later", "(IIII)I"⟩ : MethodName).cls ≠ "java/lang/invoke/MethodHandle" ∧ (⟨"PrunedSearchModel", "later", "(IIII)I"⟩ : MethodName).cls ≠ "java/lang/invoke/VarHandle" ∧ (parseMethodDescriptor (⟨"PrunedSearchModel", "later", "(IIII)I"⟩ : MethodName).desc).map (fun d => d.parameters.length) = some 4 := by decide +kernel
theorem pd_42 : (⟨"PrunedSearchModel", "putWord", "(J)V"⟩ : MethodName).cls ≠ "java/lang/invoke/MethodHandle" ∧ (⟨"PrunedSearchModel", "putWord", "(J)V"⟩ : MethodName).cls ≠ "java/lang/invoke/VarHandle" ∧ (parseMethodDescriptor (⟨"PrunedSearchModel", "putWord", "(J)V"⟩ : MethodName).desc).map (fun d => d.parameters.length) = some 1 := by decide +kernel
theorem pd_43 : (⟨"PrunedSearchModel", "putVariable", "(I)V"⟩ : MethodName).cls ≠ "java/lang/invoke/MethodHandle" ∧ (⟨"PrunedSearchModel", "putVariable", "(I)V"⟩ : MethodName).cls ≠ "java/lang/invoke/VarHandle" ∧ (parseMethodDescriptor (⟨"PrunedSearchModel", "putVariable", "(I)V"⟩ : MethodName).desc).map (fun d => d.parameters.length) = some 1 := by decide +kernel
theorem pd_44 : (⟨"PrunedSearchModel", "writeRest", "(III)I"⟩ : MethodName).cls ≠ "java/lang/invoke/MethodHandle" ∧ (⟨"PrunedSearchModel", "writeRest", "(III)I"⟩ : MethodName).cls ≠ "java/lang/invoke/VarHandle" ∧ (parseMethodDescriptor (⟨"PrunedSearchModel", "writeRest", "(III)I"⟩ : MethodName).desc).map (fun d => d.parameters.length) = some 3 := by decide +kernel
theorem pd_45 : (⟨"PrunedSearchModel", "writeTerm", "(III)I"⟩ : MethodName).cls ≠ "java/lang/invoke/MethodHandle" ∧ (⟨"PrunedSearchModel", "writeTerm", "(III)I"⟩ : MethodName).cls ≠ "java/lang/invoke/VarHandle" ∧ (parseMethodDescriptor (⟨"PrunedSearchModel", "writeTerm", "(III)I"⟩ : MethodName).desc).map (fun d => d.parameters.length) = some 3 := by decide +kernel
theorem pd_46 : (⟨"PrunedSearchModel", "write", "(I)V"⟩ : MethodName).cls ≠ "java/lang/invoke/MethodHandle" ∧ (⟨"PrunedSearchModel", "write", "(I)V"⟩ : MethodName).cls ≠ "java/lang/invoke/VarHandle" ∧ (parseMethodDescriptor (⟨"PrunedSearchModel", "write", "(I)V"⟩ : MethodName).desc).map (fun d => d.parameters.length) = some 1 := by decide +kernel
theorem pd_47 : (⟨"PrunedSearch", "isSmall", "(C)Z"⟩ : MethodName).cls ≠ "java/lang/invoke/MethodHandle" ∧ (⟨"PrunedSearch", "isSmall", "(C)Z"⟩ : MethodName).cls ≠ "java/lang/invoke/VarHandle" ∧ (parseMethodDescriptor (⟨"PrunedSearch", "isSmall", "(C)Z"⟩ : MethodName).desc).map (fun d => d.parameters.length) = some 1 := by decide +kernel
theorem pd_48 : (⟨"java/lang/String", "coder", "()B"⟩ : MethodName).cls ≠ "java/lang/invoke/MethodHandle" ∧ (⟨"java/lang/String", "coder", "()B"⟩ : MethodName).cls ≠ "java/lang/invoke/VarHandle" ∧ (parseMethodDescriptor (⟨"java/lang/String", "coder", "()B"⟩ : MethodName).desc).map (fun d => d.parameters.length) = some 0 := by decide +kernel
theorem pd_49 : (⟨"java/lang/StringLatin1", "indexOfChar", "([BIII)I"⟩ : MethodName).cls ≠ "java/lang/invoke/MethodHandle" ∧ (⟨"java/lang/StringLatin1", "indexOfChar", "([BIII)I"⟩ : MethodName).cls ≠ "java/lang/invoke/VarHandle" ∧ (parseMethodDescriptor (⟨"java/lang/StringLatin1", "indexOfChar", "([BIII)I"⟩ : MethodName).desc).map (fun d => d.parameters.length) = some 4 := by decide +kernel
theorem pd_50 : (⟨"java/lang/StringLatin1", "canEncode", "(I)Z"⟩ : MethodName).cls ≠ "java/lang/invoke/MethodHandle" ∧ (⟨"java/lang/StringLatin1", "canEncode", "(I)Z"⟩ : MethodName).cls ≠ "java/lang/invoke/VarHandle" ∧ (parseMethodDescriptor (⟨"java/lang/StringLatin1", "canEncode", "(I)Z"⟩ : MethodName).desc).map (fun d => d.parameters.length) = some 1 := by decide +kernel
theorem pd_51 : (⟨"java/lang/StringLatin1", "indexOf", "([BIII)I"⟩ : MethodName).cls ≠ "java/lang/invoke/MethodHandle" ∧ (⟨"java/lang/StringLatin1", "indexOf", "([BIII)I"⟩ : MethodName).cls ≠ "java/lang/invoke/VarHandle" ∧ (parseMethodDescriptor (⟨"java/lang/StringLatin1", "indexOf", "([BIII)I"⟩ : MethodName).desc).map (fun d => d.parameters.length) = some 4 := by decide +kernel
theorem pd_52 : (⟨"java/lang/String", "length", "()I"⟩ : MethodName).cls ≠ "java/lang/invoke/MethodHandle" ∧ (⟨"java/lang/String", "length", "()I"⟩ : MethodName).cls ≠ "java/lang/invoke/VarHandle" ∧ (parseMethodDescriptor (⟨"java/lang/String", "length", "()I"⟩ : MethodName).desc).map (fun d => d.parameters.length) = some 0 := by decide +kernel
theorem pd_53 : (⟨"java/lang/String", "isLatin1", "()Z"⟩ : MethodName).cls ≠ "java/lang/invoke/MethodHandle" ∧ (⟨"java/lang/String", "isLatin1", "()Z"⟩ : MethodName).cls ≠ "java/lang/invoke/VarHandle" ∧ (parseMethodDescriptor (⟨"java/lang/String", "isLatin1", "()Z"⟩ : MethodName).desc).map (fun d => d.parameters.length) = some 0 := by decide +kernel
theorem pd_54 : (⟨"java/lang/String", "indexOf", "(II)I"⟩ : MethodName).cls ≠ "java/lang/invoke/MethodHandle" ∧ (⟨"java/lang/String", "indexOf", "(II)I"⟩ : MethodName).cls ≠ "java/lang/invoke/VarHandle" ∧ (parseMethodDescriptor (⟨"java/lang/String", "indexOf", "(II)I"⟩ : MethodName).desc).map (fun d => d.parameters.length) = some 2 := by decide +kernel
theorem pd_55 : (⟨"PrunedSearch$Text", "letterOf", "(JI)C"⟩ : MethodName).cls ≠ "java/lang/invoke/MethodHandle" ∧ (⟨"PrunedSearch$Text", "letterOf", "(JI)C"⟩ : MethodName).cls ≠ "java/lang/invoke/VarHandle" ∧ (parseMethodDescriptor (⟨"PrunedSearch$Text", "letterOf", "(JI)C"⟩ : MethodName).desc).map (fun d => d.parameters.length) = some 2 := by decide +kernel
theorem pd_56 : (⟨"java/lang/String", "indexOf", "(I)I"⟩ : MethodName).cls ≠ "java/lang/invoke/MethodHandle" ∧ (⟨"java/lang/String", "indexOf", "(I)I"⟩ : MethodName).cls ≠ "java/lang/invoke/VarHandle" ∧ (parseMethodDescriptor (⟨"java/lang/String", "indexOf", "(I)I"⟩ : MethodName).desc).map (fun d => d.parameters.length) = some 1 := by decide +kernel
theorem pd_57 : (⟨"PrunedSearch", "isWordLetter", "(C)Z"⟩ : MethodName).cls ≠ "java/lang/invoke/MethodHandle" ∧ (⟨"PrunedSearch", "isWordLetter", "(C)Z"⟩ : MethodName).cls ≠ "java/lang/invoke/VarHandle" ∧ (parseMethodDescriptor (⟨"PrunedSearch", "isWordLetter", "(C)Z"⟩ : MethodName).desc).map (fun d => d.parameters.length) = some 1 := by decide +kernel
theorem pd_58 : (⟨"PrunedSearch$Text", "add", "(J)Z"⟩ : MethodName).cls ≠ "java/lang/invoke/MethodHandle" ∧ (⟨"PrunedSearch$Text", "add", "(J)Z"⟩ : MethodName).cls ≠ "java/lang/invoke/VarHandle" ∧ (parseMethodDescriptor (⟨"PrunedSearch$Text", "add", "(J)Z"⟩ : MethodName).desc).map (fun d => d.parameters.length) = some 1 := by decide +kernel
theorem pd_59 : (⟨"PrunedSearch$TermWriter", "clear", "()V"⟩ : MethodName).cls ≠ "java/lang/invoke/MethodHandle" ∧ (⟨"PrunedSearch$TermWriter", "clear", "()V"⟩ : MethodName).cls ≠ "java/lang/invoke/VarHandle" ∧ (parseMethodDescriptor (⟨"PrunedSearch$TermWriter", "clear", "()V"⟩ : MethodName).desc).map (fun d => d.parameters.length) = some 0 := by decide +kernel
theorem pd_60 : (⟨"PrunedSearch$Terms", "goBack", "(II)V"⟩ : MethodName).cls ≠ "java/lang/invoke/MethodHandle" ∧ (⟨"PrunedSearch$Terms", "goBack", "(II)V"⟩ : MethodName).cls ≠ "java/lang/invoke/VarHandle" ∧ (parseMethodDescriptor (⟨"PrunedSearch$Terms", "goBack", "(II)V"⟩ : MethodName).desc).map (fun d => d.parameters.length) = some 2 := by decide +kernel
theorem pd_61 : (⟨"PrunedSearch$Goals", "goBack", "(II)V"⟩ : MethodName).cls ≠ "java/lang/invoke/MethodHandle" ∧ (⟨"PrunedSearch$Goals", "goBack", "(II)V"⟩ : MethodName).cls ≠ "java/lang/invoke/VarHandle" ∧ (parseMethodDescriptor (⟨"PrunedSearch$Goals", "goBack", "(II)V"⟩ : MethodName).desc).map (fun d => d.parameters.length) = some 2 := by decide +kernel
theorem pd_62 : (⟨"PrunedSearch$Choices", "keepFirst", "(I)V"⟩ : MethodName).cls ≠ "java/lang/invoke/MethodHandle" ∧ (⟨"PrunedSearch$Choices", "keepFirst", "(I)V"⟩ : MethodName).cls ≠ "java/lang/invoke/VarHandle" ∧ (parseMethodDescriptor (⟨"PrunedSearch$Choices", "keepFirst", "(I)V"⟩ : MethodName).desc).map (fun d => d.parameters.length) = some 1 := by decide +kernel
theorem pd_63 : (⟨"PrunedSearch$Tokens", "put", "(CIJ)V"⟩ : MethodName).cls ≠ "java/lang/invoke/MethodHandle" ∧ (⟨"PrunedSearch$Tokens", "put", "(CIJ)V"⟩ : MethodName).cls ≠ "java/lang/invoke/VarHandle" ∧ (parseMethodDescriptor (⟨"PrunedSearch$Tokens", "put", "(CIJ)V"⟩ : MethodName).desc).map (fun d => d.parameters.length) = some 3 := by decide +kernel
theorem pd_64 : (⟨"PrunedSearch$Text", "size", "()I"⟩ : MethodName).cls ≠ "java/lang/invoke/MethodHandle" ∧ (⟨"PrunedSearch$Text", "size", "()I"⟩ : MethodName).cls ≠ "java/lang/invoke/VarHandle" ∧ (parseMethodDescriptor (⟨"PrunedSearch$Text", "size", "()I"⟩ : MethodName).desc).map (fun d => d.parameters.length) = some 0 := by decide +kernel
theorem pd_65 : (⟨"PrunedSearch$Tokens", "completeNeck", "()V"⟩ : MethodName).cls ≠ "java/lang/invoke/MethodHandle" ∧ (⟨"PrunedSearch$Tokens", "completeNeck", "()V"⟩ : MethodName).cls ≠ "java/lang/invoke/VarHandle" ∧ (parseMethodDescriptor (⟨"PrunedSearch$Tokens", "completeNeck", "()V"⟩ : MethodName).desc).map (fun d => d.parameters.length) = some 0 := by decide +kernel
theorem pd_66 : (⟨"PrunedSearch$Tokens", "lengthenWord", "(CI)V"⟩ : MethodName).cls ≠ "java/lang/invoke/MethodHandle" ∧ (⟨"PrunedSearch$Tokens", "lengthenWord", "(CI)V"⟩ : MethodName).cls ≠ "java/lang/invoke/VarHandle" ∧ (parseMethodDescriptor (⟨"PrunedSearch$Tokens", "lengthenWord", "(CI)V"⟩ : MethodName).desc).map (fun d => d.parameters.length) = some 2 := by decide +kernel
theorem pd_67 : (⟨"PrunedSearch$Text", "at", "(I)C"⟩ : MethodName).cls ≠ "java/lang/invoke/MethodHandle" ∧ (⟨"PrunedSearch$Text", "at", "(I)C"⟩ : MethodName).cls ≠ "java/lang/invoke/VarHandle" ∧ (parseMethodDescriptor (⟨"PrunedSearch$Text", "at", "(I)C"⟩ : MethodName).desc).map (fun d => d.parameters.length) = some 1 := by decide +kernel
theorem pd_68 : (⟨"PrunedSearch$ClauseReader", "startPart", "()V"⟩ : MethodName).cls ≠ "java/lang/invoke/MethodHandle" ∧ (⟨"PrunedSearch$ClauseReader", "startPart", "()V"⟩ : MethodName).cls ≠ "java/lang/invoke/VarHandle" ∧ (parseMethodDescriptor (⟨"PrunedSearch$ClauseReader", "startPart", "()V"⟩ : MethodName).desc).map (fun d => d.parameters.length) = some 0 := by decide +kernel
theorem pd_69 : (⟨"PrunedSearch$Code", "clear", "()V"⟩ : MethodName).cls ≠ "java/lang/invoke/MethodHandle" ∧ (⟨"PrunedSearch$Code", "clear", "()V"⟩ : MethodName).cls ≠ "java/lang/invoke/VarHandle" ∧ (parseMethodDescriptor (⟨"PrunedSearch$Code", "clear", "()V"⟩ : MethodName).desc).map (fun d => d.parameters.length) = some 0 := by decide +kernel
theorem pd_70 : (⟨"PrunedSearch$Tokens", "scan", "(LPrunedSearch$Text;)V"⟩ : MethodName).cls ≠ "java/lang/invoke/MethodHandle" ∧ (⟨"PrunedSearch$Tokens", "scan", "(LPrunedSearch$Text;)V"⟩ : MethodName).cls ≠ "java/lang/invoke/VarHandle" ∧ (parseMethodDescriptor (⟨"PrunedSearch$Tokens", "scan", "(LPrunedSearch$Text;)V"⟩ : MethodName).desc).map (fun d => d.parameters.length) = some 1 := by decide +kernel
theorem pd_71 : (⟨"PrunedSearch$Tokens", "kindAt", "(I)C"⟩ : MethodName).cls ≠ "java/lang/invoke/MethodHandle" ∧ (⟨"PrunedSearch$Tokens", "kindAt", "(I)C"⟩ : MethodName).cls ≠ "java/lang/invoke/VarHandle" ∧ (parseMethodDescriptor (⟨"PrunedSearch$Tokens", "kindAt", "(I)C"⟩ : MethodName).desc).map (fun d => d.parameters.length) = some 1 := by decide +kernel
theorem pd_72 : (⟨"PrunedSearch$ClauseReader", "accept", "(C)Z"⟩ : MethodName).cls ≠ "java/lang/invoke/MethodHandle" ∧ (⟨"PrunedSearch$ClauseReader", "accept", "(C)Z"⟩ : MethodName).cls ≠ "java/lang/invoke/VarHandle" ∧ (parseMethodDescriptor (⟨"PrunedSearch$ClauseReader", "accept", "(C)Z"⟩ : MethodName).desc).map (fun d => d.parameters.length) = some 1 := by decide +kernel
theorem pd_73 : (⟨"PrunedSearch$Code", "setArguments", "(II)V"⟩ : MethodName).cls ≠ "java/lang/invoke/MethodHandle" ∧ (⟨"PrunedSearch$Code", "setArguments", "(II)V"⟩ : MethodName).cls ≠ "java/lang/invoke/VarHandle" ∧ (parseMethodDescriptor (⟨"PrunedSearch$Code", "setArguments", "(II)V"⟩ : MethodName).desc).map (fun d => d.parameters.length) = some 2 := by decide +kernel
theorem pd_74 : (⟨"PrunedSearch$ClauseReader", "readTerm", "()Z"⟩ : MethodName).cls ≠ "java/lang/invoke/MethodHandle" ∧ (⟨"PrunedSearch$ClauseReader", "readTerm", "()Z"⟩ : MethodName).cls ≠ "java/lang/invoke/VarHandle" ∧ (parseMethodDescriptor (⟨"PrunedSearch$ClauseReader", "readTerm", "()Z"⟩ : MethodName).desc).map (fun d => d.parameters.length) = some 0 := by decide +kernel
theorem pd_75 : (⟨"PrunedSearch$ClauseReader", "enter", "()Z"⟩ : MethodName).cls ≠ "java/lang/invoke/MethodHandle" ∧ (⟨"PrunedSearch$ClauseReader", "enter", "()Z"⟩ : MethodName).cls ≠ "java/lang/invoke/VarHandle" ∧ (parseMethodDescriptor (⟨"PrunedSearch$ClauseReader", "enter", "()Z"⟩ : MethodName).desc).map (fun d => d.parameters.length) = some 0 := by decide +kernel
theorem pd_76 : (⟨"PrunedSearch$Code", "add", "(I)I"⟩ : MethodName).cls ≠ "java/lang/invoke/MethodHandle" ∧ (⟨"PrunedSearch$Code", "add", "(I)I"⟩ : MethodName).cls ≠ "java/lang/invoke/VarHandle" ∧ (parseMethodDescriptor (⟨"PrunedSearch$Code", "add", "(I)I"⟩ : MethodName).desc).map (fun d => d.parameters.length) = some 1 := by decide +kernel
theorem pd_77 : (⟨"PrunedSearch$ClauseReader", "isAt", "(C)Z"⟩ : MethodName).cls ≠ "java/lang/invoke/MethodHandle" ∧ (⟨"PrunedSearch$ClauseReader", "isAt", "(C)Z"⟩ : MethodName).cls ≠ "java/lang/invoke/VarHandle" ∧ (parseMethodDescriptor (⟨"PrunedSearch$ClauseReader", "isAt", "(C)Z"⟩ : MethodName).desc).map (fun d => d.parameters.length) = some 1 := by decide +kernel
theorem pd_78 : (⟨"PrunedSearch$ClauseReader", "readList", "()Z"⟩ : MethodName).cls ≠ "java/lang/invoke/MethodHandle" ∧ (⟨"PrunedSearch$ClauseReader", "readList", "()Z"⟩ : MethodName).cls ≠ "java/lang/invoke/VarHandle" ∧ (parseMethodDescriptor (⟨"PrunedSearch$ClauseReader", "readList", "()Z"⟩ : MethodName).desc).map (fun d => d.parameters.length) = some 0 := by decide +kernel
theorem pd_79 : (⟨"PrunedSearch$ClauseReader", "readArguments", "(I)Z"⟩ : MethodName).cls ≠ "java/lang/invoke/MethodHandle" ∧ (⟨"PrunedSearch$ClauseReader", "readArguments", "(I)Z"⟩ : MethodName).cls ≠ "java/lang/invoke/VarHandle" ∧ (parseMethodDescriptor (⟨"PrunedSearch$ClauseReader", "readArguments", "(I)Z"⟩ : MethodName).desc).map (fun d => d.parameters.length) = some 1 := by decide +kernel
theorem pd_80 : (⟨"PrunedSearch$Names", "symbolOf", "(J)I"⟩ : MethodName).cls ≠ "java/lang/invoke/MethodHandle" ∧ (⟨"PrunedSearch$Names", "symbolOf", "(J)I"⟩ : MethodName).cls ≠ "java/lang/invoke/VarHandle" ∧ (parseMethodDescriptor (⟨"PrunedSearch$Names", "symbolOf", "(J)I"⟩ : MethodName).desc).map (fun d => d.parameters.length) = some 1 := by decide +kernel
theorem pd_81 : (⟨"PrunedSearch$Tokens", "wordAt", "(I)J"⟩ : MethodName).cls ≠ "java/lang/invoke/MethodHandle" ∧ (⟨"PrunedSearch$Tokens", "wordAt", "(I)J"⟩ : MethodName).cls ≠ "java/lang/invoke/VarHandle" ∧ (parseMethodDescriptor (⟨"PrunedSearch$Tokens", "wordAt", "(I)J"⟩ : MethodName).desc).map (fun d => d.parameters.length) = some 1 := by decide +kernel
theorem pd_82 : (⟨"PrunedSearch$ClauseReader", "variableSymbol", "(J)I"⟩ : MethodName).cls ≠ "java/lang/invoke/MethodHandle" ∧ (⟨"PrunedSearch$ClauseReader", "variableSymbol", "(J)I"⟩ : MethodName).cls ≠ "java/lang/invoke/VarHandle" ∧ (parseMethodDescriptor (⟨"PrunedSearch$ClauseReader", "variableSymbol", "(J)I"⟩ : MethodName).desc).map (fun d => d.parameters.length) = some 1 := by decide +kernel
theorem pd_83 : (⟨"PrunedSearch$Code", "startOf", "(I)I"⟩ : MethodName).cls ≠ "java/lang/invoke/MethodHandle" ∧ (⟨"PrunedSearch$Code", "startOf", "(I)I"⟩ : MethodName).cls ≠ "java/lang/invoke/VarHandle" ∧ (parseMethodDescriptor (⟨"PrunedSearch$Code", "startOf", "(I)I"⟩ : MethodName).desc).map (fun d => d.parameters.length) = some 1 := by decide +kernel
theorem pd_84 : (⟨"PrunedSearch", "argumentsOf", "(I)I"⟩ : MethodName).cls ≠ "java/lang/invoke/MethodHandle" ∧ (⟨"PrunedSearch", "argumentsOf", "(I)I"⟩ : MethodName).cls ≠ "java/lang/invoke/VarHandle" ∧ (parseMethodDescriptor (⟨"PrunedSearch", "argumentsOf", "(I)I"⟩ : MethodName).desc).map (fun d => d.parameters.length) = some 1 := by decide +kernel
theorem pd_85 : (⟨"PrunedSearch$Code", "measure", "(I)V"⟩ : MethodName).cls ≠ "java/lang/invoke/MethodHandle" ∧ (⟨"PrunedSearch$Code", "measure", "(I)V"⟩ : MethodName).cls ≠ "java/lang/invoke/VarHandle" ∧ (parseMethodDescriptor (⟨"PrunedSearch$Code", "measure", "(I)V"⟩ : MethodName).desc).map (fun d => d.parameters.length) = some 1 := by decide +kernel
theorem pd_86 : (⟨"PrunedSearch$Code", "endPart", "()V"⟩ : MethodName).cls ≠ "java/lang/invoke/MethodHandle" ∧ (⟨"PrunedSearch$Code", "endPart", "()V"⟩ : MethodName).cls ≠ "java/lang/invoke/VarHandle" ∧ (parseMethodDescriptor (⟨"PrunedSearch$Code", "endPart", "()V"⟩ : MethodName).desc).map (fun d => d.parameters.length) = some 0 := by decide +kernel
theorem pd_87 : (⟨"PrunedSearch$Code", "symbolsSince", "(I)I"⟩ : MethodName).cls ≠ "java/lang/invoke/MethodHandle" ∧ (⟨"PrunedSearch$Code", "symbolsSince", "(I)I"⟩ : MethodName).cls ≠ "java/lang/invoke/VarHandle" ∧ (parseMethodDescriptor (⟨"PrunedSearch$Code", "symbolsSince", "(I)I"⟩ : MethodName).desc).map (fun d => d.parameters.length) = some 1 := by decide +kernel
theorem pd_88 : (⟨"PrunedSearch$Code", "partCount", "()I"⟩ : MethodName).cls ≠ "java/lang/invoke/MethodHandle" ∧ (⟨"PrunedSearch$Code", "partCount", "()I"⟩ : MethodName).cls ≠ "java/lang/invoke/VarHandle" ∧ (parseMethodDescriptor (⟨"PrunedSearch$Code", "partCount", "()I"⟩ : MethodName).desc).map (fun d => d.parameters.length) = some 0 := by decide +kernel
theorem pd_89 : (⟨"PrunedSearch$ClauseReader", "endPart", "()Z"⟩ : MethodName).cls ≠ "java/lang/invoke/MethodHandle" ∧ (⟨"PrunedSearch$ClauseReader", "endPart", "()Z"⟩ : MethodName).cls ≠ "java/lang/invoke/VarHandle" ∧ (parseMethodDescriptor (⟨"PrunedSearch$ClauseReader", "endPart", "()Z"⟩ : MethodName).desc).map (fun d => d.parameters.length) = some 0 := by decide +kernel
theorem pd_90 : (⟨"PrunedSearch$ClauseReader", "readGoals", "()Z"⟩ : MethodName).cls ≠ "java/lang/invoke/MethodHandle" ∧ (⟨"PrunedSearch$ClauseReader", "readGoals", "()Z"⟩ : MethodName).cls ≠ "java/lang/invoke/VarHandle" ∧ (parseMethodDescriptor (⟨"PrunedSearch$ClauseReader", "readGoals", "()Z"⟩ : MethodName).desc).map (fun d => d.parameters.length) = some 0 := by decide +kernel
theorem pd_91 : (⟨"PrunedSearch$Tokens", "placeAt", "(I)I"⟩ : MethodName).cls ≠ "java/lang/invoke/MethodHandle" ∧ (⟨"PrunedSearch$Tokens", "placeAt", "(I)I"⟩ : MethodName).cls ≠ "java/lang/invoke/VarHandle" ∧ (parseMethodDescriptor (⟨"PrunedSearch$Tokens", "placeAt", "(I)I"⟩ : MethodName).desc).map (fun d => d.parameters.length) = some 1 := by decide +kernel
theorem pd_92 : (⟨"PrunedSearch$Names", "drop", "()V"⟩ : MethodName).cls ≠ "java/lang/invoke/MethodHandle" ∧ (⟨"PrunedSearch$Names", "drop", "()V"⟩ : MethodName).cls ≠ "java/lang/invoke/VarHandle" ∧ (parseMethodDescriptor (⟨"PrunedSearch$Names", "drop", "()V"⟩ : MethodName).desc).map (fun d => d.parameters.length) = some 0 := by decide +kernel
theorem pd_93 : (⟨"PrunedSearch$Names", "keep", "()V"⟩ : MethodName).cls ≠ "java/lang/invoke/MethodHandle" ∧ (⟨"PrunedSearch$Names", "keep", "()V"⟩ : MethodName).cls ≠ "java/lang/invoke/VarHandle" ∧ (parseMethodDescriptor (⟨"PrunedSearch$Names", "keep", "()V"⟩ : MethodName).desc).map (fun d => d.parameters.length) = some 0 := by decide +kernel
theorem pd_94 : (⟨"PrunedSearch$Names", "areTooMany", "()Z"⟩ : MethodName).cls ≠ "java/lang/invoke/MethodHandle" ∧ (⟨"PrunedSearch$Names", "areTooMany", "()Z"⟩ : MethodName).cls ≠ "java/lang/invoke/VarHandle" ∧ (parseMethodDescriptor (⟨"PrunedSearch$Names", "areTooMany", "()Z"⟩ : MethodName).desc).map (fun d => d.parameters.length) = some 0 := by decide +kernel
theorem pd_95 : (⟨"PrunedSearch$ClauseReader", "outcome", "(ZI)I"⟩ : MethodName).cls ≠ "java/lang/invoke/MethodHandle" ∧ (⟨"PrunedSearch$ClauseReader", "outcome", "(ZI)I"⟩ : MethodName).cls ≠ "java/lang/invoke/VarHandle" ∧ (parseMethodDescriptor (⟨"PrunedSearch$ClauseReader", "outcome", "(ZI)I"⟩ : MethodName).desc).map (fun d => d.parameters.length) = some 2 := by decide +kernel
theorem pd_96 : (⟨"PrunedSearch$ClauseReader", "readClause", "()Z"⟩ : MethodName).cls ≠ "java/lang/invoke/MethodHandle" ∧ (⟨"PrunedSearch$ClauseReader", "readClause", "()Z"⟩ : MethodName).cls ≠ "java/lang/invoke/VarHandle" ∧ (parseMethodDescriptor (⟨"PrunedSearch$ClauseReader", "readClause", "()Z"⟩ : MethodName).desc).map (fun d => d.parameters.length) = some 0 := by decide +kernel
theorem pd_97 : (⟨"PrunedSearch$ClauseReader", "start", "(LPrunedSearch$Text;)V"⟩ : MethodName).cls ≠ "java/lang/invoke/MethodHandle" ∧ (⟨"PrunedSearch$ClauseReader", "start", "(LPrunedSearch$Text;)V"⟩ : MethodName).cls ≠ "java/lang/invoke/VarHandle" ∧ (parseMethodDescriptor (⟨"PrunedSearch$ClauseReader", "start", "(LPrunedSearch$Text;)V"⟩ : MethodName).desc).map (fun d => d.parameters.length) = some 1 := by decide +kernel
theorem pd_98 : (⟨"PrunedSearch$Code", "symbolAt", "(I)I"⟩ : MethodName).cls ≠ "java/lang/invoke/MethodHandle" ∧ (⟨"PrunedSearch$Code", "symbolAt", "(I)I"⟩ : MethodName).cls ≠ "java/lang/invoke/VarHandle" ∧ (parseMethodDescriptor (⟨"PrunedSearch$Code", "symbolAt", "(I)I"⟩ : MethodName).desc).map (fun d => d.parameters.length) = some 1 := by decide +kernel
theorem pd_99 : (⟨"PrunedSearch$Code", "endOf", "(I)I"⟩ : MethodName).cls ≠ "java/lang/invoke/MethodHandle" ∧ (⟨"PrunedSearch$Code", "endOf", "(I)I"⟩ : MethodName).cls ≠ "java/lang/invoke/VarHandle" ∧ (parseMethodDescriptor (⟨"PrunedSearch$Code", "endOf", "(I)I"⟩ : MethodName).desc).map (fun d => d.parameters.length) = some 1 := by decide +kernel
theorem pd_100 : (⟨"PrunedSearch$Code", "addParts", "(LPrunedSearch$Code;)V"⟩ : MethodName).cls ≠ "java/lang/invoke/MethodHandle" ∧ (⟨"PrunedSearch$Code", "addParts", "(LPrunedSearch$Code;)V"⟩ : MethodName).cls ≠ "java/lang/invoke/VarHandle" ∧ (parseMethodDescriptor (⟨"PrunedSearch$Code", "addParts", "(LPrunedSearch$Code;)V"⟩ : MethodName).desc).map (fun d => d.parameters.length) = some 1 := by decide +kernel
theorem pd_101 : (⟨"PrunedSearch$ClauseReader", "code", "()LPrunedSearch$Code;"⟩ : MethodName).cls ≠ "java/lang/invoke/MethodHandle" ∧ (⟨"PrunedSearch$ClauseReader", "code", "()LPrunedSearch$Code;"⟩ : MethodName).cls ≠ "java/lang/invoke/VarHandle" ∧ (parseMethodDescriptor (⟨"PrunedSearch$ClauseReader", "code", "()LPrunedSearch$Code;"⟩ : MethodName).desc).map (fun d => d.parameters.length) = some 0 := by decide +kernel
theorem pd_102 : (⟨"PrunedSearch$Text", "clear", "()V"⟩ : MethodName).cls ≠ "java/lang/invoke/MethodHandle" ∧ (⟨"PrunedSearch$Text", "clear", "()V"⟩ : MethodName).cls ≠ "java/lang/invoke/VarHandle" ∧ (parseMethodDescriptor (⟨"PrunedSearch$Text", "clear", "()V"⟩ : MethodName).desc).map (fun d => d.parameters.length) = some 0 := by decide +kernel
theorem pd_103 : (⟨"PrunedSearch$ClauseReader", "readClauses", "(LPrunedSearch$Text;I)I"⟩ : MethodName).cls ≠ "java/lang/invoke/MethodHandle" ∧ (⟨"PrunedSearch$ClauseReader", "readClauses", "(LPrunedSearch$Text;I)I"⟩ : MethodName).cls ≠ "java/lang/invoke/VarHandle" ∧ (parseMethodDescriptor (⟨"PrunedSearch$ClauseReader", "readClauses", "(LPrunedSearch$Text;I)I"⟩ : MethodName).desc).map (fun d => d.parameters.length) = some 2 := by decide +kernel
theorem pd_104 : (⟨"PrunedSearch$Search", "end", "()V"⟩ : MethodName).cls ≠ "java/lang/invoke/MethodHandle" ∧ (⟨"PrunedSearch$Search", "end", "()V"⟩ : MethodName).cls ≠ "java/lang/invoke/VarHandle" ∧ (parseMethodDescriptor (⟨"PrunedSearch$Search", "end", "()V"⟩ : MethodName).desc).map (fun d => d.parameters.length) = some 0 := by decide +kernel
theorem pd_105 : (⟨"PrunedSearch$Terms", "sameVariable", "(I)I"⟩ : MethodName).cls ≠ "java/lang/invoke/MethodHandle" ∧ (⟨"PrunedSearch$Terms", "sameVariable", "(I)I"⟩ : MethodName).cls ≠ "java/lang/invoke/VarHandle" ∧ (parseMethodDescriptor (⟨"PrunedSearch$Terms", "sameVariable", "(I)I"⟩ : MethodName).desc).map (fun d => d.parameters.length) = some 1 := by decide +kernel
theorem pd_106 : (⟨"PrunedSearch$Code", "sizeAt", "(I)I"⟩ : MethodName).cls ≠ "java/lang/invoke/MethodHandle" ∧ (⟨"PrunedSearch$Code", "sizeAt", "(I)I"⟩ : MethodName).cls ≠ "java/lang/invoke/VarHandle" ∧ (parseMethodDescriptor (⟨"PrunedSearch$Code", "sizeAt", "(I)I"⟩ : MethodName).desc).map (fun d => d.parameters.length) = some 1 := by decide +kernel
theorem pd_107 : (⟨"java/util/Arrays", "fill", "([II)V"⟩ : MethodName).cls ≠ "java/lang/invoke/MethodHandle" ∧ (⟨"java/util/Arrays", "fill", "([II)V"⟩ : MethodName).cls ≠ "java/lang/invoke/VarHandle" ∧ (parseMethodDescriptor (⟨"java/util/Arrays", "fill", "([II)V"⟩ : MethodName).desc).map (fun d => d.parameters.length) = some 2 := by decide +kernel
theorem pd_108 : (⟨"PrunedSearch$Terms", "sizeAt", "(I)I"⟩ : MethodName).cls ≠ "java/lang/invoke/MethodHandle" ∧ (⟨"PrunedSearch$Terms", "sizeAt", "(I)I"⟩ : MethodName).cls ≠ "java/lang/invoke/VarHandle" ∧ (parseMethodDescriptor (⟨"PrunedSearch$Terms", "sizeAt", "(I)I"⟩ : MethodName).desc).map (fun d => d.parameters.length) = some 1 := by decide +kernel
theorem pd_109 : (⟨"PrunedSearch$Terms", "variableCell", "(I)I"⟩ : MethodName).cls ≠ "java/lang/invoke/MethodHandle" ∧ (⟨"PrunedSearch$Terms", "variableCell", "(I)I"⟩ : MethodName).cls ≠ "java/lang/invoke/VarHandle" ∧ (parseMethodDescriptor (⟨"PrunedSearch$Terms", "variableCell", "(I)I"⟩ : MethodName).desc).map (fun d => d.parameters.length) = some 1 := by decide +kernel
theorem pd_110 : (⟨"PrunedSearch$Goals", "putBefore", "(LPrunedSearch$Terms;III)V"⟩ : MethodName).cls ≠ "java/lang/invoke/MethodHandle" ∧ (⟨"PrunedSearch$Goals", "putBefore", "(LPrunedSearch$Terms;III)V"⟩ : MethodName).cls ≠ "java/lang/invoke/VarHandle" ∧ (parseMethodDescriptor (⟨"PrunedSearch$Goals", "putBefore", "(LPrunedSearch$Terms;III)V"⟩ : MethodName).desc).map (fun d => d.parameters.length) = some 4 := by decide +kernel
theorem pd_111 : (⟨"PrunedSearch$Terms", "cellCount", "()I"⟩ : MethodName).cls ≠ "java/lang/invoke/MethodHandle" ∧ (⟨"PrunedSearch$Terms", "cellCount", "()I"⟩ : MethodName).cls ≠ "java/lang/invoke/VarHandle" ∧ (parseMethodDescriptor (⟨"PrunedSearch$Terms", "cellCount", "()I"⟩ : MethodName).desc).map (fun d => d.parameters.length) = some 0 := by decide +kernel
theorem pd_112 : (⟨"PrunedSearch$Terms", "copy", "(LPrunedSearch$Code;I)I"⟩ : MethodName).cls ≠ "java/lang/invoke/MethodHandle" ∧ (⟨"PrunedSearch$Terms", "copy", "(LPrunedSearch$Code;I)I"⟩ : MethodName).cls ≠ "java/lang/invoke/VarHandle" ∧ (parseMethodDescriptor (⟨"PrunedSearch$Terms", "copy", "(LPrunedSearch$Code;I)I"⟩ : MethodName).desc).map (fun d => d.parameters.length) = some 2 := by decide +kernel
theorem pd_113 : (⟨"PrunedSearch$Search", "begin", "(LPrunedSearch$Code;I)V"⟩ : MethodName).cls ≠ "java/lang/invoke/MethodHandle" ∧ (⟨"PrunedSearch$Search", "begin", "(LPrunedSearch$Code;I)V"⟩ : MethodName).cls ≠ "java/lang/invoke/VarHandle" ∧ (parseMethodDescriptor (⟨"PrunedSearch$Search", "begin", "(LPrunedSearch$Code;I)V"⟩ : MethodName).desc).map (fun d => d.parameters.length) = some 2 := by decide +kernel
theorem pd_114 : (⟨"PrunedSearch$ClauseReader", "readQuestion", "(LPrunedSearch$Text;)I"⟩ : MethodName).cls ≠ "java/lang/invoke/MethodHandle" ∧ (⟨"PrunedSearch$ClauseReader", "readQuestion", "(LPrunedSearch$Text;)I"⟩ : MethodName).cls ≠ "java/lang/invoke/VarHandle" ∧ (parseMethodDescriptor (⟨"PrunedSearch$ClauseReader", "readQuestion", "(LPrunedSearch$Text;)I"⟩ : MethodName).desc).map (fun d => d.parameters.length) = some 1 := by decide +kernel
theorem pd_115 : (⟨"PrunedSearch$Goals", "after", "(I)I"⟩ : MethodName).cls ≠ "java/lang/invoke/MethodHandle" ∧ (⟨"PrunedSearch$Goals", "after", "(I)I"⟩ : MethodName).cls ≠ "java/lang/invoke/VarHandle" ∧ (parseMethodDescriptor (⟨"PrunedSearch$Goals", "after", "(I)I"⟩ : MethodName).desc).map (fun d => d.parameters.length) = some 1 := by decide +kernel
theorem pd_116 : (⟨"PrunedSearch$Choices", "withoutFirst", "(I)I"⟩ : MethodName).cls ≠ "java/lang/invoke/MethodHandle" ∧ (⟨"PrunedSearch$Choices", "withoutFirst", "(I)I"⟩ : MethodName).cls ≠ "java/lang/invoke/VarHandle" ∧ (parseMethodDescriptor (⟨"PrunedSearch$Choices", "withoutFirst", "(I)I"⟩ : MethodName).desc).map (fun d => d.parameters.length) = some 1 := by decide +kernel
theorem pd_117 : (⟨"PrunedSearch$Choices", "firstOf", "(I)I"⟩ : MethodName).cls ≠ "java/lang/invoke/MethodHandle" ∧ (⟨"PrunedSearch$Choices", "firstOf", "(I)I"⟩ : MethodName).cls ≠ "java/lang/invoke/VarHandle" ∧ (parseMethodDescriptor (⟨"PrunedSearch$Choices", "firstOf", "(I)I"⟩ : MethodName).desc).map (fun d => d.parameters.length) = some 1 := by decide +kernel
theorem pd_118 : (⟨"PrunedSearch$Choices", "takeCandidate", "()I"⟩ : MethodName).cls ≠ "java/lang/invoke/MethodHandle" ∧ (⟨"PrunedSearch$Choices", "takeCandidate", "()I"⟩ : MethodName).cls ≠ "java/lang/invoke/VarHandle" ∧ (parseMethodDescriptor (⟨"PrunedSearch$Choices", "takeCandidate", "()I"⟩ : MethodName).desc).map (fun d => d.parameters.length) = some 0 := by decide +kernel
theorem pd_119 : (⟨"PrunedSearch$Choices", "count", "()I"⟩ : MethodName).cls ≠ "java/lang/invoke/MethodHandle" ∧ (⟨"PrunedSearch$Choices", "count", "()I"⟩ : MethodName).cls ≠ "java/lang/invoke/VarHandle" ∧ (parseMethodDescriptor (⟨"PrunedSearch$Choices", "count", "()I"⟩ : MethodName).desc).map (fun d => d.parameters.length) = some 0 := by decide +kernel
theorem pd_120 : (⟨"PrunedSearch$Goals", "takeFirst", "()V"⟩ : MethodName).cls ≠ "java/lang/invoke/MethodHandle" ∧ (⟨"PrunedSearch$Goals", "takeFirst", "()V"⟩ : MethodName).cls ≠ "java/lang/invoke/VarHandle" ∧ (parseMethodDescriptor (⟨"PrunedSearch$Goals", "takeFirst", "()V"⟩ : MethodName).desc).map (fun d => d.parameters.length) = some 0 := by decide +kernel
theorem pd_121 : (⟨"PrunedSearch$Goals", "termOf", "(I)I"⟩ : MethodName).cls ≠ "java/lang/invoke/MethodHandle" ∧ (⟨"PrunedSearch$Goals", "termOf", "(I)I"⟩ : MethodName).cls ≠ "java/lang/invoke/VarHandle" ∧ (parseMethodDescriptor (⟨"PrunedSearch$Goals", "termOf", "(I)I"⟩ : MethodName).desc).map (fun d => d.parameters.length) = some 1 := by decide +kernel
theorem pd_122 : (⟨"PrunedSearch$Goals", "first", "()I"⟩ : MethodName).cls ≠ "java/lang/invoke/MethodHandle" ∧ (⟨"PrunedSearch$Goals", "first", "()I"⟩ : MethodName).cls ≠ "java/lang/invoke/VarHandle" ∧ (parseMethodDescriptor (⟨"PrunedSearch$Goals", "first", "()I"⟩ : MethodName).desc).map (fun d => d.parameters.length) = some 0 := by decide +kernel
theorem pd_123 : (⟨"PrunedSearch$Choices", "goBack", "(LPrunedSearch$Goals;LPrunedSearch$Terms;)I"⟩ : MethodName).cls ≠ "java/lang/invoke/MethodHandle" ∧ (⟨"PrunedSearch$Choices", "goBack", "(LPrunedSearch$Goals;LPrunedSearch$Terms;)I"⟩ : MethodName).cls ≠ "java/lang/invoke/VarHandle" ∧ (parseMethodDescriptor (⟨"PrunedSearch$Choices", "goBack", "(LPrunedSearch$Goals;LPrunedSearch$Terms;)I"⟩ : MethodName).desc).map (fun d => d.parameters.length) = some 2 := by decide +kernel
theorem pd_124 : (⟨"PrunedSearch$Terms", "nextStanding", "(I)I"⟩ : MethodName).cls ≠ "java/lang/invoke/MethodHandle" ∧ (⟨"PrunedSearch$Terms", "nextStanding", "(I)I"⟩ : MethodName).cls ≠ "java/lang/invoke/VarHandle" ∧ (parseMethodDescriptor (⟨"PrunedSearch$Terms", "nextStanding", "(I)I"⟩ : MethodName).desc).map (fun d => d.parameters.length) = some 1 := by decide +kernel
theorem pd_125 : (⟨"PrunedSearch$Terms", "push", "(I)V"⟩ : MethodName).cls ≠ "java/lang/invoke/MethodHandle" ∧ (⟨"PrunedSearch$Terms", "push", "(I)V"⟩ : MethodName).cls ≠ "java/lang/invoke/VarHandle" ∧ (parseMethodDescriptor (⟨"PrunedSearch$Terms", "push", "(I)V"⟩ : MethodName).desc).map (fun d => d.parameters.length) = some 1 := by decide +kernel
theorem pd_126 : (⟨"PrunedSearch$Terms", "symbolAt", "(I)I"⟩ : MethodName).cls ≠ "java/lang/invoke/MethodHandle" ∧ (⟨"PrunedSearch$Terms", "symbolAt", "(I)I"⟩ : MethodName).cls ≠ "java/lang/invoke/VarHandle" ∧ (parseMethodDescriptor (⟨"PrunedSearch$Terms", "symbolAt", "(I)I"⟩ : MethodName).desc).map (fun d => d.parameters.length) = some 1 := by decide +kernel
theorem pd_127 : (⟨"PrunedSearch$Terms", "pushPairs", "(II)V"⟩ : MethodName).cls ≠ "java/lang/invoke/MethodHandle" ∧ (⟨"PrunedSearch$Terms", "pushPairs", "(II)V"⟩ : MethodName).cls ≠ "java/lang/invoke/VarHandle" ∧ (parseMethodDescriptor (⟨"PrunedSearch$Terms", "pushPairs", "(II)V"⟩ : MethodName).desc).map (fun d => d.parameters.length) = some 2 := by decide +kernel
theorem pd_128 : (⟨"PrunedSearch$Terms", "letStand", "(II)V"⟩ : MethodName).cls ≠ "java/lang/invoke/MethodHandle" ∧ (⟨"PrunedSearch$Terms", "letStand", "(II)V"⟩ : MethodName).cls ≠ "java/lang/invoke/VarHandle" ∧ (parseMethodDescriptor (⟨"PrunedSearch$Terms", "letStand", "(II)V"⟩ : MethodName).desc).map (fun d => d.parameters.length) = some 2 := by decide +kernel
theorem pd_129 : (⟨"PrunedSearch$Terms", "standing", "(I)I"⟩ : MethodName).cls ≠ "java/lang/invoke/MethodHandle" ∧ (⟨"PrunedSearch$Terms", "standing", "(I)I"⟩ : MethodName).cls ≠ "java/lang/invoke/VarHandle" ∧ (parseMethodDescriptor (⟨"PrunedSearch$Terms", "standing", "(I)I"⟩ : MethodName).desc).map (fun d => d.parameters.length) = some 1 := by decide +kernel
theorem pd_130 : (⟨"PrunedSearch$Terms", "pop", "()I"⟩ : MethodName).cls ≠ "java/lang/invoke/MethodHandle" ∧ (⟨"PrunedSearch$Terms", "pop", "()I"⟩ : MethodName).cls ≠ "java/lang/invoke/VarHandle" ∧ (parseMethodDescriptor (⟨"PrunedSearch$Terms", "pop", "()I"⟩ : MethodName).desc).map (fun d => d.parameters.length) = some 0 := by decide +kernel
theorem pd_131 : (⟨"PrunedSearch$Terms", "pushArguments", "(I)V"⟩ : MethodName).cls ≠ "java/lang/invoke/MethodHandle" ∧ (⟨"PrunedSearch$Terms", "pushArguments", "(I)V"⟩ : MethodName).cls ≠ "java/lang/invoke/VarHandle" ∧ (parseMethodDescriptor (⟨"PrunedSearch$Terms", "pushArguments", "(I)V"⟩ : MethodName).desc).map (fun d => d.parameters.length) = some 1 := by decide +kernel
theorem pd_132 : (⟨"PrunedSearch$Terms", "mark", "(II)V"⟩ : MethodName).cls ≠ "java/lang/invoke/MethodHandle" ∧ (⟨"PrunedSearch$Terms", "mark", "(II)V"⟩ : MethodName).cls ≠ "java/lang/invoke/VarHandle" ∧ (parseMethodDescriptor (⟨"PrunedSearch$Terms", "mark", "(II)V"⟩ : MethodName).desc).map (fun d => d.parameters.length) = some 2 := by decide +kernel
theorem pd_133 : (⟨"PrunedSearch$Terms", "markAt", "(I)I"⟩ : MethodName).cls ≠ "java/lang/invoke/MethodHandle" ∧ (⟨"PrunedSearch$Terms", "markAt", "(I)I"⟩ : MethodName).cls ≠ "java/lang/invoke/VarHandle" ∧ (parseMethodDescriptor (⟨"PrunedSearch$Terms", "markAt", "(I)I"⟩ : MethodName).desc).map (fun d => d.parameters.length) = some 1 := by decide +kernel
theorem pd_134 : (⟨"PrunedSearch$Terms", "countSymbols", "(II)I"⟩ : MethodName).cls ≠ "java/lang/invoke/MethodHandle" ∧ (⟨"PrunedSearch$Terms", "countSymbols", "(II)I"⟩ : MethodName).cls ≠ "java/lang/invoke/VarHandle" ∧ (parseMethodDescriptor (⟨"PrunedSearch$Terms", "countSymbols", "(II)I"⟩ : MethodName).desc).map (fun d => d.parameters.length) = some 2 := by decide +kernel
theorem pd_135 : (⟨"PrunedSearch$Search", "isLarge", "()Z"⟩ : MethodName).cls ≠ "java/lang/invoke/MethodHandle" ∧ (⟨"PrunedSearch$Search", "isLarge", "()Z"⟩ : MethodName).cls ≠ "java/lang/invoke/VarHandle" ∧ (parseMethodDescriptor (⟨"PrunedSearch$Search", "isLarge", "()Z"⟩ : MethodName).desc).map (fun d => d.parameters.length) = some 0 := by decide +kernel
theorem pd_136 : (⟨"PrunedSearch$Terms", "isCircular", "(I)Z"⟩ : MethodName).cls ≠ "java/lang/invoke/MethodHandle" ∧ (⟨"PrunedSearch$Terms", "isCircular", "(I)Z"⟩ : MethodName).cls ≠ "java/lang/invoke/VarHandle" ∧ (parseMethodDescriptor (⟨"PrunedSearch$Terms", "isCircular", "(I)Z"⟩ : MethodName).desc).map (fun d => d.parameters.length) = some 1 := by decide +kernel
theorem pd_137 : (⟨"PrunedSearch$Terms", "join", "(II)Z"⟩ : MethodName).cls ≠ "java/lang/invoke/MethodHandle" ∧ (⟨"PrunedSearch$Terms", "join", "(II)Z"⟩ : MethodName).cls ≠ "java/lang/invoke/VarHandle" ∧ (parseMethodDescriptor (⟨"PrunedSearch$Terms", "join", "(II)Z"⟩ : MethodName).desc).map (fun d => d.parameters.length) = some 2 := by decide +kernel
theorem pd_138 : (⟨"PrunedSearch$Terms", "changeCount", "()I"⟩ : MethodName).cls ≠ "java/lang/invoke/MethodHandle" ∧ (⟨"PrunedSearch$Terms", "changeCount", "()I"⟩ : MethodName).cls ≠ "java/lang/invoke/VarHandle" ∧ (parseMethodDescriptor (⟨"PrunedSearch$Terms", "changeCount", "()I"⟩ : MethodName).desc).map (fun d => d.parameters.length) = some 0 := by decide +kernel
theorem pd_139 : (⟨"PrunedSearch$Choices", "put", "(IILPrunedSearch$Terms;II)V"⟩ : MethodName).cls ≠ "java/lang/invoke/MethodHandle" ∧ (⟨"PrunedSearch$Choices", "put", "(IILPrunedSearch$Terms;II)V"⟩ : MethodName).cls ≠ "java/lang/invoke/VarHandle" ∧ (parseMethodDescriptor (⟨"PrunedSearch$Choices", "put", "(IILPrunedSearch$Terms;II)V"⟩ : MethodName).desc).map (fun d => d.parameters.length) = some 5 := by decide +kernel
theorem pd_140 : (⟨"PrunedSearch$Goals", "heldCount", "()I"⟩ : MethodName).cls ≠ "java/lang/invoke/MethodHandle" ∧ (⟨"PrunedSearch$Goals", "heldCount", "()I"⟩ : MethodName).cls ≠ "java/lang/invoke/VarHandle" ∧ (parseMethodDescriptor (⟨"PrunedSearch$Goals", "heldCount", "()I"⟩ : MethodName).desc).map (fun d => d.parameters.length) = some 0 := by decide +kernel
theorem pd_141 : (⟨"PrunedSearch$Search", "choose", "(II)I"⟩ : MethodName).cls ≠ "java/lang/invoke/MethodHandle" ∧ (⟨"PrunedSearch$Search", "choose", "(II)I"⟩ : MethodName).cls ≠ "java/lang/invoke/VarHandle" ∧ (parseMethodDescriptor (⟨"PrunedSearch$Search", "choose", "(II)I"⟩ : MethodName).desc).map (fun d => d.parameters.length) = some 2 := by decide +kernel
theorem pd_142 : (⟨"PrunedSearch$Search", "candidates", "(I)I"⟩ : MethodName).cls ≠ "java/lang/invoke/MethodHandle" ∧ (⟨"PrunedSearch$Search", "candidates", "(I)I"⟩ : MethodName).cls ≠ "java/lang/invoke/VarHandle" ∧ (parseMethodDescriptor (⟨"PrunedSearch$Search", "candidates", "(I)I"⟩ : MethodName).desc).map (fun d => d.parameters.length) = some 1 := by decide +kernel
theorem pd_143 : (⟨"PrunedSearch$Names", "wordOf", "(I)J"⟩ : MethodName).cls ≠ "java/lang/invoke/MethodHandle" ∧ (⟨"PrunedSearch$Names", "wordOf", "(I)J"⟩ : MethodName).cls ≠ "java/lang/invoke/VarHandle" ∧ (parseMethodDescriptor (⟨"PrunedSearch$Names", "wordOf", "(I)J"⟩ : MethodName).desc).map (fun d => d.parameters.length) = some 1 := by decide +kernel
theorem pd_144 : (⟨"PrunedSearch$Goals", "cutOf", "(I)I"⟩ : MethodName).cls ≠ "java/lang/invoke/MethodHandle" ∧ (⟨"PrunedSearch$Goals", "cutOf", "(I)I"⟩ : MethodName).cls ≠ "java/lang/invoke/VarHandle" ∧ (parseMethodDescriptor (⟨"PrunedSearch$Goals", "cutOf", "(I)I"⟩ : MethodName).desc).map (fun d => d.parameters.length) = some 1 := by decide +kernel
theorem pd_145 : (⟨"PrunedSearch$Search", "resolve", "(I)V"⟩ : MethodName).cls ≠ "java/lang/invoke/MethodHandle" ∧ (⟨"PrunedSearch$Search", "resolve", "(I)V"⟩ : MethodName).cls ≠ "java/lang/invoke/VarHandle" ∧ (parseMethodDescriptor (⟨"PrunedSearch$Search", "resolve", "(I)V"⟩ : MethodName).desc).map (fun d => d.parameters.length) = some 1 := by decide +kernel
theorem pd_146 : (⟨"PrunedSearch$Search", "takeGoal", "()I"⟩ : MethodName).cls ≠ "java/lang/invoke/MethodHandle" ∧ (⟨"PrunedSearch$Search", "takeGoal", "()I"⟩ : MethodName).cls ≠ "java/lang/invoke/VarHandle" ∧ (parseMethodDescriptor (⟨"PrunedSearch$Search", "takeGoal", "()I"⟩ : MethodName).desc).map (fun d => d.parameters.length) = some 0 := by decide +kernel
theorem pd_147 : (⟨"PrunedSearch$Search", "takeChoice", "()I"⟩ : MethodName).cls ≠ "java/lang/invoke/MethodHandle" ∧ (⟨"PrunedSearch$Search", "takeChoice", "()I"⟩ : MethodName).cls ≠ "java/lang/invoke/VarHandle" ∧ (parseMethodDescriptor (⟨"PrunedSearch$Search", "takeChoice", "()I"⟩ : MethodName).desc).map (fun d => d.parameters.length) = some 0 := by decide +kernel
theorem pd_148 : (⟨"PrunedSearch$Search", "step", "()V"⟩ : MethodName).cls ≠ "java/lang/invoke/MethodHandle" ∧ (⟨"PrunedSearch$Search", "step", "()V"⟩ : MethodName).cls ≠ "java/lang/invoke/VarHandle" ∧ (parseMethodDescriptor (⟨"PrunedSearch$Search", "step", "()V"⟩ : MethodName).desc).map (fun d => d.parameters.length) = some 0 := by decide +kernel
theorem pd_149 : (⟨"PrunedSearch$Search", "goOn", "(I)I"⟩ : MethodName).cls ≠ "java/lang/invoke/MethodHandle" ∧ (⟨"PrunedSearch$Search", "goOn", "(I)I"⟩ : MethodName).cls ≠ "java/lang/invoke/VarHandle" ∧ (parseMethodDescriptor (⟨"PrunedSearch$Search", "goOn", "(I)I"⟩ : MethodName).desc).map (fun d => d.parameters.length) = some 1 := by decide +kernel
theorem pd_150 : (⟨"PrunedSearch$TermWriter", "put", "(C)V"⟩ : MethodName).cls ≠ "java/lang/invoke/MethodHandle" ∧ (⟨"PrunedSearch$TermWriter", "put", "(C)V"⟩ : MethodName).cls ≠ "java/lang/invoke/VarHandle" ∧ (parseMethodDescriptor (⟨"PrunedSearch$TermWriter", "put", "(C)V"⟩ : MethodName).desc).map (fun d => d.parameters.length) = some 1 := by decide +kernel
theorem pd_151 : (⟨"PrunedSearch$TermWriter", "push", "(II)V"⟩ : MethodName).cls ≠ "java/lang/invoke/MethodHandle" ∧ (⟨"PrunedSearch$TermWriter", "push", "(II)V"⟩ : MethodName).cls ≠ "java/lang/invoke/VarHandle" ∧ (parseMethodDescriptor (⟨"PrunedSearch$TermWriter", "push", "(II)V"⟩ : MethodName).desc).map (fun d => d.parameters.length) = some 2 := by decide +kernel
theorem pd_152 : (⟨"PrunedSearch$Terms", "argument", "(II)I"⟩ : MethodName).cls ≠ "java/lang/invoke/MethodHandle" ∧ (⟨"PrunedSearch$Terms", "argument", "(II)I"⟩ : MethodName).cls ≠ "java/lang/invoke/VarHandle" ∧ (parseMethodDescriptor (⟨"PrunedSearch$Terms", "argument", "(II)I"⟩ : MethodName).desc).map (fun d => d.parameters.length) = some 2 := by decide +kernel
theorem pd_153 : (⟨"PrunedSearch$TermWriter", "pushArguments", "(II)V"⟩ : MethodName).cls ≠ "java/lang/invoke/MethodHandle" ∧ (⟨"PrunedSearch$TermWriter", "pushArguments", "(II)V"⟩ : MethodName).cls ≠ "java/lang/invoke/VarHandle" ∧ (parseMethodDescriptor (⟨"PrunedSearch$TermWriter", "pushArguments", "(II)V"⟩ : MethodName).desc).map (fun d => d.parameters.length) = some 2 := by decide +kernel
theorem pd_154 : (⟨"PrunedSearch$TermWriter", "writeWord", "(J)V"⟩ : MethodName).cls ≠ "java/lang/invoke/MethodHandle" ∧ (⟨"PrunedSearch$TermWriter", "writeWord", "(J)V"⟩ : MethodName).cls ≠ "java/lang/invoke/VarHandle" ∧ (parseMethodDescriptor (⟨"PrunedSearch$TermWriter", "writeWord", "(J)V"⟩ : MethodName).desc).map (fun d => d.parameters.length) = some 1 := by decide +kernel
theorem pd_155 : (⟨"PrunedSearch$TermWriter", "pushList", "(I)V"⟩ : MethodName).cls ≠ "java/lang/invoke/MethodHandle" ∧ (⟨"PrunedSearch$TermWriter", "pushList", "(I)V"⟩ : MethodName).cls ≠ "java/lang/invoke/VarHandle" ∧ (parseMethodDescriptor (⟨"PrunedSearch$TermWriter", "pushList", "(I)V"⟩ : MethodName).desc).map (fun d => d.parameters.length) = some 1 := by decide +kernel
theorem pd_156 : (⟨"PrunedSearch$TermWriter", "writeVariable", "(I)V"⟩ : MethodName).cls ≠ "java/lang/invoke/MethodHandle" ∧ (⟨"PrunedSearch$TermWriter", "writeVariable", "(I)V"⟩ : MethodName).cls ≠ "java/lang/invoke/VarHandle" ∧ (parseMethodDescriptor (⟨"PrunedSearch$TermWriter", "writeVariable", "(I)V"⟩ : MethodName).desc).map (fun d => d.parameters.length) = some 1 := by decide +kernel
theorem pd_157 : (⟨"PrunedSearch$TermWriter", "writeRest", "(I)V"⟩ : MethodName).cls ≠ "java/lang/invoke/MethodHandle" ∧ (⟨"PrunedSearch$TermWriter", "writeRest", "(I)V"⟩ : MethodName).cls ≠ "java/lang/invoke/VarHandle" ∧ (parseMethodDescriptor (⟨"PrunedSearch$TermWriter", "writeRest", "(I)V"⟩ : MethodName).desc).map (fun d => d.parameters.length) = some 1 := by decide +kernel
theorem pd_158 : (⟨"PrunedSearch$TermWriter", "writeTerm", "(I)V"⟩ : MethodName).cls ≠ "java/lang/invoke/MethodHandle" ∧ (⟨"PrunedSearch$TermWriter", "writeTerm", "(I)V"⟩ : MethodName).cls ≠ "java/lang/invoke/VarHandle" ∧ (parseMethodDescriptor (⟨"PrunedSearch$TermWriter", "writeTerm", "(I)V"⟩ : MethodName).desc).map (fun d => d.parameters.length) = some 1 := by decide +kernel
theorem pd_159 : (⟨"PrunedSearch$TermWriter", "write", "(I)V"⟩ : MethodName).cls ≠ "java/lang/invoke/MethodHandle" ∧ (⟨"PrunedSearch$TermWriter", "write", "(I)V"⟩ : MethodName).cls ≠ "java/lang/invoke/VarHandle" ∧ (parseMethodDescriptor (⟨"PrunedSearch$TermWriter", "write", "(I)V"⟩ : MethodName).desc).map (fun d => d.parameters.length) = some 1 := by decide +kernel
theorem pd_160 : (⟨"PrunedSearch$TermWriter", "letter", "(II)C"⟩ : MethodName).cls ≠ "java/lang/invoke/MethodHandle" ∧ (⟨"PrunedSearch$TermWriter", "letter", "(II)C"⟩ : MethodName).cls ≠ "java/lang/invoke/VarHandle" ∧ (parseMethodDescriptor (⟨"PrunedSearch$TermWriter", "letter", "(II)C"⟩ : MethodName).desc).map (fun d => d.parameters.length) = some 2 := by decide +kernel
theorem pd_161 : (⟨"PrunedSearch$TermWriter", "writeAll", "([II)V"⟩ : MethodName).cls ≠ "java/lang/invoke/MethodHandle" ∧ (⟨"PrunedSearch$TermWriter", "writeAll", "([II)V"⟩ : MethodName).cls ≠ "java/lang/invoke/VarHandle" ∧ (parseMethodDescriptor (⟨"PrunedSearch$TermWriter", "writeAll", "([II)V"⟩ : MethodName).desc).map (fun d => d.parameters.length) = some 2 := by decide +kernel
theorem pd_162 : (⟨"PrunedSearch$TermWriter", "isDone", "()Z"⟩ : MethodName).cls ≠ "java/lang/invoke/MethodHandle" ∧ (⟨"PrunedSearch$TermWriter", "isDone", "()Z"⟩ : MethodName).cls ≠ "java/lang/invoke/VarHandle" ∧ (parseMethodDescriptor (⟨"PrunedSearch$TermWriter", "isDone", "()Z"⟩ : MethodName).desc).map (fun d => d.parameters.length) = some 0 := by decide +kernel
theorem pd_163 : (⟨"PrunedSearch$Search", "letter", "(II)C"⟩ : MethodName).cls ≠ "java/lang/invoke/MethodHandle" ∧ (⟨"PrunedSearch$Search", "letter", "(II)C"⟩ : MethodName).cls ≠ "java/lang/invoke/VarHandle" ∧ (parseMethodDescriptor (⟨"PrunedSearch$Search", "letter", "(II)C"⟩ : MethodName).desc).map (fun d => d.parameters.length) = some 2 := by decide +kernel
theorem pd_164 : (⟨"PrunedSearch$Search", "tryCount", "()I"⟩ : MethodName).cls ≠ "java/lang/invoke/MethodHandle" ∧ (⟨"PrunedSearch$Search", "tryCount", "()I"⟩ : MethodName).cls ≠ "java/lang/invoke/VarHandle" ∧ (parseMethodDescriptor (⟨"PrunedSearch$Search", "tryCount", "()I"⟩ : MethodName).desc).map (fun d => d.parameters.length) = some 0 := by decide +kernel
theorem pd_165 : (⟨"PrunedSearch$Search", "choiceCount", "()I"⟩ : MethodName).cls ≠ "java/lang/invoke/MethodHandle" ∧ (⟨"PrunedSearch$Search", "choiceCount", "()I"⟩ : MethodName).cls ≠ "java/lang/invoke/VarHandle" ∧ (parseMethodDescriptor (⟨"PrunedSearch$Search", "choiceCount", "()I"⟩ : MethodName).desc).map (fun d => d.parameters.length) = some 0 := by decide +kernel
theorem pd_166 : (⟨"PrunedSearch$Search", "branchLength", "()I"⟩ : MethodName).cls ≠ "java/lang/invoke/MethodHandle" ∧ (⟨"PrunedSearch$Search", "branchLength", "()I"⟩ : MethodName).cls ≠ "java/lang/invoke/VarHandle" ∧ (parseMethodDescriptor (⟨"PrunedSearch$Search", "branchLength", "()I"⟩ : MethodName).desc).map (fun d => d.parameters.length) = some 0 := by decide +kernel
theorem pd_167 : (⟨"PrunedSearch$Goals", "count", "()I"⟩ : MethodName).cls ≠ "java/lang/invoke/MethodHandle" ∧ (⟨"PrunedSearch$Goals", "count", "()I"⟩ : MethodName).cls ≠ "java/lang/invoke/VarHandle" ∧ (parseMethodDescriptor (⟨"PrunedSearch$Goals", "count", "()I"⟩ : MethodName).desc).map (fun d => d.parameters.length) = some 0 := by decide +kernel
theorem pd_168 : (⟨"PrunedSearch$Search", "goalCount", "()I"⟩ : MethodName).cls ≠ "java/lang/invoke/MethodHandle" ∧ (⟨"PrunedSearch$Search", "goalCount", "()I"⟩ : MethodName).cls ≠ "java/lang/invoke/VarHandle" ∧ (parseMethodDescriptor (⟨"PrunedSearch$Search", "goalCount", "()I"⟩ : MethodName).desc).map (fun d => d.parameters.length) = some 0 := by decide +kernel
theorem pd_169 : (⟨"PrunedSearch$Names", "clear", "()V"⟩ : MethodName).cls ≠ "java/lang/invoke/MethodHandle" ∧ (⟨"PrunedSearch$Names", "clear", "()V"⟩ : MethodName).cls ≠ "java/lang/invoke/VarHandle" ∧ (parseMethodDescriptor (⟨"PrunedSearch$Names", "clear", "()V"⟩ : MethodName).desc).map (fun d => d.parameters.length) = some 0 := by decide +kernel
