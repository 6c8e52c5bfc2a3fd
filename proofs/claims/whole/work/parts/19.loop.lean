/-! the joint steps that the pure part owes, and the law's loop out of them (printed by wip/gen/loop.py) -/
set_option maxRecDepth 20000 in
theorem k_335 : (Jvm.Cond.methodLink "PrunedSearchLaw" (15 : Nat) ({ cls := "PrunedSearch", name := "type", desc := "(J)Z" } : Jvm.MethodName)) ∈ Wt := List.mem_filter.mpr ⟨t_in (t_in2 (List.mem_of_getElem? (i := 95) rfl)), rfl⟩
set_option maxRecDepth 20000 in
theorem k_336 : (Jvm.Cond.instanceMethod ({ cls := "PrunedSearch", name := "type", desc := "(J)Z" } : Jvm.MethodName)) ∈ Wt := List.mem_filter.mpr ⟨t_in (t_in2 (List.mem_of_getElem? (i := 96) rfl)), rfl⟩
set_option maxRecDepth 20000 in
theorem k_337 : (Jvm.Cond.selects "PrunedSearch" ({ cls := "PrunedSearch", name := "type", desc := "(J)Z" } : Jvm.MethodName) ({ cls := "PrunedSearch", name := "type", desc := "(J)Z" } : Jvm.MethodName)) ∈ Wt := List.mem_filter.mpr ⟨t_in (t_in2 (List.mem_of_getElem? (i := 97) rfl)), rfl⟩
set_option maxRecDepth 20000 in
theorem k_338 : (Jvm.Cond.code ({ cls := "PrunedSearch", name := "type", desc := "(J)Z" } : Jvm.MethodName) prog_1_method_2_code (3 : Nat) (Option.some Jvm.ClassFile.FieldType.boolean)) ∈ Wt := List.mem_filter.mpr ⟨t_in (t_in2 (List.mem_of_getElem? (i := 98) rfl)), rfl⟩
set_option maxRecDepth 20000 in
theorem k_441 : (Jvm.Cond.methodLink "PrunedSearchLaw" (20 : Nat) ({ cls := "PrunedSearch", name := "consult", desc := "()I" } : Jvm.MethodName)) ∈ Wt := List.mem_filter.mpr ⟨t_in (t_in2 (List.mem_of_getElem? (i := 201) rfl)), rfl⟩
set_option maxRecDepth 20000 in
theorem k_442 : (Jvm.Cond.instanceMethod ({ cls := "PrunedSearch", name := "consult", desc := "()I" } : Jvm.MethodName)) ∈ Wt := List.mem_filter.mpr ⟨t_in (t_in2 (List.mem_of_getElem? (i := 202) rfl)), rfl⟩
set_option maxRecDepth 20000 in
theorem k_443 : (Jvm.Cond.selects "PrunedSearch" ({ cls := "PrunedSearch", name := "consult", desc := "()I" } : Jvm.MethodName) ({ cls := "PrunedSearch", name := "consult", desc := "()I" } : Jvm.MethodName)) ∈ Wt := List.mem_filter.mpr ⟨t_in (t_in2 (List.mem_of_getElem? (i := 203) rfl)), rfl⟩
set_option maxRecDepth 20000 in
theorem k_444 : (Jvm.Cond.code ({ cls := "PrunedSearch", name := "consult", desc := "()I" } : Jvm.MethodName) prog_1_method_3_code (2 : Nat) (Option.some Jvm.ClassFile.FieldType.int)) ∈ Wt := List.mem_filter.mpr ⟨t_in (t_in2 (List.mem_of_getElem? (i := 204) rfl)), rfl⟩
set_option maxRecDepth 20000 in
theorem k_638 : (Jvm.Cond.methodLink "PrunedSearchLaw" (25 : Nat) ({ cls := "PrunedSearch", name := "ask", desc := "()I" } : Jvm.MethodName)) ∈ Wt := List.mem_filter.mpr ⟨t_in (t_in3 (List.mem_of_getElem? (i := 158) rfl)), rfl⟩
set_option maxRecDepth 20000 in
theorem k_639 : (Jvm.Cond.instanceMethod ({ cls := "PrunedSearch", name := "ask", desc := "()I" } : Jvm.MethodName)) ∈ Wt := List.mem_filter.mpr ⟨t_in (t_in3 (List.mem_of_getElem? (i := 159) rfl)), rfl⟩
set_option maxRecDepth 20000 in
theorem k_640 : (Jvm.Cond.selects "PrunedSearch" ({ cls := "PrunedSearch", name := "ask", desc := "()I" } : Jvm.MethodName) ({ cls := "PrunedSearch", name := "ask", desc := "()I" } : Jvm.MethodName)) ∈ Wt := List.mem_filter.mpr ⟨t_in (t_in3 (List.mem_of_getElem? (i := 160) rfl)), rfl⟩
set_option maxRecDepth 20000 in
theorem k_641 : (Jvm.Cond.code ({ cls := "PrunedSearch", name := "ask", desc := "()I" } : Jvm.MethodName) prog_1_method_4_code (2 : Nat) (Option.some Jvm.ClassFile.FieldType.int)) ∈ Wt := List.mem_filter.mpr ⟨t_in (t_in3 (List.mem_of_getElem? (i := 161) rfl)), rfl⟩
set_option maxRecDepth 20000 in
theorem k_685 : (Jvm.Cond.methodLink "PrunedSearchLaw" (29 : Nat) ({ cls := "PrunedSearch", name := "run", desc := "(I)I" } : Jvm.MethodName)) ∈ Wt := List.mem_filter.mpr ⟨t_in (t_in3 (List.mem_of_getElem? (i := 205) rfl)), rfl⟩
set_option maxRecDepth 20000 in
theorem k_686 : (Jvm.Cond.instanceMethod ({ cls := "PrunedSearch", name := "run", desc := "(I)I" } : Jvm.MethodName)) ∈ Wt := List.mem_filter.mpr ⟨t_in (t_in3 (List.mem_of_getElem? (i := 206) rfl)), rfl⟩
set_option maxRecDepth 20000 in
theorem k_687 : (Jvm.Cond.selects "PrunedSearch" ({ cls := "PrunedSearch", name := "run", desc := "(I)I" } : Jvm.MethodName) ({ cls := "PrunedSearch", name := "run", desc := "(I)I" } : Jvm.MethodName)) ∈ Wt := List.mem_filter.mpr ⟨t_in (t_in3 (List.mem_of_getElem? (i := 207) rfl)), rfl⟩
set_option maxRecDepth 20000 in
theorem k_688 : (Jvm.Cond.code ({ cls := "PrunedSearch", name := "run", desc := "(I)I" } : Jvm.MethodName) prog_1_method_5_code (2 : Nat) (Option.some Jvm.ClassFile.FieldType.int)) ∈ Wt := List.mem_filter.mpr ⟨t_in (t_in3 (List.mem_of_getElem? (i := 208) rfl)), rfl⟩
set_option maxRecDepth 20000 in
theorem k_845 : (Jvm.Cond.methodLink "PrunedSearchLaw" (34 : Nat) ({ cls := "PrunedSearch", name := "answer", desc := "(II)C" } : Jvm.MethodName)) ∈ Wt := List.mem_filter.mpr ⟨t_in (t_in4 (List.mem_of_getElem? (i := 125) rfl)), rfl⟩
set_option maxRecDepth 20000 in
theorem k_846 : (Jvm.Cond.instanceMethod ({ cls := "PrunedSearch", name := "answer", desc := "(II)C" } : Jvm.MethodName)) ∈ Wt := List.mem_filter.mpr ⟨t_in (t_in4 (List.mem_of_getElem? (i := 126) rfl)), rfl⟩
set_option maxRecDepth 20000 in
theorem k_847 : (Jvm.Cond.selects "PrunedSearch" ({ cls := "PrunedSearch", name := "answer", desc := "(II)C" } : Jvm.MethodName) ({ cls := "PrunedSearch", name := "answer", desc := "(II)C" } : Jvm.MethodName)) ∈ Wt := List.mem_filter.mpr ⟨t_in (t_in4 (List.mem_of_getElem? (i := 127) rfl)), rfl⟩
set_option maxRecDepth 20000 in
theorem k_848 : (Jvm.Cond.code ({ cls := "PrunedSearch", name := "answer", desc := "(II)C" } : Jvm.MethodName) prog_1_method_6_code (3 : Nat) (Option.some Jvm.ClassFile.FieldType.char)) ∈ Wt := List.mem_filter.mpr ⟨t_in (t_in4 (List.mem_of_getElem? (i := 128) rfl)), rfl⟩
set_option maxRecDepth 20000 in
theorem k_912 : (Jvm.Cond.methodLink "PrunedSearchLaw" (39 : Nat) ({ cls := "PrunedSearch", name := "clauses", desc := "()I" } : Jvm.MethodName)) ∈ Wt := List.mem_filter.mpr ⟨t_in (t_in4 (List.mem_of_getElem? (i := 192) rfl)), rfl⟩
set_option maxRecDepth 20000 in
theorem k_913 : (Jvm.Cond.instanceMethod ({ cls := "PrunedSearch", name := "clauses", desc := "()I" } : Jvm.MethodName)) ∈ Wt := List.mem_filter.mpr ⟨t_in (t_in4 (List.mem_of_getElem? (i := 193) rfl)), rfl⟩
set_option maxRecDepth 20000 in
theorem k_914 : (Jvm.Cond.selects "PrunedSearch" ({ cls := "PrunedSearch", name := "clauses", desc := "()I" } : Jvm.MethodName) ({ cls := "PrunedSearch", name := "clauses", desc := "()I" } : Jvm.MethodName)) ∈ Wt := List.mem_filter.mpr ⟨t_in (t_in4 (List.mem_of_getElem? (i := 194) rfl)), rfl⟩
set_option maxRecDepth 20000 in
theorem k_915 : (Jvm.Cond.code ({ cls := "PrunedSearch", name := "clauses", desc := "()I" } : Jvm.MethodName) prog_1_method_7_code (1 : Nat) (Option.some Jvm.ClassFile.FieldType.int)) ∈ Wt := List.mem_filter.mpr ⟨t_in (t_in4 (List.mem_of_getElem? (i := 195) rfl)), rfl⟩
set_option maxRecDepth 20000 in
theorem k_916 : (Jvm.Cond.methodLink "PrunedSearchLaw" (43 : Nat) ({ cls := "PrunedSearch", name := "tries", desc := "()I" } : Jvm.MethodName)) ∈ Wt := List.mem_filter.mpr ⟨t_in (t_in4 (List.mem_of_getElem? (i := 196) rfl)), rfl⟩
set_option maxRecDepth 20000 in
theorem k_917 : (Jvm.Cond.instanceMethod ({ cls := "PrunedSearch", name := "tries", desc := "()I" } : Jvm.MethodName)) ∈ Wt := List.mem_filter.mpr ⟨t_in (t_in4 (List.mem_of_getElem? (i := 197) rfl)), rfl⟩
set_option maxRecDepth 20000 in
theorem k_918 : (Jvm.Cond.selects "PrunedSearch" ({ cls := "PrunedSearch", name := "tries", desc := "()I" } : Jvm.MethodName) ({ cls := "PrunedSearch", name := "tries", desc := "()I" } : Jvm.MethodName)) ∈ Wt := List.mem_filter.mpr ⟨t_in (t_in4 (List.mem_of_getElem? (i := 198) rfl)), rfl⟩
set_option maxRecDepth 20000 in
theorem k_919 : (Jvm.Cond.code ({ cls := "PrunedSearch", name := "tries", desc := "()I" } : Jvm.MethodName) prog_1_method_8_code (1 : Nat) (Option.some Jvm.ClassFile.FieldType.int)) ∈ Wt := List.mem_filter.mpr ⟨t_in (t_in4 (List.mem_of_getElem? (i := 199) rfl)), rfl⟩
set_option maxRecDepth 20000 in
theorem k_924 : (Jvm.Cond.methodLink "PrunedSearchLaw" (47 : Nat) ({ cls := "PrunedSearch", name := "choices", desc := "()I" } : Jvm.MethodName)) ∈ Wt := List.mem_filter.mpr ⟨t_in (t_in4 (List.mem_of_getElem? (i := 204) rfl)), rfl⟩
set_option maxRecDepth 20000 in
theorem k_925 : (Jvm.Cond.instanceMethod ({ cls := "PrunedSearch", name := "choices", desc := "()I" } : Jvm.MethodName)) ∈ Wt := List.mem_filter.mpr ⟨t_in (t_in4 (List.mem_of_getElem? (i := 205) rfl)), rfl⟩
set_option maxRecDepth 20000 in
theorem k_926 : (Jvm.Cond.selects "PrunedSearch" ({ cls := "PrunedSearch", name := "choices", desc := "()I" } : Jvm.MethodName) ({ cls := "PrunedSearch", name := "choices", desc := "()I" } : Jvm.MethodName)) ∈ Wt := List.mem_filter.mpr ⟨t_in (t_in4 (List.mem_of_getElem? (i := 206) rfl)), rfl⟩
set_option maxRecDepth 20000 in
theorem k_927 : (Jvm.Cond.code ({ cls := "PrunedSearch", name := "choices", desc := "()I" } : Jvm.MethodName) prog_1_method_9_code (1 : Nat) (Option.some Jvm.ClassFile.FieldType.int)) ∈ Wt := List.mem_filter.mpr ⟨t_in (t_in4 (List.mem_of_getElem? (i := 207) rfl)), rfl⟩
set_option maxRecDepth 20000 in
theorem k_932 : (Jvm.Cond.methodLink "PrunedSearchLaw" (51 : Nat) ({ cls := "PrunedSearch", name := "length", desc := "()I" } : Jvm.MethodName)) ∈ Wt := List.mem_filter.mpr ⟨t_in (t_in4 (List.mem_of_getElem? (i := 212) rfl)), rfl⟩
set_option maxRecDepth 20000 in
theorem k_933 : (Jvm.Cond.instanceMethod ({ cls := "PrunedSearch", name := "length", desc := "()I" } : Jvm.MethodName)) ∈ Wt := List.mem_filter.mpr ⟨t_in (t_in4 (List.mem_of_getElem? (i := 213) rfl)), rfl⟩
set_option maxRecDepth 20000 in
theorem k_934 : (Jvm.Cond.selects "PrunedSearch" ({ cls := "PrunedSearch", name := "length", desc := "()I" } : Jvm.MethodName) ({ cls := "PrunedSearch", name := "length", desc := "()I" } : Jvm.MethodName)) ∈ Wt := List.mem_filter.mpr ⟨t_in (t_in4 (List.mem_of_getElem? (i := 214) rfl)), rfl⟩
set_option maxRecDepth 20000 in
theorem k_935 : (Jvm.Cond.code ({ cls := "PrunedSearch", name := "length", desc := "()I" } : Jvm.MethodName) prog_1_method_10_code (1 : Nat) (Option.some Jvm.ClassFile.FieldType.int)) ∈ Wt := List.mem_filter.mpr ⟨t_in (t_in4 (List.mem_of_getElem? (i := 215) rfl)), rfl⟩
set_option maxRecDepth 20000 in
theorem k_940 : (Jvm.Cond.methodLink "PrunedSearchLaw" (55 : Nat) ({ cls := "PrunedSearch", name := "goals", desc := "()I" } : Jvm.MethodName)) ∈ Wt := List.mem_filter.mpr ⟨t_in (t_in4 (List.mem_of_getElem? (i := 220) rfl)), rfl⟩
set_option maxRecDepth 20000 in
theorem k_941 : (Jvm.Cond.instanceMethod ({ cls := "PrunedSearch", name := "goals", desc := "()I" } : Jvm.MethodName)) ∈ Wt := List.mem_filter.mpr ⟨t_in (t_in4 (List.mem_of_getElem? (i := 221) rfl)), rfl⟩
set_option maxRecDepth 20000 in
theorem k_942 : (Jvm.Cond.selects "PrunedSearch" ({ cls := "PrunedSearch", name := "goals", desc := "()I" } : Jvm.MethodName) ({ cls := "PrunedSearch", name := "goals", desc := "()I" } : Jvm.MethodName)) ∈ Wt := List.mem_filter.mpr ⟨t_in (t_in4 (List.mem_of_getElem? (i := 222) rfl)), rfl⟩
set_option maxRecDepth 20000 in
theorem k_943 : (Jvm.Cond.code ({ cls := "PrunedSearch", name := "goals", desc := "()I" } : Jvm.MethodName) prog_1_method_11_code (1 : Nat) (Option.some Jvm.ClassFile.FieldType.int)) ∈ Wt := List.mem_filter.mpr ⟨t_in (t_in4 (List.mem_of_getElem? (i := 223) rfl)), rfl⟩
set_option maxRecDepth 20000 in
theorem k_952 : (Jvm.Cond.methodLink "PrunedSearchLaw" (59 : Nat) ({ cls := "PrunedSearch", name := "forget", desc := "()V" } : Jvm.MethodName)) ∈ Wt := List.mem_filter.mpr ⟨t_in (t_in4 (List.mem_of_getElem? (i := 232) rfl)), rfl⟩
set_option maxRecDepth 20000 in
theorem k_953 : (Jvm.Cond.instanceMethod ({ cls := "PrunedSearch", name := "forget", desc := "()V" } : Jvm.MethodName)) ∈ Wt := List.mem_filter.mpr ⟨t_in (t_in4 (List.mem_of_getElem? (i := 233) rfl)), rfl⟩
set_option maxRecDepth 20000 in
theorem k_954 : (Jvm.Cond.selects "PrunedSearch" ({ cls := "PrunedSearch", name := "forget", desc := "()V" } : Jvm.MethodName) ({ cls := "PrunedSearch", name := "forget", desc := "()V" } : Jvm.MethodName)) ∈ Wt := List.mem_filter.mpr ⟨t_in (t_in4 (List.mem_of_getElem? (i := 234) rfl)), rfl⟩
set_option maxRecDepth 20000 in
theorem k_955 : (Jvm.Cond.code ({ cls := "PrunedSearch", name := "forget", desc := "()V" } : Jvm.MethodName) prog_1_method_12_code (1 : Nat) (Option.none : Option Jvm.ClassFile.FieldType)) ∈ Wt := List.mem_filter.mpr ⟨t_in (t_in4 (List.mem_of_getElem? (i := 235) rfl)), rfl⟩
set_option maxRecDepth 20000 in
theorem k_1134 : (Jvm.Cond.methodLink "PrunedSearchLaw" (19 : Nat) ({ cls := "PrunedSearchModel", name := "type", desc := "(J)Z" } : Jvm.MethodName)) ∈ Wt := List.mem_filter.mpr ⟨t_in (t_in5 (List.mem_of_getElem? (i := 174) rfl)), rfl⟩
set_option maxRecDepth 20000 in
theorem k_1135 : (Jvm.Cond.instanceMethod ({ cls := "PrunedSearchModel", name := "type", desc := "(J)Z" } : Jvm.MethodName)) ∈ Wt := List.mem_filter.mpr ⟨t_in (t_in5 (List.mem_of_getElem? (i := 175) rfl)), rfl⟩
set_option maxRecDepth 20000 in
theorem k_1136 : (Jvm.Cond.selects "PrunedSearchModel" ({ cls := "PrunedSearchModel", name := "type", desc := "(J)Z" } : Jvm.MethodName) ({ cls := "PrunedSearchModel", name := "type", desc := "(J)Z" } : Jvm.MethodName)) ∈ Wt := List.mem_filter.mpr ⟨t_in (t_in5 (List.mem_of_getElem? (i := 176) rfl)), rfl⟩
set_option maxRecDepth 20000 in
theorem k_1137 : (Jvm.Cond.code ({ cls := "PrunedSearchModel", name := "type", desc := "(J)Z" } : Jvm.MethodName) prog_13_method_5_code (5 : Nat) (Option.some Jvm.ClassFile.FieldType.boolean)) ∈ Wt := List.mem_filter.mpr ⟨t_in (t_in5 (List.mem_of_getElem? (i := 177) rfl)), rfl⟩
set_option maxRecDepth 20000 in
theorem k_1148 : (Jvm.Cond.methodLink "PrunedSearchLaw" (24 : Nat) ({ cls := "PrunedSearchModel", name := "consult", desc := "()I" } : Jvm.MethodName)) ∈ Wt := List.mem_filter.mpr ⟨t_in (t_in5 (List.mem_of_getElem? (i := 188) rfl)), rfl⟩
set_option maxRecDepth 20000 in
theorem k_1149 : (Jvm.Cond.instanceMethod ({ cls := "PrunedSearchModel", name := "consult", desc := "()I" } : Jvm.MethodName)) ∈ Wt := List.mem_filter.mpr ⟨t_in (t_in5 (List.mem_of_getElem? (i := 189) rfl)), rfl⟩
set_option maxRecDepth 20000 in
theorem k_1150 : (Jvm.Cond.selects "PrunedSearchModel" ({ cls := "PrunedSearchModel", name := "consult", desc := "()I" } : Jvm.MethodName) ({ cls := "PrunedSearchModel", name := "consult", desc := "()I" } : Jvm.MethodName)) ∈ Wt := List.mem_filter.mpr ⟨t_in (t_in5 (List.mem_of_getElem? (i := 190) rfl)), rfl⟩
set_option maxRecDepth 20000 in
theorem k_1151 : (Jvm.Cond.code ({ cls := "PrunedSearchModel", name := "consult", desc := "()I" } : Jvm.MethodName) prog_13_method_23_code (6 : Nat) (Option.some Jvm.ClassFile.FieldType.int)) ∈ Wt := List.mem_filter.mpr ⟨t_in (t_in5 (List.mem_of_getElem? (i := 191) rfl)), rfl⟩
set_option maxRecDepth 20000 in
theorem k_1222 : (Jvm.Cond.methodLink "PrunedSearchLaw" (28 : Nat) ({ cls := "PrunedSearchModel", name := "ask", desc := "()I" } : Jvm.MethodName)) ∈ Wt := List.mem_filter.mpr ⟨t_in (t_in6 (List.mem_of_getElem? (i := 22) rfl)), rfl⟩
set_option maxRecDepth 20000 in
theorem k_1223 : (Jvm.Cond.instanceMethod ({ cls := "PrunedSearchModel", name := "ask", desc := "()I" } : Jvm.MethodName)) ∈ Wt := List.mem_filter.mpr ⟨t_in (t_in6 (List.mem_of_getElem? (i := 23) rfl)), rfl⟩
set_option maxRecDepth 20000 in
theorem k_1224 : (Jvm.Cond.selects "PrunedSearchModel" ({ cls := "PrunedSearchModel", name := "ask", desc := "()I" } : Jvm.MethodName) ({ cls := "PrunedSearchModel", name := "ask", desc := "()I" } : Jvm.MethodName)) ∈ Wt := List.mem_filter.mpr ⟨t_in (t_in6 (List.mem_of_getElem? (i := 24) rfl)), rfl⟩
set_option maxRecDepth 20000 in
theorem k_1225 : (Jvm.Cond.code ({ cls := "PrunedSearchModel", name := "ask", desc := "()I" } : Jvm.MethodName) prog_13_method_24_code (4 : Nat) (Option.some Jvm.ClassFile.FieldType.int)) ∈ Wt := List.mem_filter.mpr ⟨t_in (t_in6 (List.mem_of_getElem? (i := 25) rfl)), rfl⟩
set_option maxRecDepth 20000 in
theorem k_1238 : (Jvm.Cond.methodLink "PrunedSearchLaw" (33 : Nat) ({ cls := "PrunedSearchModel", name := "run", desc := "(I)I" } : Jvm.MethodName)) ∈ Wt := List.mem_filter.mpr ⟨t_in (t_in6 (List.mem_of_getElem? (i := 38) rfl)), rfl⟩
set_option maxRecDepth 20000 in
theorem k_1239 : (Jvm.Cond.instanceMethod ({ cls := "PrunedSearchModel", name := "run", desc := "(I)I" } : Jvm.MethodName)) ∈ Wt := List.mem_filter.mpr ⟨t_in (t_in6 (List.mem_of_getElem? (i := 39) rfl)), rfl⟩
set_option maxRecDepth 20000 in
theorem k_1240 : (Jvm.Cond.selects "PrunedSearchModel" ({ cls := "PrunedSearchModel", name := "run", desc := "(I)I" } : Jvm.MethodName) ({ cls := "PrunedSearchModel", name := "run", desc := "(I)I" } : Jvm.MethodName)) ∈ Wt := List.mem_filter.mpr ⟨t_in (t_in6 (List.mem_of_getElem? (i := 40) rfl)), rfl⟩
set_option maxRecDepth 20000 in
theorem k_1241 : (Jvm.Cond.code ({ cls := "PrunedSearchModel", name := "run", desc := "(I)I" } : Jvm.MethodName) prog_13_method_45_code (3 : Nat) (Option.some Jvm.ClassFile.FieldType.int)) ∈ Wt := List.mem_filter.mpr ⟨t_in (t_in6 (List.mem_of_getElem? (i := 41) rfl)), rfl⟩
set_option maxRecDepth 20000 in
theorem k_1312 : (Jvm.Cond.methodLink "PrunedSearchLaw" (38 : Nat) ({ cls := "PrunedSearchModel", name := "answer", desc := "(II)C" } : Jvm.MethodName)) ∈ Wt := List.mem_filter.mpr ⟨t_in (t_in6 (List.mem_of_getElem? (i := 112) rfl)), rfl⟩
set_option maxRecDepth 20000 in
theorem k_1313 : (Jvm.Cond.instanceMethod ({ cls := "PrunedSearchModel", name := "answer", desc := "(II)C" } : Jvm.MethodName)) ∈ Wt := List.mem_filter.mpr ⟨t_in (t_in6 (List.mem_of_getElem? (i := 113) rfl)), rfl⟩
set_option maxRecDepth 20000 in
theorem k_1314 : (Jvm.Cond.selects "PrunedSearchModel" ({ cls := "PrunedSearchModel", name := "answer", desc := "(II)C" } : Jvm.MethodName) ({ cls := "PrunedSearchModel", name := "answer", desc := "(II)C" } : Jvm.MethodName)) ∈ Wt := List.mem_filter.mpr ⟨t_in (t_in6 (List.mem_of_getElem? (i := 114) rfl)), rfl⟩
set_option maxRecDepth 20000 in
theorem k_1315 : (Jvm.Cond.code ({ cls := "PrunedSearchModel", name := "answer", desc := "(II)C" } : Jvm.MethodName) prog_13_method_53_code (4 : Nat) (Option.some Jvm.ClassFile.FieldType.char)) ∈ Wt := List.mem_filter.mpr ⟨t_in (t_in6 (List.mem_of_getElem? (i := 115) rfl)), rfl⟩
set_option maxRecDepth 20000 in
theorem k_1344 : (Jvm.Cond.methodLink "PrunedSearchLaw" (42 : Nat) ({ cls := "PrunedSearchModel", name := "clauses", desc := "()I" } : Jvm.MethodName)) ∈ Wt := List.mem_filter.mpr ⟨t_in (t_in6 (List.mem_of_getElem? (i := 144) rfl)), rfl⟩
set_option maxRecDepth 20000 in
theorem k_1345 : (Jvm.Cond.instanceMethod ({ cls := "PrunedSearchModel", name := "clauses", desc := "()I" } : Jvm.MethodName)) ∈ Wt := List.mem_filter.mpr ⟨t_in (t_in6 (List.mem_of_getElem? (i := 145) rfl)), rfl⟩
set_option maxRecDepth 20000 in
theorem k_1346 : (Jvm.Cond.selects "PrunedSearchModel" ({ cls := "PrunedSearchModel", name := "clauses", desc := "()I" } : Jvm.MethodName) ({ cls := "PrunedSearchModel", name := "clauses", desc := "()I" } : Jvm.MethodName)) ∈ Wt := List.mem_filter.mpr ⟨t_in (t_in6 (List.mem_of_getElem? (i := 146) rfl)), rfl⟩
set_option maxRecDepth 20000 in
theorem k_1347 : (Jvm.Cond.code ({ cls := "PrunedSearchModel", name := "clauses", desc := "()I" } : Jvm.MethodName) prog_13_method_54_code (1 : Nat) (Option.some Jvm.ClassFile.FieldType.int)) ∈ Wt := List.mem_filter.mpr ⟨t_in (t_in6 (List.mem_of_getElem? (i := 147) rfl)), rfl⟩
set_option maxRecDepth 20000 in
theorem k_1348 : (Jvm.Cond.methodLink "PrunedSearchLaw" (46 : Nat) ({ cls := "PrunedSearchModel", name := "tries", desc := "()I" } : Jvm.MethodName)) ∈ Wt := List.mem_filter.mpr ⟨t_in (t_in6 (List.mem_of_getElem? (i := 148) rfl)), rfl⟩
set_option maxRecDepth 20000 in
theorem k_1349 : (Jvm.Cond.instanceMethod ({ cls := "PrunedSearchModel", name := "tries", desc := "()I" } : Jvm.MethodName)) ∈ Wt := List.mem_filter.mpr ⟨t_in (t_in6 (List.mem_of_getElem? (i := 149) rfl)), rfl⟩
set_option maxRecDepth 20000 in
theorem k_1350 : (Jvm.Cond.selects "PrunedSearchModel" ({ cls := "PrunedSearchModel", name := "tries", desc := "()I" } : Jvm.MethodName) ({ cls := "PrunedSearchModel", name := "tries", desc := "()I" } : Jvm.MethodName)) ∈ Wt := List.mem_filter.mpr ⟨t_in (t_in6 (List.mem_of_getElem? (i := 150) rfl)), rfl⟩
set_option maxRecDepth 20000 in
theorem k_1351 : (Jvm.Cond.code ({ cls := "PrunedSearchModel", name := "tries", desc := "()I" } : Jvm.MethodName) prog_13_method_55_code (1 : Nat) (Option.some Jvm.ClassFile.FieldType.int)) ∈ Wt := List.mem_filter.mpr ⟨t_in (t_in6 (List.mem_of_getElem? (i := 151) rfl)), rfl⟩
set_option maxRecDepth 20000 in
theorem k_1352 : (Jvm.Cond.methodLink "PrunedSearchLaw" (50 : Nat) ({ cls := "PrunedSearchModel", name := "choices", desc := "()I" } : Jvm.MethodName)) ∈ Wt := List.mem_filter.mpr ⟨t_in (t_in6 (List.mem_of_getElem? (i := 152) rfl)), rfl⟩
set_option maxRecDepth 20000 in
theorem k_1353 : (Jvm.Cond.instanceMethod ({ cls := "PrunedSearchModel", name := "choices", desc := "()I" } : Jvm.MethodName)) ∈ Wt := List.mem_filter.mpr ⟨t_in (t_in6 (List.mem_of_getElem? (i := 153) rfl)), rfl⟩
set_option maxRecDepth 20000 in
theorem k_1354 : (Jvm.Cond.selects "PrunedSearchModel" ({ cls := "PrunedSearchModel", name := "choices", desc := "()I" } : Jvm.MethodName) ({ cls := "PrunedSearchModel", name := "choices", desc := "()I" } : Jvm.MethodName)) ∈ Wt := List.mem_filter.mpr ⟨t_in (t_in6 (List.mem_of_getElem? (i := 154) rfl)), rfl⟩
set_option maxRecDepth 20000 in
theorem k_1355 : (Jvm.Cond.code ({ cls := "PrunedSearchModel", name := "choices", desc := "()I" } : Jvm.MethodName) prog_13_method_56_code (1 : Nat) (Option.some Jvm.ClassFile.FieldType.int)) ∈ Wt := List.mem_filter.mpr ⟨t_in (t_in6 (List.mem_of_getElem? (i := 155) rfl)), rfl⟩
set_option maxRecDepth 20000 in
theorem k_1356 : (Jvm.Cond.methodLink "PrunedSearchLaw" (54 : Nat) ({ cls := "PrunedSearchModel", name := "length", desc := "()I" } : Jvm.MethodName)) ∈ Wt := List.mem_filter.mpr ⟨t_in (t_in6 (List.mem_of_getElem? (i := 156) rfl)), rfl⟩
set_option maxRecDepth 20000 in
theorem k_1357 : (Jvm.Cond.instanceMethod ({ cls := "PrunedSearchModel", name := "length", desc := "()I" } : Jvm.MethodName)) ∈ Wt := List.mem_filter.mpr ⟨t_in (t_in6 (List.mem_of_getElem? (i := 157) rfl)), rfl⟩
set_option maxRecDepth 20000 in
theorem k_1358 : (Jvm.Cond.selects "PrunedSearchModel" ({ cls := "PrunedSearchModel", name := "length", desc := "()I" } : Jvm.MethodName) ({ cls := "PrunedSearchModel", name := "length", desc := "()I" } : Jvm.MethodName)) ∈ Wt := List.mem_filter.mpr ⟨t_in (t_in6 (List.mem_of_getElem? (i := 158) rfl)), rfl⟩
set_option maxRecDepth 20000 in
theorem k_1359 : (Jvm.Cond.code ({ cls := "PrunedSearchModel", name := "length", desc := "()I" } : Jvm.MethodName) prog_13_method_57_code (1 : Nat) (Option.some Jvm.ClassFile.FieldType.int)) ∈ Wt := List.mem_filter.mpr ⟨t_in (t_in6 (List.mem_of_getElem? (i := 159) rfl)), rfl⟩
set_option maxRecDepth 20000 in
theorem k_1360 : (Jvm.Cond.methodLink "PrunedSearchLaw" (58 : Nat) ({ cls := "PrunedSearchModel", name := "goals", desc := "()I" } : Jvm.MethodName)) ∈ Wt := List.mem_filter.mpr ⟨t_in (t_in6 (List.mem_of_getElem? (i := 160) rfl)), rfl⟩
set_option maxRecDepth 20000 in
theorem k_1361 : (Jvm.Cond.instanceMethod ({ cls := "PrunedSearchModel", name := "goals", desc := "()I" } : Jvm.MethodName)) ∈ Wt := List.mem_filter.mpr ⟨t_in (t_in6 (List.mem_of_getElem? (i := 161) rfl)), rfl⟩
set_option maxRecDepth 20000 in
theorem k_1362 : (Jvm.Cond.selects "PrunedSearchModel" ({ cls := "PrunedSearchModel", name := "goals", desc := "()I" } : Jvm.MethodName) ({ cls := "PrunedSearchModel", name := "goals", desc := "()I" } : Jvm.MethodName)) ∈ Wt := List.mem_filter.mpr ⟨t_in (t_in6 (List.mem_of_getElem? (i := 162) rfl)), rfl⟩
set_option maxRecDepth 20000 in
theorem k_1363 : (Jvm.Cond.code ({ cls := "PrunedSearchModel", name := "goals", desc := "()I" } : Jvm.MethodName) prog_13_method_58_code (1 : Nat) (Option.some Jvm.ClassFile.FieldType.int)) ∈ Wt := List.mem_filter.mpr ⟨t_in (t_in6 (List.mem_of_getElem? (i := 163) rfl)), rfl⟩
set_option maxRecDepth 20000 in
theorem k_1364 : (Jvm.Cond.methodLink "PrunedSearchLaw" (62 : Nat) ({ cls := "PrunedSearchModel", name := "forget", desc := "()V" } : Jvm.MethodName)) ∈ Wt := List.mem_filter.mpr ⟨t_in (t_in6 (List.mem_of_getElem? (i := 164) rfl)), rfl⟩
set_option maxRecDepth 20000 in
theorem k_1365 : (Jvm.Cond.instanceMethod ({ cls := "PrunedSearchModel", name := "forget", desc := "()V" } : Jvm.MethodName)) ∈ Wt := List.mem_filter.mpr ⟨t_in (t_in6 (List.mem_of_getElem? (i := 165) rfl)), rfl⟩
set_option maxRecDepth 20000 in
theorem k_1366 : (Jvm.Cond.selects "PrunedSearchModel" ({ cls := "PrunedSearchModel", name := "forget", desc := "()V" } : Jvm.MethodName) ({ cls := "PrunedSearchModel", name := "forget", desc := "()V" } : Jvm.MethodName)) ∈ Wt := List.mem_filter.mpr ⟨t_in (t_in6 (List.mem_of_getElem? (i := 166) rfl)), rfl⟩
set_option maxRecDepth 20000 in
theorem k_1367 : (Jvm.Cond.code ({ cls := "PrunedSearchModel", name := "forget", desc := "()V" } : Jvm.MethodName) prog_13_method_59_code (1 : Nat) (Option.none : Option Jvm.ClassFile.FieldType)) ∈ Wt := List.mem_filter.mpr ⟨t_in (t_in6 (List.mem_of_getElem? (i := 167) rfl)), rfl⟩
set_option maxRecDepth 20000 in
theorem k_1368 : (Jvm.Cond.constantLong "PrunedSearchLaw" (13 : Nat) (4294967295 : Int64)) ∈ Wt := List.mem_filter.mpr ⟨t_in (t_in6 (List.mem_of_getElem? (i := 168) rfl)), rfl⟩
def J_skip (Rl : Nat → Ob → Ob → Ob → Ob → Ob → Ob → Ob → Ob → Ob → Ob → Ob → Ob → Prop) : Prop := ∀ (i : Nat) (o0 o1 o2 o3 o4 o5 o6 o7 o8 o9 o10 m : Ob), Rl i o0 o1 o2 o3 o4 o5 o6 o7 o8 o9 o10 m → Rl (i + 1) o0 o1 o2 o3 o4 o5 o6 o7 o8 o9 o10 m
def J_type (Rl : Nat → Ob → Ob → Ob → Ob → Ob → Ob → Ob → Ob → Ob → Ob → Ob → Ob → Prop) : Prop := ∀ (i : Nat) (o0 o1 o2 o3 o4 o5 o6 o7 o8 o9 o10 m : Ob) (y : Nat), i < 512 → Rl i o0 o1 o2 o3 o4 o5 o6 o7 o8 o9 o10 m → y < 18446744073709551616 → wp_P_type y o0 (fun r o0' => wp_M_type y m (fun r' m' => r = r' ∧ Rl (i + 1) o0' o1 o2 o3 o4 o5 o6 o7 o8 o9 o10 m'))
def J_consult (Rl : Nat → Ob → Ob → Ob → Ob → Ob → Ob → Ob → Ob → Ob → Ob → Ob → Ob → Prop) : Prop := ∀ (i : Nat) (o0 o1 o2 o3 o4 o5 o6 o7 o8 o9 o10 m : Ob) , i < 512 → Rl i o0 o1 o2 o3 o4 o5 o6 o7 o8 o9 o10 m → wp_P_consult  o0 o1 o2 o3 o4 o5 o6 o7 o8 o9 o10 (fun r o0' o1' o2' o3' o4' o5' o6' o7' o8' o9' o10' => wp_M_consult  m (fun r' m' => r = r' ∧ Rl (i + 1) o0' o1' o2' o3' o4' o5' o6' o7' o8' o9' o10' m'))
def J_ask (Rl : Nat → Ob → Ob → Ob → Ob → Ob → Ob → Ob → Ob → Ob → Ob → Ob → Ob → Prop) : Prop := ∀ (i : Nat) (o0 o1 o2 o3 o4 o5 o6 o7 o8 o9 o10 m : Ob) , i < 512 → Rl i o0 o1 o2 o3 o4 o5 o6 o7 o8 o9 o10 m → wp_P_ask  o0 o1 o2 o4 o5 o6 o7 o8 o9 o10 (fun r o0' o1' o2' o4' o5' o6' o7' o8' o9' o10' => wp_M_ask  m (fun r' m' => r = r' ∧ Rl (i + 1) o0' o1' o2' o3 o4' o5' o6' o7' o8' o9' o10' m'))
def J_run (Rl : Nat → Ob → Ob → Ob → Ob → Ob → Ob → Ob → Ob → Ob → Ob → Ob → Ob → Prop) : Prop := ∀ (i : Nat) (o0 o1 o2 o3 o4 o5 o6 o7 o8 o9 o10 m : Ob) (x : Int), i < 512 → Rl i o0 o1 o2 o3 o4 o5 o6 o7 o8 o9 o10 m → R32 x → wp_P_run x o2 o3 o6 o7 o8 o9 o10 (fun r o6' o7' o8' o9' o10' => wp_M_run x m (fun r' m' => r = r' ∧ Rl (i + 1) o0 o1 o2 o3 o4 o5 o6' o7' o8' o9' o10' m'))
def J_answer (Rl : Nat → Ob → Ob → Ob → Ob → Ob → Ob → Ob → Ob → Ob → Ob → Ob → Ob → Prop) : Prop := ∀ (i : Nat) (o0 o1 o2 o3 o4 o5 o6 o7 o8 o9 o10 m : Ob) (x : Int) (z : Int), i < 512 → Rl i o0 o1 o2 o3 o4 o5 o6 o7 o8 o9 o10 m → R32 x → R32 z → wp_P_answer x z o2 o6 o9 o10 (fun r o10' => wp_M_answer x z m (fun r' m' => r = r' ∧ Rl (i + 1) o0 o1 o2 o3 o4 o5 o6 o7 o8 o9 o10' m'))
def J_clauses (Rl : Nat → Ob → Ob → Ob → Ob → Ob → Ob → Ob → Ob → Ob → Ob → Ob → Ob → Prop) : Prop := ∀ (i : Nat) (o0 o1 o2 o3 o4 o5 o6 o7 o8 o9 o10 m : Ob) , i < 512 → Rl i o0 o1 o2 o3 o4 o5 o6 o7 o8 o9 o10 m → wp_P_clauses  o3 (fun r => wp_M_clauses  m (fun r' => r = r' ∧ Rl (i + 1) o0 o1 o2 o3 o4 o5 o6 o7 o8 o9 o10 m))
def J_tries (Rl : Nat → Ob → Ob → Ob → Ob → Ob → Ob → Ob → Ob → Ob → Ob → Ob → Ob → Prop) : Prop := ∀ (i : Nat) (o0 o1 o2 o3 o4 o5 o6 o7 o8 o9 o10 m : Ob) , i < 512 → Rl i o0 o1 o2 o3 o4 o5 o6 o7 o8 o9 o10 m → wp_P_tries  o9 (fun r => wp_M_tries  m (fun r' => r = r' ∧ Rl (i + 1) o0 o1 o2 o3 o4 o5 o6 o7 o8 o9 o10 m))
def J_choices (Rl : Nat → Ob → Ob → Ob → Ob → Ob → Ob → Ob → Ob → Ob → Ob → Ob → Ob → Prop) : Prop := ∀ (i : Nat) (o0 o1 o2 o3 o4 o5 o6 o7 o8 o9 o10 m : Ob) , i < 512 → Rl i o0 o1 o2 o3 o4 o5 o6 o7 o8 o9 o10 m → wp_P_choices  o8 (fun r => wp_M_choices  m (fun r' => r = r' ∧ Rl (i + 1) o0 o1 o2 o3 o4 o5 o6 o7 o8 o9 o10 m))
def J_length (Rl : Nat → Ob → Ob → Ob → Ob → Ob → Ob → Ob → Ob → Ob → Ob → Ob → Ob → Prop) : Prop := ∀ (i : Nat) (o0 o1 o2 o3 o4 o5 o6 o7 o8 o9 o10 m : Ob) , i < 512 → Rl i o0 o1 o2 o3 o4 o5 o6 o7 o8 o9 o10 m → wp_P_length  o9 (fun r => wp_M_length  m (fun r' => r = r' ∧ Rl (i + 1) o0 o1 o2 o3 o4 o5 o6 o7 o8 o9 o10 m))
def J_goals (Rl : Nat → Ob → Ob → Ob → Ob → Ob → Ob → Ob → Ob → Ob → Ob → Ob → Ob → Prop) : Prop := ∀ (i : Nat) (o0 o1 o2 o3 o4 o5 o6 o7 o8 o9 o10 m : Ob) , i < 512 → Rl i o0 o1 o2 o3 o4 o5 o6 o7 o8 o9 o10 m → wp_P_goals  o7 o9 (fun r => wp_M_goals  m (fun r' => r = r' ∧ Rl (i + 1) o0 o1 o2 o3 o4 o5 o6 o7 o8 o9 o10 m))
def J_forget (Rl : Nat → Ob → Ob → Ob → Ob → Ob → Ob → Ob → Ob → Ob → Ob → Ob → Ob → Prop) : Prop := ∀ (i : Nat) (o0 o1 o2 o3 o4 o5 o6 o7 o8 o9 o10 m : Ob) , i < 512 → Rl i o0 o1 o2 o3 o4 o5 o6 o7 o8 o9 o10 m → wp_P_forget  o2 o3 o6 o7 o8 o9 o10 (fun o2' o3' o6' o7' o8' o9' o10' => wp_M_forget  m (fun m' => Rl (i + 1) o0 o1 o2' o3' o4 o5 o6' o7' o8' o9' o10' m'))
def J_all (Rl : Nat → Ob → Ob → Ob → Ob → Ob → Ob → Ob → Ob → Ob → Ob → Ob → Ob → Prop) : Prop := J_skip Rl ∧ J_type Rl ∧ J_consult Rl ∧ J_ask Rl ∧ J_run Rl ∧ J_answer Rl ∧ J_clauses Rl ∧ J_tries Rl ∧ J_choices Rl ∧ J_length Rl ∧ J_goals Rl ∧ J_forget Rl
section LOOP
variable {p : Program} {l : Launch} {e : Env} {s : State} {m0 : MethodId} {b L : Nat} {X : Nat → Int} {below : List Frame} {meth : Method} {c : Code} {dC : Nat → ClassId} {dI : Nat → Nat → Nat} {ad1 ad2 : Nat → Nat} {cA : Nat → ClassId}
abbrev lvL (b : Nat) (ad1 ad2 : Nat → Nat) (k : Nat) : List (Nat × Value) := [(0, .ref b), (1, .ref (ad1 0)), (2, .ref (ad2 0)), (3, .int (Int32.ofInt (3 * (k : Int))))]
/-- script[i + j], by five instructions -/
theorem lw_ld {H : Heap} {locs : List Loc} {k : Nat} {ls : Array Slot} {st : List Value} {pc : Nat} {Q : State → Prop} (j : Int) (hj : 0 ≤ j ∧ j ≤ 2) (hx : p.tables.exec = Jvm.exec) (hb : c.code = code) (hX : va_X b L (fun j => Int32.ofInt (X j)) s s.heap) (hbl : b < s.heap.size) (hL : L ≤ 1536) (hk : 3 * k + 2 < L) (hS : va_S (fun q => s.heap.size ≤ q) s.heap H locs) (hl : lv_has ls 4 (lvL b ad1 ad2 k))
    (h1 : decode code pc = .ok (.aload_n 0, 1)) (h2 : decode code (pc + 1) = .ok (.iload_n 3, 1)) (h3 : decode code (pc + 2) = .ok (.iconst j, 1)) (h4 : decode code (pc + 3) = .ok (.iadd, 1)) (h5 : decode code (pc + 4) = .ok (.iaload, 1))
    (kk : W p l e room_1 s m0 #[Value.ref b] below meth c H locs 600000 7302250 Q (F0 m0 (pc + 5) ls (.int (Int32.ofInt (X (3 * k + j.toNat))) :: st))) : W p l e room_1 s m0 #[Value.ref b] below meth c H locs 600000 7302250 Q (F0 m0 pc ls st) := by
  have hbA : ¬ (fun q : Nat => s.heap.size ≤ q) b := Nat.not_le.mpr hbl
  refine lv_aload_n hx hb h1 rfl (lv_at hl 0 rfl) ?_
  refine lv_iload_n hx hb h2 rfl (lv_at hl 3 rfl) ?_
  refine lv_iconst (v := Int32.ofInt j) hx hb h3 rfl ?_
  refine lv_iadd hx hb h4 ?_
  rw [← oi_add]
  have hr : R32 (3 * (k : Int) + j) := ⟨by omega, by omega⟩
  refine va_sld hx hb hX hbl hbA hS (oi_in hr (by omega) (by omega)) h5 ?_
  have e : (Int32.ofInt (3 * (k : Int) + j)).toNatClampNeg = 3 * k + j.toNat := by rw [oi_clamp hr (by omega)]; omega
  rw [e]
  exact kk
theorem pdl_1_type : (⟨"PrunedSearch", "type", "(J)Z"⟩ : MethodName).cls ≠ "java/lang/invoke/MethodHandle" ∧ (⟨"PrunedSearch", "type", "(J)Z"⟩ : MethodName).cls ≠ "java/lang/invoke/VarHandle" ∧ (parseMethodDescriptor (⟨"PrunedSearch", "type", "(J)Z"⟩ : MethodName).desc).map (fun d => d.parameters.length) = some 1 := by decide +kernel
theorem pdl_2_type : (⟨"PrunedSearchModel", "type", "(J)Z"⟩ : MethodName).cls ≠ "java/lang/invoke/MethodHandle" ∧ (⟨"PrunedSearchModel", "type", "(J)Z"⟩ : MethodName).cls ≠ "java/lang/invoke/VarHandle" ∧ (parseMethodDescriptor (⟨"PrunedSearchModel", "type", "(J)Z"⟩ : MethodName).desc).map (fun d => d.parameters.length) = some 1 := by decide +kernel
theorem lw_type {Rl : Nat → Ob → Ob → Ob → Ob → Ob → Ob → Ob → Ob → Ob → Ob → Ob → Ob → Prop} (hJ : J_all Rl) (hx : p.tables.exec = Jvm.exec) (hb : c.code = code) (hml : c.maxLocals = 4) (hown : s.vm.findClass "PrunedSearchLaw" = some m0.cls) (hts : ∀ w ∈ Wt, w.before #[Value.ref b] s = true) (hX : va_X b L (fun j => Int32.ofInt (X j)) s s.heap) (hXr : ∀ j, R32 (X j)) (hbl : b < s.heap.size) (hL : L ≤ 1536) (hF : LF s dC dI ad1 ad2 cA) {k : Nat} (hk : 3 * k + 2 < L) {o0 o1 o2 o3 o4 o5 o6 o7 o8 o9 o10 m : Ob} (hR : Rl k o0 o1 o2 o3 o4 o5 o6 o7 o8 o9 o10 m)
    (back : ∀ (o0 o1 o2 o3 o4 o5 o6 o7 o8 o9 o10 m : Ob), Rl (k + 1) o0 o1 o2 o3 o4 o5 o6 o7 o8 o9 o10 m → LV p l e s m0 b below meth c dC dI ad1 ad2 cA 303 (lvL b ad1 ad2 k) [] (shC o0 o1 o2 o3 o4 o5 o6 o7 o8 o9 o10) (shM m)) : LV p l e s m0 b below meth c dC dI ad1 ad2 cA 92 (lvL b ad1 ad2 k) [] (shC o0 o1 o2 o3 o4 o5 o6 o7 o8 o9 o10) (shM m) := by
  intro H locs D ls hl
  obtain ⟨y, hy, ey⟩ := wb_of (((Int32.ofInt (X (3 * k + 1))).toInt64 <<< ((Int32.ofInt 32).toInt64 &&& 63)) ||| ((Int32.ofInt (X (3 * k + 2))).toInt64 &&& 4294967295))
  have hw := hJ.2.1 k o0 o1 o2 o3 o4 o5 o6 o7 o8 o9 o10 m y (by omega) hR hy
  refine lv_aload_n hx hb dl_92 rfl (lv_at hl 1 rfl) ?_
  refine lw_ld (X := X) 1 ⟨by decide, by decide⟩ hx hb hX hbl hL hk D.2.2.1 hl dl_93 dl_94 dl_95 dl_96 dl_97 ?_
  refine lv_i2l hx hb dl_98 rfl ?_
  refine lv_bipush (v := Int32.ofInt 32) hx hb dl_99 (by decide +kernel) ?_
  refine lv_lshl hx hb dl_101 rfl ?_
  refine lw_ld (X := X) 2 ⟨by decide, by decide⟩ hx hb hX hbl hL hk D.2.2.1 hl dl_102 dl_103 dl_104 dl_105 dl_106 ?_
  refine lv_i2l hx hb dl_107 rfl ?_
  refine lv_ldc2 (v := 4294967295) hx hb hown (hts _ k_1368) dl_108 ?_
  refine lv_land hx hb dl_111 ?_
  refine lv_lor hx hb dl_112 ?_
  have ey' := ey
  simp only [show (1 : Int).toNat = 1 from rfl, show (2 : Int).toNat = 2 from rfl]
  rw [ey]
  refine LC1 (as := [vL y]) (rest := []) ⟨hx, hb, hml, hown, hts⟩ hF dl_113 k_335 k_336 k_337 k_1 k_338 rfl rfl pdl_1_type ⟨by decide, by decide, Nat.le_of_ble_eq_true rfl⟩ (oks_c (v := vL y) hy (fun _ h => by cases h)) rfl (ct_P_type hw (fun r o0' hw => ?_)) H locs D ls hl
  intro H locs D ls hl
  refine lv_aload_n hx hb dl_116 rfl (lv_at hl 2 rfl) ?_
  refine lw_ld (X := X) 1 ⟨by decide, by decide⟩ hx hb hX hbl hL hk D.2.2.1 hl dl_117 dl_118 dl_119 dl_120 dl_121 ?_
  refine lv_i2l hx hb dl_122 rfl ?_
  refine lv_bipush (v := Int32.ofInt 32) hx hb dl_123 (by decide +kernel) ?_
  refine lv_lshl hx hb dl_125 rfl ?_
  refine lw_ld (X := X) 2 ⟨by decide, by decide⟩ hx hb hX hbl hL hk D.2.2.1 hl dl_126 dl_127 dl_128 dl_129 dl_130 ?_
  refine lv_i2l hx hb dl_131 rfl ?_
  refine lv_ldc2 (v := 4294967295) hx hb hown (hts _ k_1368) dl_132 ?_
  refine lv_land hx hb dl_135 ?_
  refine lv_lor hx hb dl_136 ?_
  have ey' := ey
  simp only [show (1 : Int).toNat = 1 from rfl, show (2 : Int).toNat = 2 from rfl]
  rw [ey]
  refine LC2 (as := [vL y]) (rest := [.int (Int32.ofInt r)]) ⟨hx, hb, hml, hown, hts⟩ hF dl_137 k_1134 k_1135 k_1136 k_12 k_1137 rfl rfl pdl_2_type ⟨by decide, by decide, Nat.le_of_ble_eq_true rfl⟩ (oks_c (v := vL y) hy (fun _ h => by cases h)) rfl (ct_M_type hw (fun r' m' hw => ?_)) H locs D ls hl
  intro H locs D ls hl
  obtain ⟨rfl, hR2⟩ := hw
  refine lv_icmp_eq (tgt := 303) hx hb dl_140 (by decide) (fun _ => ?_) (fun hc => absurd rfl hc)
  exact back _ _ _ _ _ _ _ _ _ _ _ _ hR2 H locs D ls hl
theorem pdl_1_consult : (⟨"PrunedSearch", "consult", "()I"⟩ : MethodName).cls ≠ "java/lang/invoke/MethodHandle" ∧ (⟨"PrunedSearch", "consult", "()I"⟩ : MethodName).cls ≠ "java/lang/invoke/VarHandle" ∧ (parseMethodDescriptor (⟨"PrunedSearch", "consult", "()I"⟩ : MethodName).desc).map (fun d => d.parameters.length) = some 0 := by decide +kernel
theorem pdl_2_consult : (⟨"PrunedSearchModel", "consult", "()I"⟩ : MethodName).cls ≠ "java/lang/invoke/MethodHandle" ∧ (⟨"PrunedSearchModel", "consult", "()I"⟩ : MethodName).cls ≠ "java/lang/invoke/VarHandle" ∧ (parseMethodDescriptor (⟨"PrunedSearchModel", "consult", "()I"⟩ : MethodName).desc).map (fun d => d.parameters.length) = some 0 := by decide +kernel
theorem lw_consult {Rl : Nat → Ob → Ob → Ob → Ob → Ob → Ob → Ob → Ob → Ob → Ob → Ob → Ob → Prop} (hJ : J_all Rl) (hx : p.tables.exec = Jvm.exec) (hb : c.code = code) (hml : c.maxLocals = 4) (hown : s.vm.findClass "PrunedSearchLaw" = some m0.cls) (hts : ∀ w ∈ Wt, w.before #[Value.ref b] s = true) (hX : va_X b L (fun j => Int32.ofInt (X j)) s s.heap) (hXr : ∀ j, R32 (X j)) (hbl : b < s.heap.size) (hL : L ≤ 1536) (hF : LF s dC dI ad1 ad2 cA) {k : Nat} (hk : 3 * k + 2 < L) {o0 o1 o2 o3 o4 o5 o6 o7 o8 o9 o10 m : Ob} (hR : Rl k o0 o1 o2 o3 o4 o5 o6 o7 o8 o9 o10 m)
    (back : ∀ (o0 o1 o2 o3 o4 o5 o6 o7 o8 o9 o10 m : Ob), Rl (k + 1) o0 o1 o2 o3 o4 o5 o6 o7 o8 o9 o10 m → LV p l e s m0 b below meth c dC dI ad1 ad2 cA 303 (lvL b ad1 ad2 k) [] (shC o0 o1 o2 o3 o4 o5 o6 o7 o8 o9 o10) (shM m)) : LV p l e s m0 b below meth c dC dI ad1 ad2 cA 145 (lvL b ad1 ad2 k) [] (shC o0 o1 o2 o3 o4 o5 o6 o7 o8 o9 o10) (shM m) := by
  intro H locs D ls hl
  have hw := hJ.2.2.1 k o0 o1 o2 o3 o4 o5 o6 o7 o8 o9 o10 m (by omega) hR
  refine lv_aload_n hx hb dl_145 rfl (lv_at hl 1 rfl) ?_
  refine LC1 (as := []) (rest := []) ⟨hx, hb, hml, hown, hts⟩ hF dl_146 k_441 k_442 k_443 k_1 k_444 rfl rfl pdl_1_consult ⟨by decide, by decide, Nat.le_of_ble_eq_true rfl⟩ (fun _ h => by cases h) rfl (ct_P_consult hw (fun r o0' o1' o2' o3' o4' o5' o6' o7' o8' o9' o10' hw => ?_)) H locs D ls hl
  intro H locs D ls hl
  refine lv_aload_n hx hb dl_149 rfl (lv_at hl 2 rfl) ?_
  refine LC2 (as := []) (rest := [.int (Int32.ofInt r)]) ⟨hx, hb, hml, hown, hts⟩ hF dl_150 k_1148 k_1149 k_1150 k_12 k_1151 rfl rfl pdl_2_consult ⟨by decide, by decide, Nat.le_of_ble_eq_true rfl⟩ (fun _ h => by cases h) rfl (ct_M_consult hw (fun r' m' hw => ?_)) H locs D ls hl
  intro H locs D ls hl
  obtain ⟨rfl, hR2⟩ := hw
  refine lv_icmp_eq (tgt := 303) hx hb dl_153 (by decide) (fun _ => ?_) (fun hc => absurd rfl hc)
  exact back _ _ _ _ _ _ _ _ _ _ _ _ hR2 H locs D ls hl
theorem pdl_1_ask : (⟨"PrunedSearch", "ask", "()I"⟩ : MethodName).cls ≠ "java/lang/invoke/MethodHandle" ∧ (⟨"PrunedSearch", "ask", "()I"⟩ : MethodName).cls ≠ "java/lang/invoke/VarHandle" ∧ (parseMethodDescriptor (⟨"PrunedSearch", "ask", "()I"⟩ : MethodName).desc).map (fun d => d.parameters.length) = some 0 := by decide +kernel
theorem pdl_2_ask : (⟨"PrunedSearchModel", "ask", "()I"⟩ : MethodName).cls ≠ "java/lang/invoke/MethodHandle" ∧ (⟨"PrunedSearchModel", "ask", "()I"⟩ : MethodName).cls ≠ "java/lang/invoke/VarHandle" ∧ (parseMethodDescriptor (⟨"PrunedSearchModel", "ask", "()I"⟩ : MethodName).desc).map (fun d => d.parameters.length) = some 0 := by decide +kernel
theorem lw_ask {Rl : Nat → Ob → Ob → Ob → Ob → Ob → Ob → Ob → Ob → Ob → Ob → Ob → Ob → Prop} (hJ : J_all Rl) (hx : p.tables.exec = Jvm.exec) (hb : c.code = code) (hml : c.maxLocals = 4) (hown : s.vm.findClass "PrunedSearchLaw" = some m0.cls) (hts : ∀ w ∈ Wt, w.before #[Value.ref b] s = true) (hX : va_X b L (fun j => Int32.ofInt (X j)) s s.heap) (hXr : ∀ j, R32 (X j)) (hbl : b < s.heap.size) (hL : L ≤ 1536) (hF : LF s dC dI ad1 ad2 cA) {k : Nat} (hk : 3 * k + 2 < L) {o0 o1 o2 o3 o4 o5 o6 o7 o8 o9 o10 m : Ob} (hR : Rl k o0 o1 o2 o3 o4 o5 o6 o7 o8 o9 o10 m)
    (back : ∀ (o0 o1 o2 o3 o4 o5 o6 o7 o8 o9 o10 m : Ob), Rl (k + 1) o0 o1 o2 o3 o4 o5 o6 o7 o8 o9 o10 m → LV p l e s m0 b below meth c dC dI ad1 ad2 cA 303 (lvL b ad1 ad2 k) [] (shC o0 o1 o2 o3 o4 o5 o6 o7 o8 o9 o10) (shM m)) : LV p l e s m0 b below meth c dC dI ad1 ad2 cA 158 (lvL b ad1 ad2 k) [] (shC o0 o1 o2 o3 o4 o5 o6 o7 o8 o9 o10) (shM m) := by
  intro H locs D ls hl
  have hw := hJ.2.2.2.1 k o0 o1 o2 o3 o4 o5 o6 o7 o8 o9 o10 m (by omega) hR
  refine lv_aload_n hx hb dl_158 rfl (lv_at hl 1 rfl) ?_
  refine LC1 (as := []) (rest := []) ⟨hx, hb, hml, hown, hts⟩ hF dl_159 k_638 k_639 k_640 k_1 k_641 rfl rfl pdl_1_ask ⟨by decide, by decide, Nat.le_of_ble_eq_true rfl⟩ (fun _ h => by cases h) rfl (ct_P_ask hw (fun r o0' o1' o2' o4' o5' o6' o7' o8' o9' o10' hw => ?_)) H locs D ls hl
  intro H locs D ls hl
  refine lv_aload_n hx hb dl_162 rfl (lv_at hl 2 rfl) ?_
  refine LC2 (as := []) (rest := [.int (Int32.ofInt r)]) ⟨hx, hb, hml, hown, hts⟩ hF dl_163 k_1222 k_1223 k_1224 k_12 k_1225 rfl rfl pdl_2_ask ⟨by decide, by decide, Nat.le_of_ble_eq_true rfl⟩ (fun _ h => by cases h) rfl (ct_M_ask hw (fun r' m' hw => ?_)) H locs D ls hl
  intro H locs D ls hl
  obtain ⟨rfl, hR2⟩ := hw
  refine lv_icmp_eq (tgt := 303) hx hb dl_166 (by decide) (fun _ => ?_) (fun hc => absurd rfl hc)
  exact back _ _ _ _ _ _ _ _ _ _ _ _ hR2 H locs D ls hl
theorem pdl_1_run : (⟨"PrunedSearch", "run", "(I)I"⟩ : MethodName).cls ≠ "java/lang/invoke/MethodHandle" ∧ (⟨"PrunedSearch", "run", "(I)I"⟩ : MethodName).cls ≠ "java/lang/invoke/VarHandle" ∧ (parseMethodDescriptor (⟨"PrunedSearch", "run", "(I)I"⟩ : MethodName).desc).map (fun d => d.parameters.length) = some 1 := by decide +kernel
theorem pdl_2_run : (⟨"PrunedSearchModel", "run", "(I)I"⟩ : MethodName).cls ≠ "java/lang/invoke/MethodHandle" ∧ (⟨"PrunedSearchModel", "run", "(I)I"⟩ : MethodName).cls ≠ "java/lang/invoke/VarHandle" ∧ (parseMethodDescriptor (⟨"PrunedSearchModel", "run", "(I)I"⟩ : MethodName).desc).map (fun d => d.parameters.length) = some 1 := by decide +kernel
theorem lw_run {Rl : Nat → Ob → Ob → Ob → Ob → Ob → Ob → Ob → Ob → Ob → Ob → Ob → Ob → Prop} (hJ : J_all Rl) (hx : p.tables.exec = Jvm.exec) (hb : c.code = code) (hml : c.maxLocals = 4) (hown : s.vm.findClass "PrunedSearchLaw" = some m0.cls) (hts : ∀ w ∈ Wt, w.before #[Value.ref b] s = true) (hX : va_X b L (fun j => Int32.ofInt (X j)) s s.heap) (hXr : ∀ j, R32 (X j)) (hbl : b < s.heap.size) (hL : L ≤ 1536) (hF : LF s dC dI ad1 ad2 cA) {k : Nat} (hk : 3 * k + 2 < L) {o0 o1 o2 o3 o4 o5 o6 o7 o8 o9 o10 m : Ob} (hR : Rl k o0 o1 o2 o3 o4 o5 o6 o7 o8 o9 o10 m)
    (back : ∀ (o0 o1 o2 o3 o4 o5 o6 o7 o8 o9 o10 m : Ob), Rl (k + 1) o0 o1 o2 o3 o4 o5 o6 o7 o8 o9 o10 m → LV p l e s m0 b below meth c dC dI ad1 ad2 cA 303 (lvL b ad1 ad2 k) [] (shC o0 o1 o2 o3 o4 o5 o6 o7 o8 o9 o10) (shM m)) : LV p l e s m0 b below meth c dC dI ad1 ad2 cA 171 (lvL b ad1 ad2 k) [] (shC o0 o1 o2 o3 o4 o5 o6 o7 o8 o9 o10) (shM m) := by
  intro H locs D ls hl
  have hw := hJ.2.2.2.2.1 k o0 o1 o2 o3 o4 o5 o6 o7 o8 o9 o10 m (X (3 * k + 1)) (by omega) hR (hXr _)
  refine lv_aload_n hx hb dl_171 rfl (lv_at hl 1 rfl) ?_
  refine lw_ld (X := X) 1 ⟨by decide, by decide⟩ hx hb hX hbl hL hk D.2.2.1 hl dl_172 dl_173 dl_174 dl_175 dl_176 ?_
  refine LC1 (as := [vI (X (3 * k + 1))]) (rest := []) ⟨hx, hb, hml, hown, hts⟩ hF dl_177 k_685 k_686 k_687 k_1 k_688 rfl rfl pdl_1_run ⟨by decide, by decide, Nat.le_of_ble_eq_true rfl⟩ (oks_c (v := vI (X (3 * k + 1))) (hXr _) (fun _ h => by cases h)) rfl (ct_P_run hw (fun r o6' o7' o8' o9' o10' hw => ?_)) H locs D ls hl
  intro H locs D ls hl
  refine lv_aload_n hx hb dl_180 rfl (lv_at hl 2 rfl) ?_
  refine lw_ld (X := X) 1 ⟨by decide, by decide⟩ hx hb hX hbl hL hk D.2.2.1 hl dl_181 dl_182 dl_183 dl_184 dl_185 ?_
  refine LC2 (as := [vI (X (3 * k + 1))]) (rest := [.int (Int32.ofInt r)]) ⟨hx, hb, hml, hown, hts⟩ hF dl_186 k_1238 k_1239 k_1240 k_12 k_1241 rfl rfl pdl_2_run ⟨by decide, by decide, Nat.le_of_ble_eq_true rfl⟩ (oks_c (v := vI (X (3 * k + 1))) (hXr _) (fun _ h => by cases h)) rfl (ct_M_run hw (fun r' m' hw => ?_)) H locs D ls hl
  intro H locs D ls hl
  obtain ⟨rfl, hR2⟩ := hw
  refine lv_icmp_eq (tgt := 303) hx hb dl_189 (by decide) (fun _ => ?_) (fun hc => absurd rfl hc)
  exact back _ _ _ _ _ _ _ _ _ _ _ _ hR2 H locs D ls hl
theorem pdl_1_answer : (⟨"PrunedSearch", "answer", "(II)C"⟩ : MethodName).cls ≠ "java/lang/invoke/MethodHandle" ∧ (⟨"PrunedSearch", "answer", "(II)C"⟩ : MethodName).cls ≠ "java/lang/invoke/VarHandle" ∧ (parseMethodDescriptor (⟨"PrunedSearch", "answer", "(II)C"⟩ : MethodName).desc).map (fun d => d.parameters.length) = some 2 := by decide +kernel
theorem pdl_2_answer : (⟨"PrunedSearchModel", "answer", "(II)C"⟩ : MethodName).cls ≠ "java/lang/invoke/MethodHandle" ∧ (⟨"PrunedSearchModel", "answer", "(II)C"⟩ : MethodName).cls ≠ "java/lang/invoke/VarHandle" ∧ (parseMethodDescriptor (⟨"PrunedSearchModel", "answer", "(II)C"⟩ : MethodName).desc).map (fun d => d.parameters.length) = some 2 := by decide +kernel
theorem lw_answer {Rl : Nat → Ob → Ob → Ob → Ob → Ob → Ob → Ob → Ob → Ob → Ob → Ob → Ob → Prop} (hJ : J_all Rl) (hx : p.tables.exec = Jvm.exec) (hb : c.code = code) (hml : c.maxLocals = 4) (hown : s.vm.findClass "PrunedSearchLaw" = some m0.cls) (hts : ∀ w ∈ Wt, w.before #[Value.ref b] s = true) (hX : va_X b L (fun j => Int32.ofInt (X j)) s s.heap) (hXr : ∀ j, R32 (X j)) (hbl : b < s.heap.size) (hL : L ≤ 1536) (hF : LF s dC dI ad1 ad2 cA) {k : Nat} (hk : 3 * k + 2 < L) {o0 o1 o2 o3 o4 o5 o6 o7 o8 o9 o10 m : Ob} (hR : Rl k o0 o1 o2 o3 o4 o5 o6 o7 o8 o9 o10 m)
    (back : ∀ (o0 o1 o2 o3 o4 o5 o6 o7 o8 o9 o10 m : Ob), Rl (k + 1) o0 o1 o2 o3 o4 o5 o6 o7 o8 o9 o10 m → LV p l e s m0 b below meth c dC dI ad1 ad2 cA 303 (lvL b ad1 ad2 k) [] (shC o0 o1 o2 o3 o4 o5 o6 o7 o8 o9 o10) (shM m)) : LV p l e s m0 b below meth c dC dI ad1 ad2 cA 194 (lvL b ad1 ad2 k) [] (shC o0 o1 o2 o3 o4 o5 o6 o7 o8 o9 o10) (shM m) := by
  intro H locs D ls hl
  have hw := hJ.2.2.2.2.2.1 k o0 o1 o2 o3 o4 o5 o6 o7 o8 o9 o10 m (X (3 * k + 1)) (X (3 * k + 2)) (by omega) hR (hXr _) (hXr _)
  refine lv_aload_n hx hb dl_194 rfl (lv_at hl 1 rfl) ?_
  refine lw_ld (X := X) 1 ⟨by decide, by decide⟩ hx hb hX hbl hL hk D.2.2.1 hl dl_195 dl_196 dl_197 dl_198 dl_199 ?_
  refine lw_ld (X := X) 2 ⟨by decide, by decide⟩ hx hb hX hbl hL hk D.2.2.1 hl dl_200 dl_201 dl_202 dl_203 dl_204 ?_
  refine LC1 (as := [vI (X (3 * k + 1)), vI (X (3 * k + 2))]) (rest := []) ⟨hx, hb, hml, hown, hts⟩ hF dl_205 k_845 k_846 k_847 k_1 k_848 rfl rfl pdl_1_answer ⟨by decide, by decide, Nat.le_of_ble_eq_true rfl⟩ (oks_c (v := vI (X (3 * k + 1))) (hXr _) (oks_c (v := vI (X (3 * k + 2))) (hXr _) (fun _ h => by cases h))) rfl (ct_P_answer hw (fun r o10' hw => ?_)) H locs D ls hl
  intro H locs D ls hl
  refine lv_aload_n hx hb dl_208 rfl (lv_at hl 2 rfl) ?_
  refine lw_ld (X := X) 1 ⟨by decide, by decide⟩ hx hb hX hbl hL hk D.2.2.1 hl dl_209 dl_210 dl_211 dl_212 dl_213 ?_
  refine lw_ld (X := X) 2 ⟨by decide, by decide⟩ hx hb hX hbl hL hk D.2.2.1 hl dl_214 dl_215 dl_216 dl_217 dl_218 ?_
  refine LC2 (as := [vI (X (3 * k + 1)), vI (X (3 * k + 2))]) (rest := [.int (Int32.ofInt r)]) ⟨hx, hb, hml, hown, hts⟩ hF dl_219 k_1312 k_1313 k_1314 k_12 k_1315 rfl rfl pdl_2_answer ⟨by decide, by decide, Nat.le_of_ble_eq_true rfl⟩ (oks_c (v := vI (X (3 * k + 1))) (hXr _) (oks_c (v := vI (X (3 * k + 2))) (hXr _) (fun _ h => by cases h))) rfl (ct_M_answer hw (fun r' m' hw => ?_)) H locs D ls hl
  intro H locs D ls hl
  obtain ⟨rfl, hR2⟩ := hw
  refine lv_icmp_eq (tgt := 303) hx hb dl_222 (by decide) (fun _ => ?_) (fun hc => absurd rfl hc)
  exact back _ _ _ _ _ _ _ _ _ _ _ _ hR2 H locs D ls hl
theorem pdl_1_clauses : (⟨"PrunedSearch", "clauses", "()I"⟩ : MethodName).cls ≠ "java/lang/invoke/MethodHandle" ∧ (⟨"PrunedSearch", "clauses", "()I"⟩ : MethodName).cls ≠ "java/lang/invoke/VarHandle" ∧ (parseMethodDescriptor (⟨"PrunedSearch", "clauses", "()I"⟩ : MethodName).desc).map (fun d => d.parameters.length) = some 0 := by decide +kernel
theorem pdl_2_clauses : (⟨"PrunedSearchModel", "clauses", "()I"⟩ : MethodName).cls ≠ "java/lang/invoke/MethodHandle" ∧ (⟨"PrunedSearchModel", "clauses", "()I"⟩ : MethodName).cls ≠ "java/lang/invoke/VarHandle" ∧ (parseMethodDescriptor (⟨"PrunedSearchModel", "clauses", "()I"⟩ : MethodName).desc).map (fun d => d.parameters.length) = some 0 := by decide +kernel
theorem lw_clauses {Rl : Nat → Ob → Ob → Ob → Ob → Ob → Ob → Ob → Ob → Ob → Ob → Ob → Ob → Prop} (hJ : J_all Rl) (hx : p.tables.exec = Jvm.exec) (hb : c.code = code) (hml : c.maxLocals = 4) (hown : s.vm.findClass "PrunedSearchLaw" = some m0.cls) (hts : ∀ w ∈ Wt, w.before #[Value.ref b] s = true) (hX : va_X b L (fun j => Int32.ofInt (X j)) s s.heap) (hXr : ∀ j, R32 (X j)) (hbl : b < s.heap.size) (hL : L ≤ 1536) (hF : LF s dC dI ad1 ad2 cA) {k : Nat} (hk : 3 * k + 2 < L) {o0 o1 o2 o3 o4 o5 o6 o7 o8 o9 o10 m : Ob} (hR : Rl k o0 o1 o2 o3 o4 o5 o6 o7 o8 o9 o10 m)
    (back : ∀ (o0 o1 o2 o3 o4 o5 o6 o7 o8 o9 o10 m : Ob), Rl (k + 1) o0 o1 o2 o3 o4 o5 o6 o7 o8 o9 o10 m → LV p l e s m0 b below meth c dC dI ad1 ad2 cA 303 (lvL b ad1 ad2 k) [] (shC o0 o1 o2 o3 o4 o5 o6 o7 o8 o9 o10) (shM m)) : LV p l e s m0 b below meth c dC dI ad1 ad2 cA 227 (lvL b ad1 ad2 k) [] (shC o0 o1 o2 o3 o4 o5 o6 o7 o8 o9 o10) (shM m) := by
  intro H locs D ls hl
  have hw := hJ.2.2.2.2.2.2.1 k o0 o1 o2 o3 o4 o5 o6 o7 o8 o9 o10 m (by omega) hR
  refine lv_aload_n hx hb dl_227 rfl (lv_at hl 1 rfl) ?_
  refine LC1 (as := []) (rest := []) ⟨hx, hb, hml, hown, hts⟩ hF dl_228 k_912 k_913 k_914 k_1 k_915 rfl rfl pdl_1_clauses ⟨by decide, by decide, Nat.le_of_ble_eq_true rfl⟩ (fun _ h => by cases h) rfl (ct_P_clauses hw (fun r hw => ?_)) H locs D ls hl
  intro H locs D ls hl
  refine lv_aload_n hx hb dl_231 rfl (lv_at hl 2 rfl) ?_
  refine LC2 (as := []) (rest := [.int (Int32.ofInt r)]) ⟨hx, hb, hml, hown, hts⟩ hF dl_232 k_1344 k_1345 k_1346 k_12 k_1347 rfl rfl pdl_2_clauses ⟨by decide, by decide, Nat.le_of_ble_eq_true rfl⟩ (fun _ h => by cases h) rfl (ct_M_clauses hw (fun r' hw => ?_)) H locs D ls hl
  intro H locs D ls hl
  obtain ⟨rfl, hR2⟩ := hw
  refine lv_icmp_eq (tgt := 303) hx hb dl_235 (by decide) (fun _ => ?_) (fun hc => absurd rfl hc)
  exact back _ _ _ _ _ _ _ _ _ _ _ _ hR2 H locs D ls hl
theorem pdl_1_tries : (⟨"PrunedSearch", "tries", "()I"⟩ : MethodName).cls ≠ "java/lang/invoke/MethodHandle" ∧ (⟨"PrunedSearch", "tries", "()I"⟩ : MethodName).cls ≠ "java/lang/invoke/VarHandle" ∧ (parseMethodDescriptor (⟨"PrunedSearch", "tries", "()I"⟩ : MethodName).desc).map (fun d => d.parameters.length) = some 0 := by decide +kernel
theorem pdl_2_tries : (⟨"PrunedSearchModel", "tries", "()I"⟩ : MethodName).cls ≠ "java/lang/invoke/MethodHandle" ∧ (⟨"PrunedSearchModel", "tries", "()I"⟩ : MethodName).cls ≠ "java/lang/invoke/VarHandle" ∧ (parseMethodDescriptor (⟨"PrunedSearchModel", "tries", "()I"⟩ : MethodName).desc).map (fun d => d.parameters.length) = some 0 := by decide +kernel
theorem lw_tries {Rl : Nat → Ob → Ob → Ob → Ob → Ob → Ob → Ob → Ob → Ob → Ob → Ob → Ob → Prop} (hJ : J_all Rl) (hx : p.tables.exec = Jvm.exec) (hb : c.code = code) (hml : c.maxLocals = 4) (hown : s.vm.findClass "PrunedSearchLaw" = some m0.cls) (hts : ∀ w ∈ Wt, w.before #[Value.ref b] s = true) (hX : va_X b L (fun j => Int32.ofInt (X j)) s s.heap) (hXr : ∀ j, R32 (X j)) (hbl : b < s.heap.size) (hL : L ≤ 1536) (hF : LF s dC dI ad1 ad2 cA) {k : Nat} (hk : 3 * k + 2 < L) {o0 o1 o2 o3 o4 o5 o6 o7 o8 o9 o10 m : Ob} (hR : Rl k o0 o1 o2 o3 o4 o5 o6 o7 o8 o9 o10 m)
    (back : ∀ (o0 o1 o2 o3 o4 o5 o6 o7 o8 o9 o10 m : Ob), Rl (k + 1) o0 o1 o2 o3 o4 o5 o6 o7 o8 o9 o10 m → LV p l e s m0 b below meth c dC dI ad1 ad2 cA 303 (lvL b ad1 ad2 k) [] (shC o0 o1 o2 o3 o4 o5 o6 o7 o8 o9 o10) (shM m)) : LV p l e s m0 b below meth c dC dI ad1 ad2 cA 240 (lvL b ad1 ad2 k) [] (shC o0 o1 o2 o3 o4 o5 o6 o7 o8 o9 o10) (shM m) := by
  intro H locs D ls hl
  have hw := hJ.2.2.2.2.2.2.2.1 k o0 o1 o2 o3 o4 o5 o6 o7 o8 o9 o10 m (by omega) hR
  refine lv_aload_n hx hb dl_240 rfl (lv_at hl 1 rfl) ?_
  refine LC1 (as := []) (rest := []) ⟨hx, hb, hml, hown, hts⟩ hF dl_241 k_916 k_917 k_918 k_1 k_919 rfl rfl pdl_1_tries ⟨by decide, by decide, Nat.le_of_ble_eq_true rfl⟩ (fun _ h => by cases h) rfl (ct_P_tries hw (fun r hw => ?_)) H locs D ls hl
  intro H locs D ls hl
  refine lv_aload_n hx hb dl_244 rfl (lv_at hl 2 rfl) ?_
  refine LC2 (as := []) (rest := [.int (Int32.ofInt r)]) ⟨hx, hb, hml, hown, hts⟩ hF dl_245 k_1348 k_1349 k_1350 k_12 k_1351 rfl rfl pdl_2_tries ⟨by decide, by decide, Nat.le_of_ble_eq_true rfl⟩ (fun _ h => by cases h) rfl (ct_M_tries hw (fun r' hw => ?_)) H locs D ls hl
  intro H locs D ls hl
  obtain ⟨rfl, hR2⟩ := hw
  refine lv_icmp_eq (tgt := 303) hx hb dl_248 (by decide) (fun _ => ?_) (fun hc => absurd rfl hc)
  exact back _ _ _ _ _ _ _ _ _ _ _ _ hR2 H locs D ls hl
theorem pdl_1_choices : (⟨"PrunedSearch", "choices", "()I"⟩ : MethodName).cls ≠ "java/lang/invoke/MethodHandle" ∧ (⟨"PrunedSearch", "choices", "()I"⟩ : MethodName).cls ≠ "java/lang/invoke/VarHandle" ∧ (parseMethodDescriptor (⟨"PrunedSearch", "choices", "()I"⟩ : MethodName).desc).map (fun d => d.parameters.length) = some 0 := by decide +kernel
theorem pdl_2_choices : (⟨"PrunedSearchModel", "choices", "()I"⟩ : MethodName).cls ≠ "java/lang/invoke/MethodHandle" ∧ (⟨"PrunedSearchModel", "choices", "()I"⟩ : MethodName).cls ≠ "java/lang/invoke/VarHandle" ∧ (parseMethodDescriptor (⟨"PrunedSearchModel", "choices", "()I"⟩ : MethodName).desc).map (fun d => d.parameters.length) = some 0 := by decide +kernel
theorem lw_choices {Rl : Nat → Ob → Ob → Ob → Ob → Ob → Ob → Ob → Ob → Ob → Ob → Ob → Ob → Prop} (hJ : J_all Rl) (hx : p.tables.exec = Jvm.exec) (hb : c.code = code) (hml : c.maxLocals = 4) (hown : s.vm.findClass "PrunedSearchLaw" = some m0.cls) (hts : ∀ w ∈ Wt, w.before #[Value.ref b] s = true) (hX : va_X b L (fun j => Int32.ofInt (X j)) s s.heap) (hXr : ∀ j, R32 (X j)) (hbl : b < s.heap.size) (hL : L ≤ 1536) (hF : LF s dC dI ad1 ad2 cA) {k : Nat} (hk : 3 * k + 2 < L) {o0 o1 o2 o3 o4 o5 o6 o7 o8 o9 o10 m : Ob} (hR : Rl k o0 o1 o2 o3 o4 o5 o6 o7 o8 o9 o10 m)
    (back : ∀ (o0 o1 o2 o3 o4 o5 o6 o7 o8 o9 o10 m : Ob), Rl (k + 1) o0 o1 o2 o3 o4 o5 o6 o7 o8 o9 o10 m → LV p l e s m0 b below meth c dC dI ad1 ad2 cA 303 (lvL b ad1 ad2 k) [] (shC o0 o1 o2 o3 o4 o5 o6 o7 o8 o9 o10) (shM m)) : LV p l e s m0 b below meth c dC dI ad1 ad2 cA 253 (lvL b ad1 ad2 k) [] (shC o0 o1 o2 o3 o4 o5 o6 o7 o8 o9 o10) (shM m) := by
  intro H locs D ls hl
  have hw := hJ.2.2.2.2.2.2.2.2.1 k o0 o1 o2 o3 o4 o5 o6 o7 o8 o9 o10 m (by omega) hR
  refine lv_aload_n hx hb dl_253 rfl (lv_at hl 1 rfl) ?_
  refine LC1 (as := []) (rest := []) ⟨hx, hb, hml, hown, hts⟩ hF dl_254 k_924 k_925 k_926 k_1 k_927 rfl rfl pdl_1_choices ⟨by decide, by decide, Nat.le_of_ble_eq_true rfl⟩ (fun _ h => by cases h) rfl (ct_P_choices hw (fun r hw => ?_)) H locs D ls hl
  intro H locs D ls hl
  refine lv_aload_n hx hb dl_257 rfl (lv_at hl 2 rfl) ?_
  refine LC2 (as := []) (rest := [.int (Int32.ofInt r)]) ⟨hx, hb, hml, hown, hts⟩ hF dl_258 k_1352 k_1353 k_1354 k_12 k_1355 rfl rfl pdl_2_choices ⟨by decide, by decide, Nat.le_of_ble_eq_true rfl⟩ (fun _ h => by cases h) rfl (ct_M_choices hw (fun r' hw => ?_)) H locs D ls hl
  intro H locs D ls hl
  obtain ⟨rfl, hR2⟩ := hw
  refine lv_icmp_eq (tgt := 303) hx hb dl_261 (by decide) (fun _ => ?_) (fun hc => absurd rfl hc)
  exact back _ _ _ _ _ _ _ _ _ _ _ _ hR2 H locs D ls hl
theorem pdl_1_length : (⟨"PrunedSearch", "length", "()I"⟩ : MethodName).cls ≠ "java/lang/invoke/MethodHandle" ∧ (⟨"PrunedSearch", "length", "()I"⟩ : MethodName).cls ≠ "java/lang/invoke/VarHandle" ∧ (parseMethodDescriptor (⟨"PrunedSearch", "length", "()I"⟩ : MethodName).desc).map (fun d => d.parameters.length) = some 0 := by decide +kernel
theorem pdl_2_length : (⟨"PrunedSearchModel", "length", "()I"⟩ : MethodName).cls ≠ "java/lang/invoke/MethodHandle" ∧ (⟨"PrunedSearchModel", "length", "()I"⟩ : MethodName).cls ≠ "java/lang/invoke/VarHandle" ∧ (parseMethodDescriptor (⟨"PrunedSearchModel", "length", "()I"⟩ : MethodName).desc).map (fun d => d.parameters.length) = some 0 := by decide +kernel
theorem lw_length {Rl : Nat → Ob → Ob → Ob → Ob → Ob → Ob → Ob → Ob → Ob → Ob → Ob → Ob → Prop} (hJ : J_all Rl) (hx : p.tables.exec = Jvm.exec) (hb : c.code = code) (hml : c.maxLocals = 4) (hown : s.vm.findClass "PrunedSearchLaw" = some m0.cls) (hts : ∀ w ∈ Wt, w.before #[Value.ref b] s = true) (hX : va_X b L (fun j => Int32.ofInt (X j)) s s.heap) (hXr : ∀ j, R32 (X j)) (hbl : b < s.heap.size) (hL : L ≤ 1536) (hF : LF s dC dI ad1 ad2 cA) {k : Nat} (hk : 3 * k + 2 < L) {o0 o1 o2 o3 o4 o5 o6 o7 o8 o9 o10 m : Ob} (hR : Rl k o0 o1 o2 o3 o4 o5 o6 o7 o8 o9 o10 m)
    (back : ∀ (o0 o1 o2 o3 o4 o5 o6 o7 o8 o9 o10 m : Ob), Rl (k + 1) o0 o1 o2 o3 o4 o5 o6 o7 o8 o9 o10 m → LV p l e s m0 b below meth c dC dI ad1 ad2 cA 303 (lvL b ad1 ad2 k) [] (shC o0 o1 o2 o3 o4 o5 o6 o7 o8 o9 o10) (shM m)) : LV p l e s m0 b below meth c dC dI ad1 ad2 cA 266 (lvL b ad1 ad2 k) [] (shC o0 o1 o2 o3 o4 o5 o6 o7 o8 o9 o10) (shM m) := by
  intro H locs D ls hl
  have hw := hJ.2.2.2.2.2.2.2.2.2.1 k o0 o1 o2 o3 o4 o5 o6 o7 o8 o9 o10 m (by omega) hR
  refine lv_aload_n hx hb dl_266 rfl (lv_at hl 1 rfl) ?_
  refine LC1 (as := []) (rest := []) ⟨hx, hb, hml, hown, hts⟩ hF dl_267 k_932 k_933 k_934 k_1 k_935 rfl rfl pdl_1_length ⟨by decide, by decide, Nat.le_of_ble_eq_true rfl⟩ (fun _ h => by cases h) rfl (ct_P_length hw (fun r hw => ?_)) H locs D ls hl
  intro H locs D ls hl
  refine lv_aload_n hx hb dl_270 rfl (lv_at hl 2 rfl) ?_
  refine LC2 (as := []) (rest := [.int (Int32.ofInt r)]) ⟨hx, hb, hml, hown, hts⟩ hF dl_271 k_1356 k_1357 k_1358 k_12 k_1359 rfl rfl pdl_2_length ⟨by decide, by decide, Nat.le_of_ble_eq_true rfl⟩ (fun _ h => by cases h) rfl (ct_M_length hw (fun r' hw => ?_)) H locs D ls hl
  intro H locs D ls hl
  obtain ⟨rfl, hR2⟩ := hw
  refine lv_icmp_eq (tgt := 303) hx hb dl_274 (by decide) (fun _ => ?_) (fun hc => absurd rfl hc)
  exact back _ _ _ _ _ _ _ _ _ _ _ _ hR2 H locs D ls hl
theorem pdl_1_goals : (⟨"PrunedSearch", "goals", "()I"⟩ : MethodName).cls ≠ "java/lang/invoke/MethodHandle" ∧ (⟨"PrunedSearch", "goals", "()I"⟩ : MethodName).cls ≠ "java/lang/invoke/VarHandle" ∧ (parseMethodDescriptor (⟨"PrunedSearch", "goals", "()I"⟩ : MethodName).desc).map (fun d => d.parameters.length) = some 0 := by decide +kernel
theorem pdl_2_goals : (⟨"PrunedSearchModel", "goals", "()I"⟩ : MethodName).cls ≠ "java/lang/invoke/MethodHandle" ∧ (⟨"PrunedSearchModel", "goals", "()I"⟩ : MethodName).cls ≠ "java/lang/invoke/VarHandle" ∧ (parseMethodDescriptor (⟨"PrunedSearchModel", "goals", "()I"⟩ : MethodName).desc).map (fun d => d.parameters.length) = some 0 := by decide +kernel
theorem lw_goals {Rl : Nat → Ob → Ob → Ob → Ob → Ob → Ob → Ob → Ob → Ob → Ob → Ob → Ob → Prop} (hJ : J_all Rl) (hx : p.tables.exec = Jvm.exec) (hb : c.code = code) (hml : c.maxLocals = 4) (hown : s.vm.findClass "PrunedSearchLaw" = some m0.cls) (hts : ∀ w ∈ Wt, w.before #[Value.ref b] s = true) (hX : va_X b L (fun j => Int32.ofInt (X j)) s s.heap) (hXr : ∀ j, R32 (X j)) (hbl : b < s.heap.size) (hL : L ≤ 1536) (hF : LF s dC dI ad1 ad2 cA) {k : Nat} (hk : 3 * k + 2 < L) {o0 o1 o2 o3 o4 o5 o6 o7 o8 o9 o10 m : Ob} (hR : Rl k o0 o1 o2 o3 o4 o5 o6 o7 o8 o9 o10 m)
    (back : ∀ (o0 o1 o2 o3 o4 o5 o6 o7 o8 o9 o10 m : Ob), Rl (k + 1) o0 o1 o2 o3 o4 o5 o6 o7 o8 o9 o10 m → LV p l e s m0 b below meth c dC dI ad1 ad2 cA 303 (lvL b ad1 ad2 k) [] (shC o0 o1 o2 o3 o4 o5 o6 o7 o8 o9 o10) (shM m)) : LV p l e s m0 b below meth c dC dI ad1 ad2 cA 279 (lvL b ad1 ad2 k) [] (shC o0 o1 o2 o3 o4 o5 o6 o7 o8 o9 o10) (shM m) := by
  intro H locs D ls hl
  have hw := hJ.2.2.2.2.2.2.2.2.2.2.1 k o0 o1 o2 o3 o4 o5 o6 o7 o8 o9 o10 m (by omega) hR
  refine lv_aload_n hx hb dl_279 rfl (lv_at hl 1 rfl) ?_
  refine LC1 (as := []) (rest := []) ⟨hx, hb, hml, hown, hts⟩ hF dl_280 k_940 k_941 k_942 k_1 k_943 rfl rfl pdl_1_goals ⟨by decide, by decide, Nat.le_of_ble_eq_true rfl⟩ (fun _ h => by cases h) rfl (ct_P_goals hw (fun r hw => ?_)) H locs D ls hl
  intro H locs D ls hl
  refine lv_aload_n hx hb dl_283 rfl (lv_at hl 2 rfl) ?_
  refine LC2 (as := []) (rest := [.int (Int32.ofInt r)]) ⟨hx, hb, hml, hown, hts⟩ hF dl_284 k_1360 k_1361 k_1362 k_12 k_1363 rfl rfl pdl_2_goals ⟨by decide, by decide, Nat.le_of_ble_eq_true rfl⟩ (fun _ h => by cases h) rfl (ct_M_goals hw (fun r' hw => ?_)) H locs D ls hl
  intro H locs D ls hl
  obtain ⟨rfl, hR2⟩ := hw
  refine lv_icmp_eq (tgt := 303) hx hb dl_287 (by decide) (fun _ => ?_) (fun hc => absurd rfl hc)
  exact back _ _ _ _ _ _ _ _ _ _ _ _ hR2 H locs D ls hl
theorem pdl_1_forget : (⟨"PrunedSearch", "forget", "()V"⟩ : MethodName).cls ≠ "java/lang/invoke/MethodHandle" ∧ (⟨"PrunedSearch", "forget", "()V"⟩ : MethodName).cls ≠ "java/lang/invoke/VarHandle" ∧ (parseMethodDescriptor (⟨"PrunedSearch", "forget", "()V"⟩ : MethodName).desc).map (fun d => d.parameters.length) = some 0 := by decide +kernel
theorem pdl_2_forget : (⟨"PrunedSearchModel", "forget", "()V"⟩ : MethodName).cls ≠ "java/lang/invoke/MethodHandle" ∧ (⟨"PrunedSearchModel", "forget", "()V"⟩ : MethodName).cls ≠ "java/lang/invoke/VarHandle" ∧ (parseMethodDescriptor (⟨"PrunedSearchModel", "forget", "()V"⟩ : MethodName).desc).map (fun d => d.parameters.length) = some 0 := by decide +kernel
theorem lw_forget {Rl : Nat → Ob → Ob → Ob → Ob → Ob → Ob → Ob → Ob → Ob → Ob → Ob → Ob → Prop} (hJ : J_all Rl) (hx : p.tables.exec = Jvm.exec) (hb : c.code = code) (hml : c.maxLocals = 4) (hown : s.vm.findClass "PrunedSearchLaw" = some m0.cls) (hts : ∀ w ∈ Wt, w.before #[Value.ref b] s = true) (hX : va_X b L (fun j => Int32.ofInt (X j)) s s.heap) (hXr : ∀ j, R32 (X j)) (hbl : b < s.heap.size) (hL : L ≤ 1536) (hF : LF s dC dI ad1 ad2 cA) {k : Nat} (hk : 3 * k + 2 < L) {o0 o1 o2 o3 o4 o5 o6 o7 o8 o9 o10 m : Ob} (hR : Rl k o0 o1 o2 o3 o4 o5 o6 o7 o8 o9 o10 m)
    (back : ∀ (o0 o1 o2 o3 o4 o5 o6 o7 o8 o9 o10 m : Ob), Rl (k + 1) o0 o1 o2 o3 o4 o5 o6 o7 o8 o9 o10 m → LV p l e s m0 b below meth c dC dI ad1 ad2 cA 303 (lvL b ad1 ad2 k) [] (shC o0 o1 o2 o3 o4 o5 o6 o7 o8 o9 o10) (shM m)) : LV p l e s m0 b below meth c dC dI ad1 ad2 cA 292 (lvL b ad1 ad2 k) [] (shC o0 o1 o2 o3 o4 o5 o6 o7 o8 o9 o10) (shM m) := by
  intro H locs D ls hl
  have hw := hJ.2.2.2.2.2.2.2.2.2.2.2 k o0 o1 o2 o3 o4 o5 o6 o7 o8 o9 o10 m (by omega) hR
  refine lv_aload_n hx hb dl_292 rfl (lv_at hl 1 rfl) ?_
  refine LC1 (as := []) (rest := []) ⟨hx, hb, hml, hown, hts⟩ hF dl_293 k_952 k_953 k_954 k_1 k_955 rfl rfl pdl_1_forget ⟨by decide, by decide, Nat.le_of_ble_eq_true rfl⟩ (fun _ h => by cases h) rfl (ct_P_forget hw (fun o2' o3' o6' o7' o8' o9' o10' hw => ?_)) H locs D ls hl
  intro H locs D ls hl
  refine lv_aload_n hx hb dl_296 rfl (lv_at hl 2 rfl) ?_
  refine LC2 (as := []) (rest := []) ⟨hx, hb, hml, hown, hts⟩ hF dl_297 k_1364 k_1365 k_1366 k_12 k_1367 rfl rfl pdl_2_forget ⟨by decide, by decide, Nat.le_of_ble_eq_true rfl⟩ (fun _ h => by cases h) rfl (ct_M_forget hw (fun m' hw => ?_)) H locs D ls hl
  intro H locs D ls hl
  refine lv_goto (tgt := 303) hx hb dl_300 (by decide) ?_
  exact back _ _ _ _ _ _ _ _ _ _ _ _ hw H locs D ls hl
theorem lw_loop {Rl : Nat → Ob → Ob → Ob → Ob → Ob → Ob → Ob → Ob → Ob → Ob → Ob → Ob → Prop} (hJ : J_all Rl) (hx : p.tables.exec = Jvm.exec) (hb : c.code = code) (hr : meth.sig.returnType = ret) (hlocks : meth.locks = false) (hml : c.maxLocals = 4) (hown : s.vm.findClass "PrunedSearchLaw" = some m0.cls) (hts : ∀ w ∈ Wt, w.before #[Value.ref b] s = true) (hX : va_X b L (fun j => Int32.ofInt (X j)) s s.heap) (hXr : ∀ j, R32 (X j)) (hbl : b < s.heap.size) (hL : L ≤ 1536) (hF : LF s dC dI ad1 ad2 cA) :
    ∀ (n k : Nat) (o0 o1 o2 o3 o4 o5 o6 o7 o8 o9 o10 m : Ob), k ≤ 512 → 513 ≤ k + n → Rl k o0 o1 o2 o3 o4 o5 o6 o7 o8 o9 o10 m → LV p l e s m0 b below meth c dC dI ad1 ad2 cA 18 (lvL b ad1 ad2 k) [] (shC o0 o1 o2 o3 o4 o5 o6 o7 o8 o9 o10) (shM m) := by
  have hbA : ¬ (fun q : Nat => s.heap.size ≤ q) b := Nat.not_le.mpr hbl
  intro n
  induction n with
  | zero => intro k o0 o1 o2 o3 o4 o5 o6 o7 o8 o9 o10 m h1 h2; omega
  | succ n ih =>
    intro k o0 o1 o2 o3 o4 o5 o6 o7 o8 o9 o10 m hk hn hR
    intro H locs D ls hl
    refine lv_iload_n hx hb dl_18 rfl (lv_at hl 3 rfl) ?_
    refine lv_aload_n hx hb dl_19 rfl (lv_at hl 0 rfl) ?_
    refine va_slen hx hb hX hbl hbA D.2.2.1 dl_20 ?_
    have eL : Int32.ofNat L = Int32.ofInt (L : Int) := (oi_nat L).symm
    rw [eL]
    refine lv_iconst (v := Int32.ofInt 3) hx hb dl_21 rfl ?_
    refine lv_isub hx hb dl_22 ?_
    rw [← oi_sub]
    have r1 : R32 (3 * (k : Int)) := ⟨by omega, by omega⟩
    have r2 : R32 ((L : Int) - 3) := ⟨by omega, by omega⟩
    refine lv_icmp_gt (tgt := 309) hx hb dl_23 (by decide) (fun hc => ?_) (fun hc => ?_)
    · refine lv_iconst (v := 1) hx hb dl_309 (by decide) ?_
      refine va_forget (fun q hq => D.2.2.1.2.2 q hq) ?_
      exact lw_ret hx hb hr hlocks dl_310
    · have hle : ¬ ((L : Int) - 3 < 3 * (k : Int)) := fun z => hc ((oi_lt r2 r1).mpr z)
      have hkl : 3 * k + 2 < L := by omega
      have back : ∀ (o0 o1 o2 o3 o4 o5 o6 o7 o8 o9 o10 m : Ob), Rl (k + 1) o0 o1 o2 o3 o4 o5 o6 o7 o8 o9 o10 m → LV p l e s m0 b below meth c dC dI ad1 ad2 cA 303 (lvL b ad1 ad2 k) [] (shC o0 o1 o2 o3 o4 o5 o6 o7 o8 o9 o10) (shM m) := by
        intro o0 o1 o2 o3 o4 o5 o6 o7 o8 o9 o10 m hR2 H locs D ls hl
        have e0 : 3 * (k : Int) + 3 = 3 * ((k + 1 : Nat) : Int) := by omega
        refine lv_iinc (v := Int32.ofInt (3 * ((k + 1 : Nat) : Int))) (lv' := [(3, .int (Int32.ofInt (3 * ((k + 1 : Nat) : Int)))), (0, .ref b), (1, .ref (ad1 0)), (2, .ref (ad2 0))]) hx hb dl_303 hl (k := 3) rfl (by rw [← oi_add]; exact congrArg Int32.ofInt e0) (by decide) rfl (fun ls hl => ?_)
        refine lv_goto (tgt := 18) hx hb dl_306 (by decide) ?_
        exact ih (k + 1) o0 o1 o2 o3 o4 o5 o6 o7 o8 o9 o10 m (by omega) (by omega) hR2 H locs D ls (lv_sub hl [1, 2, 3, 0] rfl)
      refine lv_aload_n hx hb dl_26 rfl (lv_at hl 0 rfl) ?_
      refine lv_iload_n hx hb dl_27 rfl (lv_at hl 3 rfl) ?_
      refine va_sld hx hb hX hbl hbA D.2.2.1 (oi_in r1 (by omega) (by omega)) dl_28 ?_
      refine lv_bipush (v := 15) hx hb dl_29 (by decide +kernel) ?_
      refine lv_iand hx hb dl_31 ?_
      obtain ⟨j, hj, ej⟩ := pk_andE (Int32.ofInt (X (Int32.ofInt (3 * (k : Int))).toNatClampNeg)) (m := 15) 4 (by decide +kernel)
      rw [ej]
      have hj : j < 16 := hj
      have et : (nI j).toInt = (j : Int) := nI_toInt (by omega)
      by_cases h11 : j < 11
      · rcases (show j = 0 ∨ j = 1 ∨ j = 2 ∨ j = 3 ∨ j = 4 ∨ j = 5 ∨ j = 6 ∨ j = 7 ∨ j = 8 ∨ j = 9 ∨ j = 10 by omega) with rfl | rfl | rfl | rfl | rfl | rfl | rfl | rfl | rfl | rfl | rfl
        · refine lv_tableIn (off := 60) (tgt := 92) hx hb dl_32 (by decide +kernel) (by decide +kernel) (by decide +kernel) (by decide) ?_
          exact lw_type hJ hx hb hml hown hts hX hXr hbl hL hF hkl hR back H locs D ls hl
        · refine lv_tableIn (off := 113) (tgt := 145) hx hb dl_32 (by decide +kernel) (by decide +kernel) (by decide +kernel) (by decide) ?_
          exact lw_consult hJ hx hb hml hown hts hX hXr hbl hL hF hkl hR back H locs D ls hl
        · refine lv_tableIn (off := 126) (tgt := 158) hx hb dl_32 (by decide +kernel) (by decide +kernel) (by decide +kernel) (by decide) ?_
          exact lw_ask hJ hx hb hml hown hts hX hXr hbl hL hF hkl hR back H locs D ls hl
        · refine lv_tableIn (off := 139) (tgt := 171) hx hb dl_32 (by decide +kernel) (by decide +kernel) (by decide +kernel) (by decide) ?_
          exact lw_run hJ hx hb hml hown hts hX hXr hbl hL hF hkl hR back H locs D ls hl
        · refine lv_tableIn (off := 162) (tgt := 194) hx hb dl_32 (by decide +kernel) (by decide +kernel) (by decide +kernel) (by decide) ?_
          exact lw_answer hJ hx hb hml hown hts hX hXr hbl hL hF hkl hR back H locs D ls hl
        · refine lv_tableIn (off := 195) (tgt := 227) hx hb dl_32 (by decide +kernel) (by decide +kernel) (by decide +kernel) (by decide) ?_
          exact lw_clauses hJ hx hb hml hown hts hX hXr hbl hL hF hkl hR back H locs D ls hl
        · refine lv_tableIn (off := 208) (tgt := 240) hx hb dl_32 (by decide +kernel) (by decide +kernel) (by decide +kernel) (by decide) ?_
          exact lw_tries hJ hx hb hml hown hts hX hXr hbl hL hF hkl hR back H locs D ls hl
        · refine lv_tableIn (off := 221) (tgt := 253) hx hb dl_32 (by decide +kernel) (by decide +kernel) (by decide +kernel) (by decide) ?_
          exact lw_choices hJ hx hb hml hown hts hX hXr hbl hL hF hkl hR back H locs D ls hl
        · refine lv_tableIn (off := 234) (tgt := 266) hx hb dl_32 (by decide +kernel) (by decide +kernel) (by decide +kernel) (by decide) ?_
          exact lw_length hJ hx hb hml hown hts hX hXr hbl hL hF hkl hR back H locs D ls hl
        · refine lv_tableIn (off := 247) (tgt := 279) hx hb dl_32 (by decide +kernel) (by decide +kernel) (by decide +kernel) (by decide) ?_
          exact lw_goals hJ hx hb hml hown hts hX hXr hbl hL hF hkl hR back H locs D ls hl
        · refine lv_tableIn (off := 260) (tgt := 292) hx hb dl_32 (by decide +kernel) (by decide +kernel) (by decide +kernel) (by decide) ?_
          exact lw_forget hJ hx hb hml hown hts hX hXr hbl hL hF hkl hR back H locs D ls hl
      · refine lv_tableOut (tgt := 303) hx hb dl_32 (Or.inr (by rw [et]; omega)) (by decide) ?_
        exact back _ _ _ _ _ _ _ _ _ _ _ _ (hJ.1 k _ _ _ _ _ _ _ _ _ _ _ _ hR) H locs D ls hl
end LOOP
