/-! the law from its entry, over a relation that the joint steps keep (printed by wip/gen/start.py) -/
set_option maxRecDepth 20000 in
theorem k_20 : (Jvm.Cond.classLink "PrunedSearchLaw" (7 : Nat) "PrunedSearch") ∈ Wt := List.mem_filter.mpr ⟨t_in (t_in1 (List.mem_of_getElem? (i := 20) rfl)), rfl⟩
set_option maxRecDepth 20000 in
theorem k_21 : (Jvm.Cond.instantiable "PrunedSearch" (5 : Nat)) ∈ Wt := List.mem_filter.mpr ⟨t_in (t_in1 (List.mem_of_getElem? (i := 21) rfl)), rfl⟩
set_option maxRecDepth 20000 in
theorem k_22 : (Jvm.Cond.methodLink "PrunedSearchLaw" (9 : Nat) ({ cls := "PrunedSearch", name := "<init>", desc := "()V" } : Jvm.MethodName)) ∈ Wt := List.mem_filter.mpr ⟨t_in (t_in1 (List.mem_of_getElem? (i := 22) rfl)), rfl⟩
set_option maxRecDepth 20000 in
theorem k_23 : (Jvm.Cond.instanceMethod ({ cls := "PrunedSearch", name := "<init>", desc := "()V" } : Jvm.MethodName)) ∈ Wt := List.mem_filter.mpr ⟨t_in (t_in1 (List.mem_of_getElem? (i := 23) rfl)), rfl⟩
set_option maxRecDepth 20000 in
theorem k_24 : (Jvm.Cond.code ({ cls := "PrunedSearch", name := "<init>", desc := "()V" } : Jvm.MethodName) prog_1_method_1_code (1 : Nat) (Option.none : Option Jvm.ClassFile.FieldType)) ∈ Wt := List.mem_filter.mpr ⟨t_in (t_in1 (List.mem_of_getElem? (i := 24) rfl)), rfl⟩
set_option maxRecDepth 20000 in
theorem k_962 : (Jvm.Cond.classLink "PrunedSearchLaw" (10 : Nat) "PrunedSearchModel") ∈ Wt := List.mem_filter.mpr ⟨t_in (t_in5 (List.mem_of_getElem? (i := 2) rfl)), rfl⟩
set_option maxRecDepth 20000 in
theorem k_963 : (Jvm.Cond.instantiable "PrunedSearchModel" (55 : Nat)) ∈ Wt := List.mem_filter.mpr ⟨t_in (t_in5 (List.mem_of_getElem? (i := 3) rfl)), rfl⟩
set_option maxRecDepth 20000 in
theorem k_964 : (Jvm.Cond.methodLink "PrunedSearchLaw" (12 : Nat) ({ cls := "PrunedSearchModel", name := "<init>", desc := "()V" } : Jvm.MethodName)) ∈ Wt := List.mem_filter.mpr ⟨t_in (t_in5 (List.mem_of_getElem? (i := 4) rfl)), rfl⟩
set_option maxRecDepth 20000 in
theorem k_965 : (Jvm.Cond.instanceMethod ({ cls := "PrunedSearchModel", name := "<init>", desc := "()V" } : Jvm.MethodName)) ∈ Wt := List.mem_filter.mpr ⟨t_in (t_in5 (List.mem_of_getElem? (i := 5) rfl)), rfl⟩
set_option maxRecDepth 20000 in
theorem k_966 : (Jvm.Cond.code ({ cls := "PrunedSearchModel", name := "<init>", desc := "()V" } : Jvm.MethodName) prog_13_method_1_code (1 : Nat) (Option.none : Option Jvm.ClassFile.FieldType)) ∈ Wt := List.mem_filter.mpr ⟨t_in (t_in5 (List.mem_of_getElem? (i := 6) rfl)), rfl⟩
set_option maxRecDepth 20000 in
theorem kS : (Jvm.Cond.stringRef "PrunedSearch$Text" (23 : Nat) "(),.:-![]| ") ∈ lw_tbl := t_in (t_in2 (List.mem_of_getElem? (i := 113) rfl))
set_option maxRecDepth 20000 in
theorem kZ : (Jvm.Cond.laysStatic "java/lang/String" "COMPACT_STRINGS" "Z") ∈ lw_tbl := t_in (t_in2 (List.mem_of_getElem? (i := 127) rfl))
def z0 : Ob := (fun _ => 0, fun _ _ => 0, fun _ => 0, fun _ _ => 0)
theorem wsm_of {dC : Nat → ClassId} {dI : Nat → Nat → Nat} {ad : Nat → Nat} {cA : Nat → ClassId} {w : List AC} {H : Heap} (h : ∀ (k : Nat) (c : AC), w[k]? = some c → va_at (dC, dI) classes (ad k, ce ad cA c) H) : va_P (dC, dI) classes (wsm ad cA w) H := fun k q hk => by
  rw [wsm, List.getElem?_mapIdx] at hk
  cases hc : w[k]? with
  | none => rw [hc] at hk; cases hk
  | some c =>
    rw [hc] at hk
    cases hk
    exact h k c hc
/-- the addresses of a world, and d0 beyond them -/
def adL (ws : va_W) (d0 : Nat → Nat) : Nat → Nat := fun k => (ws.map Prod.fst).getD k (d0 k)
theorem adL_at {ws : va_W} {d0 : Nat → Nat} {i : Nat} (h : i < ws.length) : ∃ e, ws[i]? = some (adL ws d0 i, e) := by
  refine ⟨ws[i].2, ?_⟩
  rw [List.getElem?_eq_getElem h]
  simp [adL, List.getD_eq_getElem?_getD, h]
theorem adk_of {A : Nat → Prop} {ws : va_W} {d0 : Nat → Nat} (hD : va_D A ws) : adk (adL ws d0) A ws.length := by
  refine ⟨fun i j hi hj hij => ?_, fun i hi => ?_⟩
  · obtain ⟨e1, h1⟩ := adL_at (d0 := d0) hi
    obtain ⟨e2, h2⟩ := adL_at (d0 := d0) hj
    exact hD.1 i j _ _ h1 h2 hij
  · obtain ⟨e1, h1⟩ := adL_at (d0 := d0) hi
    exact hD.2 i _ h1
theorem adk_dis {A : Nat → Prop} {w1 w2 : va_W} {d0 d1 : Nat → Nat} (hD : va_D A (w1 ++ w2)) : ∀ i j, i < w1.length → j < w2.length → adL w1 d0 i ≠ adL w2 d1 j := fun i j hi hj h => by
  obtain ⟨e1, h1⟩ := adL_at (d0 := d0) hi
  obtain ⟨e2, h2⟩ := adL_at (d0 := d1) hj
  have := hD.1 i (w1.length + j) _ _ (by rw [List.getElem?_append_left hi]; exact h1) (by rw [List.getElem?_append_right (by omega)]; simpa using h2) h
  omega
theorem va_D_left {A : Nat → Prop} {w1 w2 : va_W} (hD : va_D A (w1 ++ w2)) : va_D A w1 := by
  refine ⟨fun i j p q hi hj h => ?_, fun k q hk => ?_⟩
  · have l1 := (List.getElem?_eq_some_iff.mp hi).1
    have l2 := (List.getElem?_eq_some_iff.mp hj).1
    exact hD.1 i j p q (by rw [List.getElem?_append_left l1]; exact hi) (by rw [List.getElem?_append_left l2]; exact hj) h
  · have l1 := (List.getElem?_eq_some_iff.mp hk).1
    exact hD.2 k q (by rw [List.getElem?_append_left l1]; exact hk)
theorem va_D_right {A : Nat → Prop} {w1 w2 : va_W} (hD : va_D A (w1 ++ w2)) : va_D A w2 := by
  refine ⟨fun i j p q hi hj h => ?_, fun k q hk => ?_⟩
  · have := hD.1 (w1.length + i) (w1.length + j) p q (by rw [List.getElem?_append_right (by omega)]; simpa using hi) (by rw [List.getElem?_append_right (by omega)]; simpa using hj) h
    omega
  · exact hD.2 (w1.length + k) q (by rw [List.getElem?_append_right (by omega)]; simpa using hk)
theorem oi_m1 : Int32.ofInt (-1) = -1 := by decide +kernel
theorem ol_0 : Int64.ofNat 0 = 0 := by decide +kernel
theorem zi_ce {q : Nat} {c : ClassId} {n t : Nat} {ad : Nat → Nat} {cA : Nat → ClassId} {f : Int → Int} (h : cA t = c) (hf : ∀ i, f i = 0) : ((q, zi c n) : Nat × va_E) = (q, ce ad cA (cI t n f)) := by
  subst h
  have e : (fun j : Nat => Int32.ofInt (f (j : Int))) = fun _ => 0 := by funext j; rw [hf, oi_0]
  show (q, Sum.inl (cA t, n, Sum.inl fun _ => 0)) = (q, Sum.inl (cA t, n, Sum.inl fun j : Nat => Int32.ofInt (f (j : Int))))
  rw [e]
theorem zl_ce {q : Nat} {c : ClassId} {n : Nat} {ad : Nat → Nat} {cA : Nat → ClassId} {f : Int → Nat} (h : cA 2 = c) (hf : ∀ i, f i = 0) : ((q, zl c n) : Nat × va_E) = (q, ce ad cA (cL n f)) := by
  subst h
  have e : (fun j : Nat => Int64.ofNat (f (j : Int))) = fun _ => 0 := by funext j; rw [hf, ol_0]
  show (q, Sum.inl (cA 2, n, Sum.inr (Sum.inl fun _ => 0))) = (q, Sum.inl (cA 2, n, Sum.inr (Sum.inl fun j : Nat => Int64.ofNat (f (j : Int)))))
  rw [e]
theorem ob_ce {q ci : Nat} {vs : List Value} {ad : Nat → Nat} {cA : Nat → ClassId} {fs : List AV} (h : vs = fs.map (cv ad)) : ((q, .inr (ci, vs)) : Nat × va_E) = (q, ce ad cA (cO ci fs)) := by
  subst h
  rfl
theorem va_at_eq {D : va_G} {q q' : Nat × va_E} {H : Heap} (h : va_at D classes q H) (e : q = q') : va_at D classes q' H := e ▸ h
theorem okc_z {t n : Nat} {f : Int → Int} (h : ∀ i, f i = 0) : okc (cI t n f) := fun i => by rw [h]; exact R32_0
theorem okc_zl {n : Nat} {f : Int → Nat} (h : ∀ i, f i = 0) : okc (cL n f) := fun i => by rw [h]; exact Nat.zero_lt_succ _
theorem okv_r {k : Nat} : okv (vR k) := trivial
theorem okv_i {x : Int} (h : x = 0 ∨ x = -1) : okv (vI x) := by
  rcases h with rfl | rfl
  · exact R32_0
  · exact ⟨by decide, by decide⟩
theorem okv_l {x : Nat} (h : x = 0) : okv (vL x) := by rw [h]; exact Nat.zero_lt_succ _
theorem okc_o {ci : Nat} {fs : List AV} (h : ∀ v ∈ fs, okv v) : okc (cO ci fs) := h
theorem okoC_0 : ∀ v ∈ ([vR 1, vR 7, vR 9, vR 17, vR 38] : List AV), okv v := by
  intro v hv
  obtain ⟨j, hj⟩ := List.getElem?_of_mem hv
  match j, hj with
  | 0, hj => cases hj; exact okv_r
  | 1, hj => cases hj; exact okv_r
  | 2, hj => cases hj; exact okv_r
  | 3, hj => cases hj; exact okv_r
  | 4, hj => cases hj; exact okv_r
  | j + 5, hj => exact absurd (List.getElem?_eq_some_iff.mp hj).1 (by show ¬ j + 5 < 5; omega)
theorem okoC_1 : ∀ v ∈ ([vR 2, vI (z0.1 0)] : List AV), okv v := by
  intro v hv
  obtain ⟨j, hj⟩ := List.getElem?_of_mem hv
  match j, hj with
  | 0, hj => cases hj; exact okv_r
  | 1, hj => cases hj; exact (okv_i (Or.inl rfl))
  | j + 2, hj => exact absurd (List.getElem?_eq_some_iff.mp hj).1 (by show ¬ j + 2 < 2; omega)
theorem okoC_3 : ∀ v ∈ ([vR 4, vR 5, vR 6, vI (z0.1 0)] : List AV), okv v := by
  intro v hv
  obtain ⟨j, hj⟩ := List.getElem?_of_mem hv
  match j, hj with
  | 0, hj => cases hj; exact okv_r
  | 1, hj => cases hj; exact okv_r
  | 2, hj => cases hj; exact okv_r
  | 3, hj => cases hj; exact (okv_i (Or.inl rfl))
  | j + 4, hj => exact absurd (List.getElem?_eq_some_iff.mp hj).1 (by show ¬ j + 4 < 4; omega)
theorem okoC_7 : ∀ v ∈ ([vR 8, vI (z0.1 0), vI (z0.1 1), vI (z0.1 2)] : List AV), okv v := by
  intro v hv
  obtain ⟨j, hj⟩ := List.getElem?_of_mem hv
  match j, hj with
  | 0, hj => cases hj; exact okv_r
  | 1, hj => cases hj; exact (okv_i (Or.inl rfl))
  | 2, hj => cases hj; exact (okv_i (Or.inl rfl))
  | 3, hj => cases hj; exact (okv_i (Or.inl rfl))
  | j + 4, hj => exact absurd (List.getElem?_eq_some_iff.mp hj).1 (by show ¬ j + 4 < 4; omega)
theorem okoC_9 : ∀ v ∈ ([vR 10, vR 11, vR 12, vI (z0.1 0), vI (z0.1 1)] : List AV), okv v := by
  intro v hv
  obtain ⟨j, hj⟩ := List.getElem?_of_mem hv
  match j, hj with
  | 0, hj => cases hj; exact okv_r
  | 1, hj => cases hj; exact okv_r
  | 2, hj => cases hj; exact okv_r
  | 3, hj => cases hj; exact (okv_i (Or.inl rfl))
  | 4, hj => cases hj; exact (okv_i (Or.inl rfl))
  | j + 5, hj => exact absurd (List.getElem?_eq_some_iff.mp hj).1 (by show ¬ j + 5 < 5; omega)
theorem okoC_13 : ∀ v ∈ ([vR 14, vR 15, vR 16, vI (z0.1 0), vI (z0.1 1)] : List AV), okv v := by
  intro v hv
  obtain ⟨j, hj⟩ := List.getElem?_of_mem hv
  match j, hj with
  | 0, hj => cases hj; exact okv_r
  | 1, hj => cases hj; exact okv_r
  | 2, hj => cases hj; exact okv_r
  | 3, hj => cases hj; exact (okv_i (Or.inl rfl))
  | 4, hj => cases hj; exact (okv_i (Or.inl rfl))
  | j + 5, hj => exact absurd (List.getElem?_eq_some_iff.mp hj).1 (by show ¬ j + 5 < 5; omega)
theorem okoC_17 : ∀ v ∈ ([vR 7, vR 3, vR 13, vR 18, vI (z0.1 0), vI (z0.1 1), vI (z0.1 2), vI (z0.1 3), vI (z0.1 4), vI (z0.1 5)] : List AV), okv v := by
  intro v hv
  obtain ⟨j, hj⟩ := List.getElem?_of_mem hv
  match j, hj with
  | 0, hj => cases hj; exact okv_r
  | 1, hj => cases hj; exact okv_r
  | 2, hj => cases hj; exact okv_r
  | 3, hj => cases hj; exact okv_r
  | 4, hj => cases hj; exact (okv_i (Or.inl rfl))
  | 5, hj => cases hj; exact (okv_i (Or.inl rfl))
  | 6, hj => cases hj; exact (okv_i (Or.inl rfl))
  | 7, hj => cases hj; exact (okv_i (Or.inl rfl))
  | 8, hj => cases hj; exact (okv_i (Or.inl rfl))
  | 9, hj => cases hj; exact (okv_i (Or.inl rfl))
  | j + 10, hj => exact absurd (List.getElem?_eq_some_iff.mp hj).1 (by show ¬ j + 10 < 10; omega)
theorem okoC_19 : ∀ v ∈ ([vR 20, vR 21, vR 22, vR 23, vR 24, vR 25, vR 26, vI (z0.1 0), vI (z0.1 1), vI (z0.1 2), vI (z0.1 3)] : List AV), okv v := by
  intro v hv
  obtain ⟨j, hj⟩ := List.getElem?_of_mem hv
  match j, hj with
  | 0, hj => cases hj; exact okv_r
  | 1, hj => cases hj; exact okv_r
  | 2, hj => cases hj; exact okv_r
  | 3, hj => cases hj; exact okv_r
  | 4, hj => cases hj; exact okv_r
  | 5, hj => cases hj; exact okv_r
  | 6, hj => cases hj; exact okv_r
  | 7, hj => cases hj; exact (okv_i (Or.inl rfl))
  | 8, hj => cases hj; exact (okv_i (Or.inl rfl))
  | 9, hj => cases hj; exact (okv_i (Or.inl rfl))
  | 10, hj => cases hj; exact (okv_i (Or.inl rfl))
  | j + 11, hj => exact absurd (List.getElem?_eq_some_iff.mp hj).1 (by show ¬ j + 11 < 11; omega)
theorem okoC_27 : ∀ v ∈ ([vR 28, vR 29, vR 30, vI ((sI z0 1 (-1)).1 0), vI ((sI z0 1 (-1)).1 1)] : List AV), okv v := by
  intro v hv
  obtain ⟨j, hj⟩ := List.getElem?_of_mem hv
  match j, hj with
  | 0, hj => cases hj; exact okv_r
  | 1, hj => cases hj; exact okv_r
  | 2, hj => cases hj; exact okv_r
  | 3, hj => cases hj; exact (okv_i (Or.inl rfl))
  | 4, hj => cases hj; exact (okv_i (Or.inr rfl))
  | j + 5, hj => exact absurd (List.getElem?_eq_some_iff.mp hj).1 (by show ¬ j + 5 < 5; omega)
theorem okoC_31 : ∀ v ∈ ([vR 32, vR 33, vR 34, vR 35, vR 36, vR 37, vI (z0.1 0)] : List AV), okv v := by
  intro v hv
  obtain ⟨j, hj⟩ := List.getElem?_of_mem hv
  match j, hj with
  | 0, hj => cases hj; exact okv_r
  | 1, hj => cases hj; exact okv_r
  | 2, hj => cases hj; exact okv_r
  | 3, hj => cases hj; exact okv_r
  | 4, hj => cases hj; exact okv_r
  | 5, hj => cases hj; exact okv_r
  | 6, hj => cases hj; exact (okv_i (Or.inl rfl))
  | j + 7, hj => exact absurd (List.getElem?_eq_some_iff.mp hj).1 (by show ¬ j + 7 < 7; omega)
theorem okoC_38 : ∀ v ∈ ([vR 9, vR 7, vR 19, vR 27, vR 31, vR 40, vR 39, vI ((sI z0 1 (-1)).1 0), vI ((sI z0 1 (-1)).1 1), vI ((sI z0 1 (-1)).1 2), vI ((sI z0 1 (-1)).1 3), vI ((sI z0 1 (-1)).1 4), vI ((sI z0 1 (-1)).1 5), vI ((sI z0 1 (-1)).1 6)] : List AV), okv v := by
  intro v hv
  obtain ⟨j, hj⟩ := List.getElem?_of_mem hv
  match j, hj with
  | 0, hj => cases hj; exact okv_r
  | 1, hj => cases hj; exact okv_r
  | 2, hj => cases hj; exact okv_r
  | 3, hj => cases hj; exact okv_r
  | 4, hj => cases hj; exact okv_r
  | 5, hj => cases hj; exact okv_r
  | 6, hj => cases hj; exact okv_r
  | 7, hj => cases hj; exact (okv_i (Or.inl rfl))
  | 8, hj => cases hj; exact (okv_i (Or.inr rfl))
  | 9, hj => cases hj; exact (okv_i (Or.inl rfl))
  | 10, hj => cases hj; exact (okv_i (Or.inl rfl))
  | 11, hj => cases hj; exact (okv_i (Or.inl rfl))
  | 12, hj => cases hj; exact (okv_i (Or.inl rfl))
  | 13, hj => cases hj; exact (okv_i (Or.inl rfl))
  | j + 14, hj => exact absurd (List.getElem?_eq_some_iff.mp hj).1 (by show ¬ j + 14 < 14; omega)
theorem okoC_40 : ∀ v ∈ ([vR 19, vR 7, vR 41, vR 42, vR 43, vR 44, vI (z0.1 0), vI (z0.1 1), vI (z0.1 2), vI (z0.1 3)] : List AV), okv v := by
  intro v hv
  obtain ⟨j, hj⟩ := List.getElem?_of_mem hv
  match j, hj with
  | 0, hj => cases hj; exact okv_r
  | 1, hj => cases hj; exact okv_r
  | 2, hj => cases hj; exact okv_r
  | 3, hj => cases hj; exact okv_r
  | 4, hj => cases hj; exact okv_r
  | 5, hj => cases hj; exact okv_r
  | 6, hj => cases hj; exact (okv_i (Or.inl rfl))
  | 7, hj => cases hj; exact (okv_i (Or.inl rfl))
  | 8, hj => cases hj; exact (okv_i (Or.inl rfl))
  | 9, hj => cases hj; exact (okv_i (Or.inl rfl))
  | j + 10, hj => exact absurd (List.getElem?_eq_some_iff.mp hj).1 (by show ¬ j + 10 < 10; omega)
theorem okoM_0 : ∀ v ∈ ([vR 1, vI (z0.1 0), vI (z0.1 1), vI (z0.1 2), vI (z0.1 3), vL (z0.2.2.1 0), vR 2, vR 3, vI (z0.1 4), vI (z0.1 5), vR 4, vR 5, vR 6, vI (z0.1 6), vR 7, vR 8, vR 9, vI (z0.1 7), vI (z0.1 8), vR 10, vR 11, vR 12, vI (z0.1 9), vR 13, vR 14, vI (z0.1 10), vR 15, vR 16, vR 17, vI (z0.1 11), vR 18, vI (z0.1 12), vR 19, vI (z0.1 13), vI (z0.1 14), vI (z0.1 15), vI (z0.1 16), vR 20, vR 21, vI (z0.1 17), vR 22, vR 23, vI (z0.1 18), vR 24, vR 25, vR 26, vR 27, vR 28, vI (z0.1 19), vI (z0.1 20), vR 29, vR 30, vI (z0.1 21), vR 31, vI (z0.1 22)] : List AV), okv v := by
  intro v hv
  obtain ⟨j, hj⟩ := List.getElem?_of_mem hv
  match j, hj with
  | 0, hj => cases hj; exact okv_r
  | 1, hj => cases hj; exact (okv_i (Or.inl rfl))
  | 2, hj => cases hj; exact (okv_i (Or.inl rfl))
  | 3, hj => cases hj; exact (okv_i (Or.inl rfl))
  | 4, hj => cases hj; exact (okv_i (Or.inl rfl))
  | 5, hj => cases hj; exact (okv_l rfl)
  | 6, hj => cases hj; exact okv_r
  | 7, hj => cases hj; exact okv_r
  | 8, hj => cases hj; exact (okv_i (Or.inl rfl))
  | 9, hj => cases hj; exact (okv_i (Or.inl rfl))
  | 10, hj => cases hj; exact okv_r
  | 11, hj => cases hj; exact okv_r
  | 12, hj => cases hj; exact okv_r
  | 13, hj => cases hj; exact (okv_i (Or.inl rfl))
  | 14, hj => cases hj; exact okv_r
  | 15, hj => cases hj; exact okv_r
  | 16, hj => cases hj; exact okv_r
  | 17, hj => cases hj; exact (okv_i (Or.inl rfl))
  | 18, hj => cases hj; exact (okv_i (Or.inl rfl))
  | 19, hj => cases hj; exact okv_r
  | 20, hj => cases hj; exact okv_r
  | 21, hj => cases hj; exact okv_r
  | 22, hj => cases hj; exact (okv_i (Or.inl rfl))
  | 23, hj => cases hj; exact okv_r
  | 24, hj => cases hj; exact okv_r
  | 25, hj => cases hj; exact (okv_i (Or.inl rfl))
  | 26, hj => cases hj; exact okv_r
  | 27, hj => cases hj; exact okv_r
  | 28, hj => cases hj; exact okv_r
  | 29, hj => cases hj; exact (okv_i (Or.inl rfl))
  | 30, hj => cases hj; exact okv_r
  | 31, hj => cases hj; exact (okv_i (Or.inl rfl))
  | 32, hj => cases hj; exact okv_r
  | 33, hj => cases hj; exact (okv_i (Or.inl rfl))
  | 34, hj => cases hj; exact (okv_i (Or.inl rfl))
  | 35, hj => cases hj; exact (okv_i (Or.inl rfl))
  | 36, hj => cases hj; exact (okv_i (Or.inl rfl))
  | 37, hj => cases hj; exact okv_r
  | 38, hj => cases hj; exact okv_r
  | 39, hj => cases hj; exact (okv_i (Or.inl rfl))
  | 40, hj => cases hj; exact okv_r
  | 41, hj => cases hj; exact okv_r
  | 42, hj => cases hj; exact (okv_i (Or.inl rfl))
  | 43, hj => cases hj; exact okv_r
  | 44, hj => cases hj; exact okv_r
  | 45, hj => cases hj; exact okv_r
  | 46, hj => cases hj; exact okv_r
  | 47, hj => cases hj; exact okv_r
  | 48, hj => cases hj; exact (okv_i (Or.inl rfl))
  | 49, hj => cases hj; exact (okv_i (Or.inl rfl))
  | 50, hj => cases hj; exact okv_r
  | 51, hj => cases hj; exact okv_r
  | 52, hj => cases hj; exact (okv_i (Or.inl rfl))
  | 53, hj => cases hj; exact okv_r
  | 54, hj => cases hj; exact (okv_i (Or.inl rfl))
  | j + 55, hj => exact absurd (List.getElem?_eq_some_iff.mp hj).1 (by show ¬ j + 55 < 55; omega)
theorem okw_C : okw (shC z0 z0 z0 z0 z0 z0 z0 (sI z0 1 (-1)) z0 (sI z0 1 (-1)) z0) := by
  intro c hc
  obtain ⟨k, hk⟩ := List.getElem?_of_mem hc
  match k, hk with
  | 0, hk => cases hk; exact okc_o okoC_0
  | 1, hk => cases hk; exact okc_o okoC_1
  | 2, hk => cases hk; exact okc_z (fun _ => rfl)
  | 3, hk => cases hk; exact okc_o okoC_3
  | 4, hk => cases hk; exact okc_z (fun _ => rfl)
  | 5, hk => cases hk; exact okc_z (fun _ => rfl)
  | 6, hk => cases hk; exact okc_zl (fun _ => rfl)
  | 7, hk => cases hk; exact okc_o okoC_7
  | 8, hk => cases hk; exact okc_zl (fun _ => rfl)
  | 9, hk => cases hk; exact okc_o okoC_9
  | 10, hk => cases hk; exact okc_z (fun _ => rfl)
  | 11, hk => cases hk; exact okc_z (fun _ => rfl)
  | 12, hk => cases hk; exact okc_z (fun _ => rfl)
  | 13, hk => cases hk; exact okc_o okoC_13
  | 14, hk => cases hk; exact okc_z (fun _ => rfl)
  | 15, hk => cases hk; exact okc_z (fun _ => rfl)
  | 16, hk => cases hk; exact okc_z (fun _ => rfl)
  | 17, hk => cases hk; exact okc_o okoC_17
  | 18, hk => cases hk; exact okc_zl (fun _ => rfl)
  | 19, hk => cases hk; exact okc_o okoC_19
  | 20, hk => cases hk; exact okc_z (fun _ => rfl)
  | 21, hk => cases hk; exact okc_z (fun _ => rfl)
  | 22, hk => cases hk; exact okc_z (fun _ => rfl)
  | 23, hk => cases hk; exact okc_z (fun _ => rfl)
  | 24, hk => cases hk; exact okc_z (fun _ => rfl)
  | 25, hk => cases hk; exact okc_z (fun _ => rfl)
  | 26, hk => cases hk; exact okc_z (fun _ => rfl)
  | 27, hk => cases hk; exact okc_o okoC_27
  | 28, hk => cases hk; exact okc_z (fun _ => rfl)
  | 29, hk => cases hk; exact okc_z (fun _ => rfl)
  | 30, hk => cases hk; exact okc_z (fun _ => rfl)
  | 31, hk => cases hk; exact okc_o okoC_31
  | 32, hk => cases hk; exact okc_z (fun _ => rfl)
  | 33, hk => cases hk; exact okc_z (fun _ => rfl)
  | 34, hk => cases hk; exact okc_z (fun _ => rfl)
  | 35, hk => cases hk; exact okc_z (fun _ => rfl)
  | 36, hk => cases hk; exact okc_z (fun _ => rfl)
  | 37, hk => cases hk; exact okc_z (fun _ => rfl)
  | 38, hk => cases hk; exact okc_o okoC_38
  | 39, hk => cases hk; exact okc_z (fun _ => rfl)
  | 40, hk => cases hk; exact okc_o okoC_40
  | 41, hk => cases hk; exact okc_z (fun _ => rfl)
  | 42, hk => cases hk; exact okc_z (fun _ => rfl)
  | 43, hk => cases hk; exact okc_z (fun _ => rfl)
  | 44, hk => cases hk; exact okc_z (fun _ => rfl)
  | k + 45, hk => exact absurd (List.getElem?_eq_some_iff.mp hk).1 (by show ¬ k + 45 < 45; omega)
theorem okw_M : okw (shM z0) := by
  intro c hc
  obtain ⟨k, hk⟩ := List.getElem?_of_mem hc
  match k, hk with
  | 0, hk => cases hk; exact okc_o okoM_0
  | 1, hk => cases hk; exact okc_z (fun _ => rfl)
  | 2, hk => cases hk; exact okc_zl (fun _ => rfl)
  | 3, hk => cases hk; exact okc_z (fun _ => rfl)
  | 4, hk => cases hk; exact okc_z (fun _ => rfl)
  | 5, hk => cases hk; exact okc_z (fun _ => rfl)
  | 6, hk => cases hk; exact okc_z (fun _ => rfl)
  | 7, hk => cases hk; exact okc_z (fun _ => rfl)
  | 8, hk => cases hk; exact okc_zl (fun _ => rfl)
  | 9, hk => cases hk; exact okc_z (fun _ => rfl)
  | 10, hk => cases hk; exact okc_z (fun _ => rfl)
  | 11, hk => cases hk; exact okc_z (fun _ => rfl)
  | 12, hk => cases hk; exact okc_z (fun _ => rfl)
  | 13, hk => cases hk; exact okc_zl (fun _ => rfl)
  | 14, hk => cases hk; exact okc_z (fun _ => rfl)
  | 15, hk => cases hk; exact okc_z (fun _ => rfl)
  | 16, hk => cases hk; exact okc_z (fun _ => rfl)
  | 17, hk => cases hk; exact okc_z (fun _ => rfl)
  | 18, hk => cases hk; exact okc_zl (fun _ => rfl)
  | 19, hk => cases hk; exact okc_z (fun _ => rfl)
  | 20, hk => cases hk; exact okc_z (fun _ => rfl)
  | 21, hk => cases hk; exact okc_z (fun _ => rfl)
  | 22, hk => cases hk; exact okc_z (fun _ => rfl)
  | 23, hk => cases hk; exact okc_z (fun _ => rfl)
  | 24, hk => cases hk; exact okc_z (fun _ => rfl)
  | 25, hk => cases hk; exact okc_z (fun _ => rfl)
  | 26, hk => cases hk; exact okc_z (fun _ => rfl)
  | 27, hk => cases hk; exact okc_z (fun _ => rfl)
  | 28, hk => cases hk; exact okc_z (fun _ => rfl)
  | 29, hk => cases hk; exact okc_z (fun _ => rfl)
  | 30, hk => cases hk; exact okc_z (fun _ => rfl)
  | 31, hk => cases hk; exact okc_z (fun _ => rfl)
  | k + 32, hk => exact absurd (List.getElem?_eq_some_iff.mp hk).1 (by show ¬ k + 32 < 32; omega)
theorem fl_r {ad : Nat → Nat} {k q : Nat} (h : ad k = q) : Value.ref q = cv ad (vR k) := by rw [← h]; rfl
theorem fl_i {ad : Nat → Nat} {x : Int} (h : x = 0) : Value.int 0 = cv ad (vI x) := by rw [h]; show Value.int 0 = Value.int (Int32.ofInt 0); rw [oi_0]
theorem fl_m {ad : Nat → Nat} {x : Int} (h : x = -1) : Value.int (-1) = cv ad (vI x) := by rw [h]; show Value.int (-1) = Value.int (Int32.ofInt (-1)); rw [oi_m1]
theorem fl_l {ad : Nat → Nat} {x : Nat} (h : x = 0) : Value.long 0 = cv ad (vL x) := by rw [h]; show Value.long 0 = Value.long (Int64.ofNat 0); rw [ol_0]
theorem fl_n {ad : Nat → Nat} : ([] : List Value) = List.map (cv ad) [] := rfl
theorem fl_c {ad : Nat → Nat} {v : Value} {a : AV} {vs : List Value} {fs : List AV} (h : v = cv ad a) (t : vs = List.map (cv ad) fs) : v :: vs = List.map (cv ad) (a :: fs) := by rw [h, t]; rfl
set_option maxHeartbeats 4000000 in
set_option maxRecDepth 100000 in
theorem mk_w1 {H : Heap} {dC : Nat → ClassId} {dI : Nat → Nat → Nat} {ha : Nat} {a_q5 : Nat} {a_p9_q8 : Nat} {a_p9_c8 : ClassId} {a_q16 : Nat} {a_p20_q7 : Nat} {a_p20_c7 : ClassId} {a_q27 : Nat} {a_p36_q6 : Nat} {a_p36_c6 : ClassId} {a_p36_q13 : Nat} {a_p36_c13 : ClassId} {a_p36_q20 : Nat} {a_p36_c20 : ClassId} {a_q43 : Nat} {a_p51_q5 : Nat} {a_p51_p9_q8 : Nat} {a_p51_p9_c8 : ClassId} {a_p51_p9_q17 : Nat} {a_p51_p9_c17 : ClassId} {a_p51_p9_q26 : Nat} {a_p51_p9_c26 : ClassId} {a_p51_q16 : Nat} {a_p51_p25_q6 : Nat} {a_p51_p25_c6 : ClassId} {a_p51_p25_q13 : Nat} {a_p51_p25_c13 : ClassId} {a_p51_p25_q20 : Nat} {a_p51_p25_c20 : ClassId} {a_p51_q34 : Nat} {a_p51_c34 : ClassId} {a_q58 : Nat} {a_p70_q5 : Nat} {a_p70_p9_q8 : Nat} {a_p70_p9_c8 : ClassId} {a_p70_p9_q17 : Nat} {a_p70_p9_c17 : ClassId} {a_p70_p9_q26 : Nat} {a_p70_p9_c26 : ClassId} {a_p70_p9_q35 : Nat} {a_p70_p9_c35 : ClassId} {a_p70_p9_q44 : Nat} {a_p70_p9_c44 : ClassId} {a_p70_p9_q53 : Nat} {a_p70_p9_c53 : ClassId} {a_p70_p9_q61 : Nat} {a_p70_p9_c61 : ClassId} {a_p70_q16 : Nat} {a_p70_p20_q8 : Nat} {a_p70_p20_c8 : ClassId} {a_p70_p20_q17 : Nat} {a_p70_p20_c17 : ClassId} {a_p70_p20_q26 : Nat} {a_p70_p20_c26 : ClassId} {a_p70_q27 : Nat} {a_p70_p31_q7 : Nat} {a_p70_p31_c7 : ClassId} {a_p70_p31_q15 : Nat} {a_p70_p31_c15 : ClassId} {a_p70_p31_q23 : Nat} {a_p70_p31_c23 : ClassId} {a_p70_p31_q31 : Nat} {a_p70_p31_c31 : ClassId} {a_p70_p31_q39 : Nat} {a_p70_p31_c39 : ClassId} {a_p70_p31_q47 : Nat} {a_p70_p31_c47 : ClassId} {a_p70_q40 : Nat} {a_p70_c40 : ClassId} {a_p70_q61 : Nat} {a_p70_p70_q8 : Nat} {a_p70_p70_c8 : ClassId} {a_p70_p70_q16 : Nat} {a_p70_p70_c16 : ClassId} {a_p70_p70_q24 : Nat} {a_p70_p70_c24 : ClassId} {a_p70_p70_q33 : Nat} {a_p70_p70_c33 : ClassId} {cA : Nat → ClassId} {d0 : Nat → Nat} (hP1 : va_P (dC, dI) classes [(ha, .inr (0, [.ref a_q5, .ref a_q16, .ref a_q27, .ref a_q43, .ref a_q58])), (a_q5, .inr (1, [.ref a_p9_q8, .int 0])), (a_p9_q8, zi a_p9_c8 240), (a_p51_q5, .inr (2, [.ref a_p51_p9_q8, .ref a_p51_p9_q17, .ref a_p51_p9_q26, .int 0])), (a_p51_p9_q8, zi a_p51_p9_c8 241), (a_p51_p9_q17, zi a_p51_p9_c17 241), (a_p51_p9_q26, zl a_p51_p9_c26 241), (a_q16, .inr (3, [.ref a_p20_q7, .int 0, .int 0, .int 0])), (a_p20_q7, zl a_p20_c7 32), (a_q27, .inr (4, [.ref a_p36_q6, .ref a_p36_q13, .ref a_p36_q20, .int 0, .int 0])), (a_p36_q6, zi a_p36_c6 960), (a_p36_q13, zi a_p36_c13 960), (a_p36_q20, zi a_p36_c20 24), (a_p51_q16, .inr (4, [.ref a_p51_p25_q6, .ref a_p51_p25_q13, .ref a_p51_p25_q20, .int 0, .int 0])), (a_p51_p25_q6, zi a_p51_p25_c6 240), (a_p51_p25_q13, zi a_p51_p25_c13 240), (a_p51_p25_q20, zi a_p51_p25_c20 24), (a_q43, .inr (5, [.ref a_q16, .ref a_p51_q5, .ref a_p51_q16, .ref a_p51_q34, .int 0, .int 0, .int 0, .int 0, .int 0, .int 0])), (a_p51_q34, zl a_p51_c34 8), (a_p70_q5, .inr (6, [.ref a_p70_p9_q8, .ref a_p70_p9_q17, .ref a_p70_p9_q26, .ref a_p70_p9_q35, .ref a_p70_p9_q44, .ref a_p70_p9_q53, .ref a_p70_p9_q61, .int 0, .int 0, .int 0, .int 0])), (a_p70_p9_q8, zi a_p70_p9_c8 2440), (a_p70_p9_q17, zi a_p70_p9_c17 2440), (a_p70_p9_q26, zi a_p70_p9_c26 2440), (a_p70_p9_q35, zi a_p70_p9_c35 2440), (a_p70_p9_q44, zi a_p70_p9_c44 2440), (a_p70_p9_q53, zi a_p70_p9_c53 512), (a_p70_p9_q61, zi a_p70_p9_c61 8), (a_p70_q16, .inr (7, [.ref a_p70_p20_q8, .ref a_p70_p20_q17, .ref a_p70_p20_q26, .int 0, .int (-1)])), (a_p70_p20_q8, zi a_p70_p20_c8 488), (a_p70_p20_q17, zi a_p70_p20_c17 488), (a_p70_p20_q26, zi a_p70_p20_c26 488), (a_p70_q27, .inr (8, [.ref a_p70_p31_q7, .ref a_p70_p31_q15, .ref a_p70_p31_q23, .ref a_p70_p31_q31, .ref a_p70_p31_q39, .ref a_p70_p31_q47, .int 0])), (a_p70_p31_q7, zi a_p70_p31_c7 60), (a_p70_p31_q15, zi a_p70_p31_c15 60), (a_p70_p31_q23, zi a_p70_p31_c23 60), (a_p70_p31_q31, zi a_p70_p31_c31 60), (a_p70_p31_q39, zi a_p70_p31_c39 60), (a_p70_p31_q47, zi a_p70_p31_c47 60), (a_q58, .inr (9, [.ref a_q27, .ref a_q16, .ref a_p70_q5, .ref a_p70_q16, .ref a_p70_q27, .ref a_p70_q61, .ref a_p70_q40, .int 0, .int (-1), .int 0, .int 0, .int 0, .int 0, .int 0])), (a_p70_q40, zi a_p70_c40 8), (a_p70_q61, .inr (10, [.ref a_p70_q5, .ref a_q16, .ref a_p70_p70_q8, .ref a_p70_p70_q16, .ref a_p70_p70_q24, .ref a_p70_p70_q33, .int 0, .int 0, .int 0, .int 0])), (a_p70_p70_q8, zi a_p70_p70_c8 1200), (a_p70_p70_q16, zi a_p70_p70_c16 8), (a_p70_p70_q24, zi a_p70_p70_c24 120), (a_p70_p70_q33, zi a_p70_p70_c33 512)] H) (h2 : cA 1 = a_p9_c8) (h4 : cA 1 = a_p51_p9_c8) (h5 : cA 0 = a_p51_p9_c17) (h6 : cA 2 = a_p51_p9_c26) (h8 : cA 2 = a_p20_c7) (h10 : cA 0 = a_p36_c6) (h11 : cA 0 = a_p36_c13) (h12 : cA 0 = a_p36_c20) (h14 : cA 0 = a_p51_p25_c6) (h15 : cA 0 = a_p51_p25_c13) (h16 : cA 0 = a_p51_p25_c20) (h18 : cA 2 = a_p51_c34) (h20 : cA 0 = a_p70_p9_c8) (h21 : cA 0 = a_p70_p9_c17) (h22 : cA 0 = a_p70_p9_c26) (h23 : cA 0 = a_p70_p9_c35) (h24 : cA 0 = a_p70_p9_c44) (h25 : cA 0 = a_p70_p9_c53) (h26 : cA 0 = a_p70_p9_c61) (h28 : cA 0 = a_p70_p20_c8) (h29 : cA 0 = a_p70_p20_c17) (h30 : cA 0 = a_p70_p20_c26) (h32 : cA 0 = a_p70_p31_c7) (h33 : cA 0 = a_p70_p31_c15) (h34 : cA 0 = a_p70_p31_c23) (h35 : cA 0 = a_p70_p31_c31) (h36 : cA 0 = a_p70_p31_c39) (h37 : cA 0 = a_p70_p31_c47) (h39 : cA 0 = a_p70_c40) (h41 : cA 1 = a_p70_p70_c8) (h42 : cA 0 = a_p70_p70_c16) (h43 : cA 0 = a_p70_p70_c24) (h44 : cA 0 = a_p70_p70_c33) : va_P (dC, dI) classes (wsm (adL [(ha, .inr (0, [.ref a_q5, .ref a_q16, .ref a_q27, .ref a_q43, .ref a_q58])), (a_q5, .inr (1, [.ref a_p9_q8, .int 0])), (a_p9_q8, zi a_p9_c8 240), (a_p51_q5, .inr (2, [.ref a_p51_p9_q8, .ref a_p51_p9_q17, .ref a_p51_p9_q26, .int 0])), (a_p51_p9_q8, zi a_p51_p9_c8 241), (a_p51_p9_q17, zi a_p51_p9_c17 241), (a_p51_p9_q26, zl a_p51_p9_c26 241), (a_q16, .inr (3, [.ref a_p20_q7, .int 0, .int 0, .int 0])), (a_p20_q7, zl a_p20_c7 32), (a_q27, .inr (4, [.ref a_p36_q6, .ref a_p36_q13, .ref a_p36_q20, .int 0, .int 0])), (a_p36_q6, zi a_p36_c6 960), (a_p36_q13, zi a_p36_c13 960), (a_p36_q20, zi a_p36_c20 24), (a_p51_q16, .inr (4, [.ref a_p51_p25_q6, .ref a_p51_p25_q13, .ref a_p51_p25_q20, .int 0, .int 0])), (a_p51_p25_q6, zi a_p51_p25_c6 240), (a_p51_p25_q13, zi a_p51_p25_c13 240), (a_p51_p25_q20, zi a_p51_p25_c20 24), (a_q43, .inr (5, [.ref a_q16, .ref a_p51_q5, .ref a_p51_q16, .ref a_p51_q34, .int 0, .int 0, .int 0, .int 0, .int 0, .int 0])), (a_p51_q34, zl a_p51_c34 8), (a_p70_q5, .inr (6, [.ref a_p70_p9_q8, .ref a_p70_p9_q17, .ref a_p70_p9_q26, .ref a_p70_p9_q35, .ref a_p70_p9_q44, .ref a_p70_p9_q53, .ref a_p70_p9_q61, .int 0, .int 0, .int 0, .int 0])), (a_p70_p9_q8, zi a_p70_p9_c8 2440), (a_p70_p9_q17, zi a_p70_p9_c17 2440), (a_p70_p9_q26, zi a_p70_p9_c26 2440), (a_p70_p9_q35, zi a_p70_p9_c35 2440), (a_p70_p9_q44, zi a_p70_p9_c44 2440), (a_p70_p9_q53, zi a_p70_p9_c53 512), (a_p70_p9_q61, zi a_p70_p9_c61 8), (a_p70_q16, .inr (7, [.ref a_p70_p20_q8, .ref a_p70_p20_q17, .ref a_p70_p20_q26, .int 0, .int (-1)])), (a_p70_p20_q8, zi a_p70_p20_c8 488), (a_p70_p20_q17, zi a_p70_p20_c17 488), (a_p70_p20_q26, zi a_p70_p20_c26 488), (a_p70_q27, .inr (8, [.ref a_p70_p31_q7, .ref a_p70_p31_q15, .ref a_p70_p31_q23, .ref a_p70_p31_q31, .ref a_p70_p31_q39, .ref a_p70_p31_q47, .int 0])), (a_p70_p31_q7, zi a_p70_p31_c7 60), (a_p70_p31_q15, zi a_p70_p31_c15 60), (a_p70_p31_q23, zi a_p70_p31_c23 60), (a_p70_p31_q31, zi a_p70_p31_c31 60), (a_p70_p31_q39, zi a_p70_p31_c39 60), (a_p70_p31_q47, zi a_p70_p31_c47 60), (a_q58, .inr (9, [.ref a_q27, .ref a_q16, .ref a_p70_q5, .ref a_p70_q16, .ref a_p70_q27, .ref a_p70_q61, .ref a_p70_q40, .int 0, .int (-1), .int 0, .int 0, .int 0, .int 0, .int 0])), (a_p70_q40, zi a_p70_c40 8), (a_p70_q61, .inr (10, [.ref a_p70_q5, .ref a_q16, .ref a_p70_p70_q8, .ref a_p70_p70_q16, .ref a_p70_p70_q24, .ref a_p70_p70_q33, .int 0, .int 0, .int 0, .int 0])), (a_p70_p70_q8, zi a_p70_p70_c8 1200), (a_p70_p70_q16, zi a_p70_p70_c16 8), (a_p70_p70_q24, zi a_p70_p70_c24 120), (a_p70_p70_q33, zi a_p70_p70_c33 512)] d0) cA (shC z0 z0 z0 z0 z0 z0 z0 (sI z0 1 (-1)) z0 (sI z0 1 (-1)) z0)) H := by
  obtain ⟨ad, ead⟩ : ∃ ad : Nat → Nat, ad = adL [(ha, .inr (0, [.ref a_q5, .ref a_q16, .ref a_q27, .ref a_q43, .ref a_q58])), (a_q5, .inr (1, [.ref a_p9_q8, .int 0])), (a_p9_q8, zi a_p9_c8 240), (a_p51_q5, .inr (2, [.ref a_p51_p9_q8, .ref a_p51_p9_q17, .ref a_p51_p9_q26, .int 0])), (a_p51_p9_q8, zi a_p51_p9_c8 241), (a_p51_p9_q17, zi a_p51_p9_c17 241), (a_p51_p9_q26, zl a_p51_p9_c26 241), (a_q16, .inr (3, [.ref a_p20_q7, .int 0, .int 0, .int 0])), (a_p20_q7, zl a_p20_c7 32), (a_q27, .inr (4, [.ref a_p36_q6, .ref a_p36_q13, .ref a_p36_q20, .int 0, .int 0])), (a_p36_q6, zi a_p36_c6 960), (a_p36_q13, zi a_p36_c13 960), (a_p36_q20, zi a_p36_c20 24), (a_p51_q16, .inr (4, [.ref a_p51_p25_q6, .ref a_p51_p25_q13, .ref a_p51_p25_q20, .int 0, .int 0])), (a_p51_p25_q6, zi a_p51_p25_c6 240), (a_p51_p25_q13, zi a_p51_p25_c13 240), (a_p51_p25_q20, zi a_p51_p25_c20 24), (a_q43, .inr (5, [.ref a_q16, .ref a_p51_q5, .ref a_p51_q16, .ref a_p51_q34, .int 0, .int 0, .int 0, .int 0, .int 0, .int 0])), (a_p51_q34, zl a_p51_c34 8), (a_p70_q5, .inr (6, [.ref a_p70_p9_q8, .ref a_p70_p9_q17, .ref a_p70_p9_q26, .ref a_p70_p9_q35, .ref a_p70_p9_q44, .ref a_p70_p9_q53, .ref a_p70_p9_q61, .int 0, .int 0, .int 0, .int 0])), (a_p70_p9_q8, zi a_p70_p9_c8 2440), (a_p70_p9_q17, zi a_p70_p9_c17 2440), (a_p70_p9_q26, zi a_p70_p9_c26 2440), (a_p70_p9_q35, zi a_p70_p9_c35 2440), (a_p70_p9_q44, zi a_p70_p9_c44 2440), (a_p70_p9_q53, zi a_p70_p9_c53 512), (a_p70_p9_q61, zi a_p70_p9_c61 8), (a_p70_q16, .inr (7, [.ref a_p70_p20_q8, .ref a_p70_p20_q17, .ref a_p70_p20_q26, .int 0, .int (-1)])), (a_p70_p20_q8, zi a_p70_p20_c8 488), (a_p70_p20_q17, zi a_p70_p20_c17 488), (a_p70_p20_q26, zi a_p70_p20_c26 488), (a_p70_q27, .inr (8, [.ref a_p70_p31_q7, .ref a_p70_p31_q15, .ref a_p70_p31_q23, .ref a_p70_p31_q31, .ref a_p70_p31_q39, .ref a_p70_p31_q47, .int 0])), (a_p70_p31_q7, zi a_p70_p31_c7 60), (a_p70_p31_q15, zi a_p70_p31_c15 60), (a_p70_p31_q23, zi a_p70_p31_c23 60), (a_p70_p31_q31, zi a_p70_p31_c31 60), (a_p70_p31_q39, zi a_p70_p31_c39 60), (a_p70_p31_q47, zi a_p70_p31_c47 60), (a_q58, .inr (9, [.ref a_q27, .ref a_q16, .ref a_p70_q5, .ref a_p70_q16, .ref a_p70_q27, .ref a_p70_q61, .ref a_p70_q40, .int 0, .int (-1), .int 0, .int 0, .int 0, .int 0, .int 0])), (a_p70_q40, zi a_p70_c40 8), (a_p70_q61, .inr (10, [.ref a_p70_q5, .ref a_q16, .ref a_p70_p70_q8, .ref a_p70_p70_q16, .ref a_p70_p70_q24, .ref a_p70_p70_q33, .int 0, .int 0, .int 0, .int 0])), (a_p70_p70_q8, zi a_p70_p70_c8 1200), (a_p70_p70_q16, zi a_p70_p70_c16 8), (a_p70_p70_q24, zi a_p70_p70_c24 120), (a_p70_p70_q33, zi a_p70_p70_c33 512)] d0 := ⟨_, rfl⟩
  rw [← ead]
  have a1_0 : ad 0 = ha := by rw [ead]; rfl
  have a1_1 : ad 1 = a_q5 := by rw [ead]; rfl
  have a1_2 : ad 2 = a_p9_q8 := by rw [ead]; rfl
  have a1_3 : ad 3 = a_p51_q5 := by rw [ead]; rfl
  have a1_4 : ad 4 = a_p51_p9_q8 := by rw [ead]; rfl
  have a1_5 : ad 5 = a_p51_p9_q17 := by rw [ead]; rfl
  have a1_6 : ad 6 = a_p51_p9_q26 := by rw [ead]; rfl
  have a1_7 : ad 7 = a_q16 := by rw [ead]; rfl
  have a1_8 : ad 8 = a_p20_q7 := by rw [ead]; rfl
  have a1_9 : ad 9 = a_q27 := by rw [ead]; rfl
  have a1_10 : ad 10 = a_p36_q6 := by rw [ead]; rfl
  have a1_11 : ad 11 = a_p36_q13 := by rw [ead]; rfl
  have a1_12 : ad 12 = a_p36_q20 := by rw [ead]; rfl
  have a1_13 : ad 13 = a_p51_q16 := by rw [ead]; rfl
  have a1_14 : ad 14 = a_p51_p25_q6 := by rw [ead]; rfl
  have a1_15 : ad 15 = a_p51_p25_q13 := by rw [ead]; rfl
  have a1_16 : ad 16 = a_p51_p25_q20 := by rw [ead]; rfl
  have a1_17 : ad 17 = a_q43 := by rw [ead]; rfl
  have a1_18 : ad 18 = a_p51_q34 := by rw [ead]; rfl
  have a1_19 : ad 19 = a_p70_q5 := by rw [ead]; rfl
  have a1_20 : ad 20 = a_p70_p9_q8 := by rw [ead]; rfl
  have a1_21 : ad 21 = a_p70_p9_q17 := by rw [ead]; rfl
  have a1_22 : ad 22 = a_p70_p9_q26 := by rw [ead]; rfl
  have a1_23 : ad 23 = a_p70_p9_q35 := by rw [ead]; rfl
  have a1_24 : ad 24 = a_p70_p9_q44 := by rw [ead]; rfl
  have a1_25 : ad 25 = a_p70_p9_q53 := by rw [ead]; rfl
  have a1_26 : ad 26 = a_p70_p9_q61 := by rw [ead]; rfl
  have a1_27 : ad 27 = a_p70_q16 := by rw [ead]; rfl
  have a1_28 : ad 28 = a_p70_p20_q8 := by rw [ead]; rfl
  have a1_29 : ad 29 = a_p70_p20_q17 := by rw [ead]; rfl
  have a1_30 : ad 30 = a_p70_p20_q26 := by rw [ead]; rfl
  have a1_31 : ad 31 = a_p70_q27 := by rw [ead]; rfl
  have a1_32 : ad 32 = a_p70_p31_q7 := by rw [ead]; rfl
  have a1_33 : ad 33 = a_p70_p31_q15 := by rw [ead]; rfl
  have a1_34 : ad 34 = a_p70_p31_q23 := by rw [ead]; rfl
  have a1_35 : ad 35 = a_p70_p31_q31 := by rw [ead]; rfl
  have a1_36 : ad 36 = a_p70_p31_q39 := by rw [ead]; rfl
  have a1_37 : ad 37 = a_p70_p31_q47 := by rw [ead]; rfl
  have a1_38 : ad 38 = a_q58 := by rw [ead]; rfl
  have a1_39 : ad 39 = a_p70_q40 := by rw [ead]; rfl
  have a1_40 : ad 40 = a_p70_q61 := by rw [ead]; rfl
  have a1_41 : ad 41 = a_p70_p70_q8 := by rw [ead]; rfl
  have a1_42 : ad 42 = a_p70_p70_q16 := by rw [ead]; rfl
  have a1_43 : ad 43 = a_p70_p70_q24 := by rw [ead]; rfl
  have a1_44 : ad 44 = a_p70_p70_q33 := by rw [ead]; rfl
  clear ead
  refine wsm_of (fun k c hk => ?_)
  match k, hk with
  | 0, hk => cases hk; rw [a1_0]; exact va_at_eq (hP1 0 _ rfl) (ob_ce (fl_c (fl_r a1_1) (fl_c (fl_r a1_7) (fl_c (fl_r a1_9) (fl_c (fl_r a1_17) (fl_c (fl_r a1_38) (fl_n)))))))
  | 1, hk => cases hk; rw [a1_1]; exact va_at_eq (hP1 1 _ rfl) (ob_ce (fl_c (fl_r a1_2) (fl_c (fl_i rfl) (fl_n))))
  | 2, hk => cases hk; rw [a1_2]; exact va_at_eq (hP1 2 _ rfl) (zi_ce (t := 1) h2 (fun _ => rfl))
  | 3, hk => cases hk; rw [a1_3]; exact va_at_eq (hP1 3 _ rfl) (ob_ce (fl_c (fl_r a1_4) (fl_c (fl_r a1_5) (fl_c (fl_r a1_6) (fl_c (fl_i rfl) (fl_n))))))
  | 4, hk => cases hk; rw [a1_4]; exact va_at_eq (hP1 4 _ rfl) (zi_ce (t := 1) h4 (fun _ => rfl))
  | 5, hk => cases hk; rw [a1_5]; exact va_at_eq (hP1 5 _ rfl) (zi_ce (t := 0) h5 (fun _ => rfl))
  | 6, hk => cases hk; rw [a1_6]; exact va_at_eq (hP1 6 _ rfl) (zl_ce h6 (fun _ => rfl))
  | 7, hk => cases hk; rw [a1_7]; exact va_at_eq (hP1 7 _ rfl) (ob_ce (fl_c (fl_r a1_8) (fl_c (fl_i rfl) (fl_c (fl_i rfl) (fl_c (fl_i rfl) (fl_n))))))
  | 8, hk => cases hk; rw [a1_8]; exact va_at_eq (hP1 8 _ rfl) (zl_ce h8 (fun _ => rfl))
  | 9, hk => cases hk; rw [a1_9]; exact va_at_eq (hP1 9 _ rfl) (ob_ce (fl_c (fl_r a1_10) (fl_c (fl_r a1_11) (fl_c (fl_r a1_12) (fl_c (fl_i rfl) (fl_c (fl_i rfl) (fl_n)))))))
  | 10, hk => cases hk; rw [a1_10]; exact va_at_eq (hP1 10 _ rfl) (zi_ce (t := 0) h10 (fun _ => rfl))
  | 11, hk => cases hk; rw [a1_11]; exact va_at_eq (hP1 11 _ rfl) (zi_ce (t := 0) h11 (fun _ => rfl))
  | 12, hk => cases hk; rw [a1_12]; exact va_at_eq (hP1 12 _ rfl) (zi_ce (t := 0) h12 (fun _ => rfl))
  | 13, hk => cases hk; rw [a1_13]; exact va_at_eq (hP1 13 _ rfl) (ob_ce (fl_c (fl_r a1_14) (fl_c (fl_r a1_15) (fl_c (fl_r a1_16) (fl_c (fl_i rfl) (fl_c (fl_i rfl) (fl_n)))))))
  | 14, hk => cases hk; rw [a1_14]; exact va_at_eq (hP1 14 _ rfl) (zi_ce (t := 0) h14 (fun _ => rfl))
  | 15, hk => cases hk; rw [a1_15]; exact va_at_eq (hP1 15 _ rfl) (zi_ce (t := 0) h15 (fun _ => rfl))
  | 16, hk => cases hk; rw [a1_16]; exact va_at_eq (hP1 16 _ rfl) (zi_ce (t := 0) h16 (fun _ => rfl))
  | 17, hk => cases hk; rw [a1_17]; exact va_at_eq (hP1 17 _ rfl) (ob_ce (fl_c (fl_r a1_7) (fl_c (fl_r a1_3) (fl_c (fl_r a1_13) (fl_c (fl_r a1_18) (fl_c (fl_i rfl) (fl_c (fl_i rfl) (fl_c (fl_i rfl) (fl_c (fl_i rfl) (fl_c (fl_i rfl) (fl_c (fl_i rfl) (fl_n))))))))))))
  | 18, hk => cases hk; rw [a1_18]; exact va_at_eq (hP1 18 _ rfl) (zl_ce h18 (fun _ => rfl))
  | 19, hk => cases hk; rw [a1_19]; exact va_at_eq (hP1 19 _ rfl) (ob_ce (fl_c (fl_r a1_20) (fl_c (fl_r a1_21) (fl_c (fl_r a1_22) (fl_c (fl_r a1_23) (fl_c (fl_r a1_24) (fl_c (fl_r a1_25) (fl_c (fl_r a1_26) (fl_c (fl_i rfl) (fl_c (fl_i rfl) (fl_c (fl_i rfl) (fl_c (fl_i rfl) (fl_n)))))))))))))
  | 20, hk => cases hk; rw [a1_20]; exact va_at_eq (hP1 20 _ rfl) (zi_ce (t := 0) h20 (fun _ => rfl))
  | 21, hk => cases hk; rw [a1_21]; exact va_at_eq (hP1 21 _ rfl) (zi_ce (t := 0) h21 (fun _ => rfl))
  | 22, hk => cases hk; rw [a1_22]; exact va_at_eq (hP1 22 _ rfl) (zi_ce (t := 0) h22 (fun _ => rfl))
  | 23, hk => cases hk; rw [a1_23]; exact va_at_eq (hP1 23 _ rfl) (zi_ce (t := 0) h23 (fun _ => rfl))
  | 24, hk => cases hk; rw [a1_24]; exact va_at_eq (hP1 24 _ rfl) (zi_ce (t := 0) h24 (fun _ => rfl))
  | 25, hk => cases hk; rw [a1_25]; exact va_at_eq (hP1 25 _ rfl) (zi_ce (t := 0) h25 (fun _ => rfl))
  | 26, hk => cases hk; rw [a1_26]; exact va_at_eq (hP1 26 _ rfl) (zi_ce (t := 0) h26 (fun _ => rfl))
  | 27, hk => cases hk; rw [a1_27]; exact va_at_eq (hP1 27 _ rfl) (ob_ce (fl_c (fl_r a1_28) (fl_c (fl_r a1_29) (fl_c (fl_r a1_30) (fl_c (fl_i rfl) (fl_c (fl_m rfl) (fl_n)))))))
  | 28, hk => cases hk; rw [a1_28]; exact va_at_eq (hP1 28 _ rfl) (zi_ce (t := 0) h28 (fun _ => rfl))
  | 29, hk => cases hk; rw [a1_29]; exact va_at_eq (hP1 29 _ rfl) (zi_ce (t := 0) h29 (fun _ => rfl))
  | 30, hk => cases hk; rw [a1_30]; exact va_at_eq (hP1 30 _ rfl) (zi_ce (t := 0) h30 (fun _ => rfl))
  | 31, hk => cases hk; rw [a1_31]; exact va_at_eq (hP1 31 _ rfl) (ob_ce (fl_c (fl_r a1_32) (fl_c (fl_r a1_33) (fl_c (fl_r a1_34) (fl_c (fl_r a1_35) (fl_c (fl_r a1_36) (fl_c (fl_r a1_37) (fl_c (fl_i rfl) (fl_n)))))))))
  | 32, hk => cases hk; rw [a1_32]; exact va_at_eq (hP1 32 _ rfl) (zi_ce (t := 0) h32 (fun _ => rfl))
  | 33, hk => cases hk; rw [a1_33]; exact va_at_eq (hP1 33 _ rfl) (zi_ce (t := 0) h33 (fun _ => rfl))
  | 34, hk => cases hk; rw [a1_34]; exact va_at_eq (hP1 34 _ rfl) (zi_ce (t := 0) h34 (fun _ => rfl))
  | 35, hk => cases hk; rw [a1_35]; exact va_at_eq (hP1 35 _ rfl) (zi_ce (t := 0) h35 (fun _ => rfl))
  | 36, hk => cases hk; rw [a1_36]; exact va_at_eq (hP1 36 _ rfl) (zi_ce (t := 0) h36 (fun _ => rfl))
  | 37, hk => cases hk; rw [a1_37]; exact va_at_eq (hP1 37 _ rfl) (zi_ce (t := 0) h37 (fun _ => rfl))
  | 38, hk => cases hk; rw [a1_38]; exact va_at_eq (hP1 38 _ rfl) (ob_ce (fl_c (fl_r a1_9) (fl_c (fl_r a1_7) (fl_c (fl_r a1_19) (fl_c (fl_r a1_27) (fl_c (fl_r a1_31) (fl_c (fl_r a1_40) (fl_c (fl_r a1_39) (fl_c (fl_i rfl) (fl_c (fl_m rfl) (fl_c (fl_i rfl) (fl_c (fl_i rfl) (fl_c (fl_i rfl) (fl_c (fl_i rfl) (fl_c (fl_i rfl) (fl_n))))))))))))))))
  | 39, hk => cases hk; rw [a1_39]; exact va_at_eq (hP1 39 _ rfl) (zi_ce (t := 0) h39 (fun _ => rfl))
  | 40, hk => cases hk; rw [a1_40]; exact va_at_eq (hP1 40 _ rfl) (ob_ce (fl_c (fl_r a1_19) (fl_c (fl_r a1_7) (fl_c (fl_r a1_41) (fl_c (fl_r a1_42) (fl_c (fl_r a1_43) (fl_c (fl_r a1_44) (fl_c (fl_i rfl) (fl_c (fl_i rfl) (fl_c (fl_i rfl) (fl_c (fl_i rfl) (fl_n))))))))))))
  | 41, hk => cases hk; rw [a1_41]; exact va_at_eq (hP1 41 _ rfl) (zi_ce (t := 1) h41 (fun _ => rfl))
  | 42, hk => cases hk; rw [a1_42]; exact va_at_eq (hP1 42 _ rfl) (zi_ce (t := 0) h42 (fun _ => rfl))
  | 43, hk => cases hk; rw [a1_43]; exact va_at_eq (hP1 43 _ rfl) (zi_ce (t := 0) h43 (fun _ => rfl))
  | 44, hk => cases hk; rw [a1_44]; exact va_at_eq (hP1 44 _ rfl) (zi_ce (t := 0) h44 (fun _ => rfl))
  | k + 45, hk => exact absurd (List.getElem?_eq_some_iff.mp hk).1 (by show ¬ k + 45 < 45; omega)
set_option maxHeartbeats 4000000 in
set_option maxRecDepth 100000 in
theorem mk_w2 {H : Heap} {dC : Nat → ClassId} {dI : Nat → Nat → Nat} {hb0 : Nat} {b_q8 : Nat} {b_c8 : ClassId} {b_q17 : Nat} {b_c17 : ClassId} {b_q26 : Nat} {b_c26 : ClassId} {b_q35 : Nat} {b_c35 : ClassId} {b_q44 : Nat} {b_c44 : ClassId} {b_q53 : Nat} {b_c53 : ClassId} {b_q62 : Nat} {b_c62 : ClassId} {b_q71 : Nat} {b_c71 : ClassId} {b_q80 : Nat} {b_c80 : ClassId} {b_q88 : Nat} {b_c88 : ClassId} {b_q96 : Nat} {b_c96 : ClassId} {b_q104 : Nat} {b_c104 : ClassId} {b_q113 : Nat} {b_c113 : ClassId} {b_q122 : Nat} {b_c122 : ClassId} {b_q130 : Nat} {b_c130 : ClassId} {b_q138 : Nat} {b_c138 : ClassId} {b_q147 : Nat} {b_c147 : ClassId} {b_q156 : Nat} {b_c156 : ClassId} {b_q164 : Nat} {b_c164 : ClassId} {b_q172 : Nat} {b_c172 : ClassId} {b_q180 : Nat} {b_c180 : ClassId} {b_q188 : Nat} {b_c188 : ClassId} {b_q196 : Nat} {b_c196 : ClassId} {b_q205 : Nat} {b_c205 : ClassId} {b_q214 : Nat} {b_c214 : ClassId} {b_q223 : Nat} {b_c223 : ClassId} {b_q232 : Nat} {b_c232 : ClassId} {b_q241 : Nat} {b_c241 : ClassId} {b_q250 : Nat} {b_c250 : ClassId} {b_q259 : Nat} {b_c259 : ClassId} {b_q268 : Nat} {b_c268 : ClassId} {cA : Nat → ClassId} {d0 : Nat → Nat} (hP2 : va_P (dC, dI) classes [(hb0, .inr (11, [.ref b_q8, .int 0, .int 0, .int 0, .int 0, .long 0, .ref b_q17, .ref b_q26, .int 0, .int 0, .ref b_q35, .ref b_q44, .ref b_q53, .int 0, .ref b_q62, .ref b_q71, .ref b_q80, .int 0, .int 0, .ref b_q88, .ref b_q96, .ref b_q104, .int 0, .ref b_q113, .ref b_q122, .int 0, .ref b_q130, .ref b_q138, .ref b_q147, .int 0, .ref b_q156, .int 0, .ref b_q164, .int 0, .int 0, .int 0, .int 0, .ref b_q172, .ref b_q180, .int 0, .ref b_q188, .ref b_q196, .int 0, .ref b_q205, .ref b_q214, .ref b_q223, .ref b_q232, .ref b_q241, .int 0, .int 0, .ref b_q250, .ref b_q259, .int 0, .ref b_q268, .int 0])), (b_q8, zi b_c8 240), (b_q17, zl b_c17 500), (b_q26, zi b_c26 500), (b_q35, zi b_c35 242), (b_q44, zi b_c44 242), (b_q53, zi b_c53 242), (b_q62, zi b_c62 242), (b_q71, zl b_c71 242), (b_q80, zi b_c80 242), (b_q88, zi b_c88 16), (b_q96, zi b_c96 16), (b_q104, zi b_c104 16), (b_q113, zl b_c113 1000), (b_q122, zi b_c122 1000), (b_q130, zi b_c130 25), (b_q138, zi b_c138 25), (b_q147, zi b_c147 200), (b_q156, zl b_c156 300), (b_q164, zi b_c164 8), (b_q172, zi b_c172 61), (b_q180, zi b_c180 61), (b_q188, zi b_c188 61), (b_q196, zi b_c196 61), (b_q205, zi b_c205 300), (b_q214, zi b_c214 300), (b_q223, zi b_c223 300), (b_q232, zi b_c232 488), (b_q241, zi b_c241 488), (b_q250, zi b_c250 8000), (b_q259, zi b_c259 3000), (b_q268, zi b_c268 488)] H) (h1 : cA 0 = b_c8) (h2 : cA 2 = b_c17) (h3 : cA 0 = b_c26) (h4 : cA 0 = b_c35) (h5 : cA 0 = b_c44) (h6 : cA 0 = b_c53) (h7 : cA 0 = b_c62) (h8 : cA 2 = b_c71) (h9 : cA 0 = b_c80) (h10 : cA 0 = b_c88) (h11 : cA 0 = b_c96) (h12 : cA 0 = b_c104) (h13 : cA 2 = b_c113) (h14 : cA 0 = b_c122) (h15 : cA 0 = b_c130) (h16 : cA 0 = b_c138) (h17 : cA 0 = b_c147) (h18 : cA 2 = b_c156) (h19 : cA 0 = b_c164) (h20 : cA 0 = b_c172) (h21 : cA 0 = b_c180) (h22 : cA 0 = b_c188) (h23 : cA 0 = b_c196) (h24 : cA 0 = b_c205) (h25 : cA 0 = b_c214) (h26 : cA 0 = b_c223) (h27 : cA 0 = b_c232) (h28 : cA 0 = b_c241) (h29 : cA 0 = b_c250) (h30 : cA 0 = b_c259) (h31 : cA 0 = b_c268) : va_P (dC, dI) classes (wsm (adL [(hb0, .inr (11, [.ref b_q8, .int 0, .int 0, .int 0, .int 0, .long 0, .ref b_q17, .ref b_q26, .int 0, .int 0, .ref b_q35, .ref b_q44, .ref b_q53, .int 0, .ref b_q62, .ref b_q71, .ref b_q80, .int 0, .int 0, .ref b_q88, .ref b_q96, .ref b_q104, .int 0, .ref b_q113, .ref b_q122, .int 0, .ref b_q130, .ref b_q138, .ref b_q147, .int 0, .ref b_q156, .int 0, .ref b_q164, .int 0, .int 0, .int 0, .int 0, .ref b_q172, .ref b_q180, .int 0, .ref b_q188, .ref b_q196, .int 0, .ref b_q205, .ref b_q214, .ref b_q223, .ref b_q232, .ref b_q241, .int 0, .int 0, .ref b_q250, .ref b_q259, .int 0, .ref b_q268, .int 0])), (b_q8, zi b_c8 240), (b_q17, zl b_c17 500), (b_q26, zi b_c26 500), (b_q35, zi b_c35 242), (b_q44, zi b_c44 242), (b_q53, zi b_c53 242), (b_q62, zi b_c62 242), (b_q71, zl b_c71 242), (b_q80, zi b_c80 242), (b_q88, zi b_c88 16), (b_q96, zi b_c96 16), (b_q104, zi b_c104 16), (b_q113, zl b_c113 1000), (b_q122, zi b_c122 1000), (b_q130, zi b_c130 25), (b_q138, zi b_c138 25), (b_q147, zi b_c147 200), (b_q156, zl b_c156 300), (b_q164, zi b_c164 8), (b_q172, zi b_c172 61), (b_q180, zi b_c180 61), (b_q188, zi b_c188 61), (b_q196, zi b_c196 61), (b_q205, zi b_c205 300), (b_q214, zi b_c214 300), (b_q223, zi b_c223 300), (b_q232, zi b_c232 488), (b_q241, zi b_c241 488), (b_q250, zi b_c250 8000), (b_q259, zi b_c259 3000), (b_q268, zi b_c268 488)] d0) cA (shM z0)) H := by
  obtain ⟨ad, ead⟩ : ∃ ad : Nat → Nat, ad = adL [(hb0, .inr (11, [.ref b_q8, .int 0, .int 0, .int 0, .int 0, .long 0, .ref b_q17, .ref b_q26, .int 0, .int 0, .ref b_q35, .ref b_q44, .ref b_q53, .int 0, .ref b_q62, .ref b_q71, .ref b_q80, .int 0, .int 0, .ref b_q88, .ref b_q96, .ref b_q104, .int 0, .ref b_q113, .ref b_q122, .int 0, .ref b_q130, .ref b_q138, .ref b_q147, .int 0, .ref b_q156, .int 0, .ref b_q164, .int 0, .int 0, .int 0, .int 0, .ref b_q172, .ref b_q180, .int 0, .ref b_q188, .ref b_q196, .int 0, .ref b_q205, .ref b_q214, .ref b_q223, .ref b_q232, .ref b_q241, .int 0, .int 0, .ref b_q250, .ref b_q259, .int 0, .ref b_q268, .int 0])), (b_q8, zi b_c8 240), (b_q17, zl b_c17 500), (b_q26, zi b_c26 500), (b_q35, zi b_c35 242), (b_q44, zi b_c44 242), (b_q53, zi b_c53 242), (b_q62, zi b_c62 242), (b_q71, zl b_c71 242), (b_q80, zi b_c80 242), (b_q88, zi b_c88 16), (b_q96, zi b_c96 16), (b_q104, zi b_c104 16), (b_q113, zl b_c113 1000), (b_q122, zi b_c122 1000), (b_q130, zi b_c130 25), (b_q138, zi b_c138 25), (b_q147, zi b_c147 200), (b_q156, zl b_c156 300), (b_q164, zi b_c164 8), (b_q172, zi b_c172 61), (b_q180, zi b_c180 61), (b_q188, zi b_c188 61), (b_q196, zi b_c196 61), (b_q205, zi b_c205 300), (b_q214, zi b_c214 300), (b_q223, zi b_c223 300), (b_q232, zi b_c232 488), (b_q241, zi b_c241 488), (b_q250, zi b_c250 8000), (b_q259, zi b_c259 3000), (b_q268, zi b_c268 488)] d0 := ⟨_, rfl⟩
  rw [← ead]
  have a2_0 : ad 0 = hb0 := by rw [ead]; rfl
  have a2_1 : ad 1 = b_q8 := by rw [ead]; rfl
  have a2_2 : ad 2 = b_q17 := by rw [ead]; rfl
  have a2_3 : ad 3 = b_q26 := by rw [ead]; rfl
  have a2_4 : ad 4 = b_q35 := by rw [ead]; rfl
  have a2_5 : ad 5 = b_q44 := by rw [ead]; rfl
  have a2_6 : ad 6 = b_q53 := by rw [ead]; rfl
  have a2_7 : ad 7 = b_q62 := by rw [ead]; rfl
  have a2_8 : ad 8 = b_q71 := by rw [ead]; rfl
  have a2_9 : ad 9 = b_q80 := by rw [ead]; rfl
  have a2_10 : ad 10 = b_q88 := by rw [ead]; rfl
  have a2_11 : ad 11 = b_q96 := by rw [ead]; rfl
  have a2_12 : ad 12 = b_q104 := by rw [ead]; rfl
  have a2_13 : ad 13 = b_q113 := by rw [ead]; rfl
  have a2_14 : ad 14 = b_q122 := by rw [ead]; rfl
  have a2_15 : ad 15 = b_q130 := by rw [ead]; rfl
  have a2_16 : ad 16 = b_q138 := by rw [ead]; rfl
  have a2_17 : ad 17 = b_q147 := by rw [ead]; rfl
  have a2_18 : ad 18 = b_q156 := by rw [ead]; rfl
  have a2_19 : ad 19 = b_q164 := by rw [ead]; rfl
  have a2_20 : ad 20 = b_q172 := by rw [ead]; rfl
  have a2_21 : ad 21 = b_q180 := by rw [ead]; rfl
  have a2_22 : ad 22 = b_q188 := by rw [ead]; rfl
  have a2_23 : ad 23 = b_q196 := by rw [ead]; rfl
  have a2_24 : ad 24 = b_q205 := by rw [ead]; rfl
  have a2_25 : ad 25 = b_q214 := by rw [ead]; rfl
  have a2_26 : ad 26 = b_q223 := by rw [ead]; rfl
  have a2_27 : ad 27 = b_q232 := by rw [ead]; rfl
  have a2_28 : ad 28 = b_q241 := by rw [ead]; rfl
  have a2_29 : ad 29 = b_q250 := by rw [ead]; rfl
  have a2_30 : ad 30 = b_q259 := by rw [ead]; rfl
  have a2_31 : ad 31 = b_q268 := by rw [ead]; rfl
  clear ead
  refine wsm_of (fun k c hk => ?_)
  match k, hk with
  | 0, hk => cases hk; rw [a2_0]; exact va_at_eq (hP2 0 _ rfl) (ob_ce (fl_c (fl_r a2_1) (fl_c (fl_i rfl) (fl_c (fl_i rfl) (fl_c (fl_i rfl) (fl_c (fl_i rfl) (fl_c (fl_l rfl) (fl_c (fl_r a2_2) (fl_c (fl_r a2_3) (fl_c (fl_i rfl) (fl_c (fl_i rfl) (fl_c (fl_r a2_4) (fl_c (fl_r a2_5) (fl_c (fl_r a2_6) (fl_c (fl_i rfl) (fl_c (fl_r a2_7) (fl_c (fl_r a2_8) (fl_c (fl_r a2_9) (fl_c (fl_i rfl) (fl_c (fl_i rfl) (fl_c (fl_r a2_10) (fl_c (fl_r a2_11) (fl_c (fl_r a2_12) (fl_c (fl_i rfl) (fl_c (fl_r a2_13) (fl_c (fl_r a2_14) (fl_c (fl_i rfl) (fl_c (fl_r a2_15) (fl_c (fl_r a2_16) (fl_c (fl_r a2_17) (fl_c (fl_i rfl) (fl_c (fl_r a2_18) (fl_c (fl_i rfl) (fl_c (fl_r a2_19) (fl_c (fl_i rfl) (fl_c (fl_i rfl) (fl_c (fl_i rfl) (fl_c (fl_i rfl) (fl_c (fl_r a2_20) (fl_c (fl_r a2_21) (fl_c (fl_i rfl) (fl_c (fl_r a2_22) (fl_c (fl_r a2_23) (fl_c (fl_i rfl) (fl_c (fl_r a2_24) (fl_c (fl_r a2_25) (fl_c (fl_r a2_26) (fl_c (fl_r a2_27) (fl_c (fl_r a2_28) (fl_c (fl_i rfl) (fl_c (fl_i rfl) (fl_c (fl_r a2_29) (fl_c (fl_r a2_30) (fl_c (fl_i rfl) (fl_c (fl_r a2_31) (fl_c (fl_i rfl) (fl_n)))))))))))))))))))))))))))))))))))))))))))))))))))))))))
  | 1, hk => cases hk; rw [a2_1]; exact va_at_eq (hP2 1 _ rfl) (zi_ce (t := 0) h1 (fun _ => rfl))
  | 2, hk => cases hk; rw [a2_2]; exact va_at_eq (hP2 2 _ rfl) (zl_ce h2 (fun _ => rfl))
  | 3, hk => cases hk; rw [a2_3]; exact va_at_eq (hP2 3 _ rfl) (zi_ce (t := 0) h3 (fun _ => rfl))
  | 4, hk => cases hk; rw [a2_4]; exact va_at_eq (hP2 4 _ rfl) (zi_ce (t := 0) h4 (fun _ => rfl))
  | 5, hk => cases hk; rw [a2_5]; exact va_at_eq (hP2 5 _ rfl) (zi_ce (t := 0) h5 (fun _ => rfl))
  | 6, hk => cases hk; rw [a2_6]; exact va_at_eq (hP2 6 _ rfl) (zi_ce (t := 0) h6 (fun _ => rfl))
  | 7, hk => cases hk; rw [a2_7]; exact va_at_eq (hP2 7 _ rfl) (zi_ce (t := 0) h7 (fun _ => rfl))
  | 8, hk => cases hk; rw [a2_8]; exact va_at_eq (hP2 8 _ rfl) (zl_ce h8 (fun _ => rfl))
  | 9, hk => cases hk; rw [a2_9]; exact va_at_eq (hP2 9 _ rfl) (zi_ce (t := 0) h9 (fun _ => rfl))
  | 10, hk => cases hk; rw [a2_10]; exact va_at_eq (hP2 10 _ rfl) (zi_ce (t := 0) h10 (fun _ => rfl))
  | 11, hk => cases hk; rw [a2_11]; exact va_at_eq (hP2 11 _ rfl) (zi_ce (t := 0) h11 (fun _ => rfl))
  | 12, hk => cases hk; rw [a2_12]; exact va_at_eq (hP2 12 _ rfl) (zi_ce (t := 0) h12 (fun _ => rfl))
  | 13, hk => cases hk; rw [a2_13]; exact va_at_eq (hP2 13 _ rfl) (zl_ce h13 (fun _ => rfl))
  | 14, hk => cases hk; rw [a2_14]; exact va_at_eq (hP2 14 _ rfl) (zi_ce (t := 0) h14 (fun _ => rfl))
  | 15, hk => cases hk; rw [a2_15]; exact va_at_eq (hP2 15 _ rfl) (zi_ce (t := 0) h15 (fun _ => rfl))
  | 16, hk => cases hk; rw [a2_16]; exact va_at_eq (hP2 16 _ rfl) (zi_ce (t := 0) h16 (fun _ => rfl))
  | 17, hk => cases hk; rw [a2_17]; exact va_at_eq (hP2 17 _ rfl) (zi_ce (t := 0) h17 (fun _ => rfl))
  | 18, hk => cases hk; rw [a2_18]; exact va_at_eq (hP2 18 _ rfl) (zl_ce h18 (fun _ => rfl))
  | 19, hk => cases hk; rw [a2_19]; exact va_at_eq (hP2 19 _ rfl) (zi_ce (t := 0) h19 (fun _ => rfl))
  | 20, hk => cases hk; rw [a2_20]; exact va_at_eq (hP2 20 _ rfl) (zi_ce (t := 0) h20 (fun _ => rfl))
  | 21, hk => cases hk; rw [a2_21]; exact va_at_eq (hP2 21 _ rfl) (zi_ce (t := 0) h21 (fun _ => rfl))
  | 22, hk => cases hk; rw [a2_22]; exact va_at_eq (hP2 22 _ rfl) (zi_ce (t := 0) h22 (fun _ => rfl))
  | 23, hk => cases hk; rw [a2_23]; exact va_at_eq (hP2 23 _ rfl) (zi_ce (t := 0) h23 (fun _ => rfl))
  | 24, hk => cases hk; rw [a2_24]; exact va_at_eq (hP2 24 _ rfl) (zi_ce (t := 0) h24 (fun _ => rfl))
  | 25, hk => cases hk; rw [a2_25]; exact va_at_eq (hP2 25 _ rfl) (zi_ce (t := 0) h25 (fun _ => rfl))
  | 26, hk => cases hk; rw [a2_26]; exact va_at_eq (hP2 26 _ rfl) (zi_ce (t := 0) h26 (fun _ => rfl))
  | 27, hk => cases hk; rw [a2_27]; exact va_at_eq (hP2 27 _ rfl) (zi_ce (t := 0) h27 (fun _ => rfl))
  | 28, hk => cases hk; rw [a2_28]; exact va_at_eq (hP2 28 _ rfl) (zi_ce (t := 0) h28 (fun _ => rfl))
  | 29, hk => cases hk; rw [a2_29]; exact va_at_eq (hP2 29 _ rfl) (zi_ce (t := 0) h29 (fun _ => rfl))
  | 30, hk => cases hk; rw [a2_30]; exact va_at_eq (hP2 30 _ rfl) (zi_ce (t := 0) h30 (fun _ => rfl))
  | 31, hk => cases hk; rw [a2_31]; exact va_at_eq (hP2 31 _ rfl) (zi_ce (t := 0) h31 (fun _ => rfl))
  | k + 32, hk => exact absurd (List.getElem?_eq_some_iff.mp hk).1 (by show ¬ k + 32 < 32; omega)
