/-! the call rows -/
theorem stm_cat {ad : Nat → Nat} : ∀ st : List AV, ((stm ad st).map fun v => v.category).sum = lsz st
  | [] => rfl
  | v :: vs => by
    have ih := stm_cat (ad := ad) vs
    show (cv ad v).category + ((stm ad vs).map fun v => v.category).sum = (if isL v = true then 2 else 1) + lsz vs
    rw [ih]
    rcases v with x | n | k <;> rfl
theorem good_V {own : String} {idx : Nat} {y : MethodName} {b : ByteArray} {nL : Nat} {ret : Option FieldType} (hl : Cond.methodLink own idx y ∈ Wt) (hi : Cond.instanceMethod y ∈ Wt) (hs : Cond.selects y.cls y y ∈ Wt) (hini : Cond.initialized y.cls ∈ Wt) (hc : Cond.code y b nL ret ∈ Wt) : GoodIn Wt (wsV own idx y.cls y (.code y b nL ret :: Wt)) := fun w h => by
  unfold wsV at h
  rcases List.mem_append.mp h with h | h
  · simp only [List.mem_cons, List.not_mem_nil, or_false] at h
    rcases h with rfl | rfl | rfl | rfl
    · exact good_tbl _ hl
    · exact good_tbl _ hi
    · exact good_tbl _ hs
    · exact good_tbl _ hini
  · exact good_code hc w h
theorem good_S {own : String} {idx : Nat} {y : MethodName} {b : ByteArray} {nL : Nat} {ret : Option FieldType} (hl : Cond.methodLink own idx y ∈ Wt) (hs : Cond.static y ∈ Wt) (hini : Cond.initialized own ∈ Wt) (hc : Cond.code y b nL ret ∈ Wt) : GoodIn Wt (wsS own idx y (.code y b nL ret :: Wt)) := fun w h => by
  unfold wsS at h
  rcases List.mem_append.mp h with h | h
  · simp only [List.mem_cons, List.not_mem_nil, or_false] at h
    rcases h with rfl | rfl | rfl
    · exact good_tbl _ hl
    · exact good_tbl _ hs
    · exact good_tbl _ hini
  · exact good_code hc w h
section CALL2
variable {l : Launch} {b : ByteArray} {own : String} {nL : Nat} {ret : Option FieldType} {d pc : Nat} {lv : List (Nat × AV)} {st stk : List AV} {w : List AC} {K : Option AV → List AC → Prop}
theorem EV_callV {y : MethodName} {b' : ByteArray} {nL' d' idx k ci N : Nat} {ret' : Option FieldType} {T : u_T} {fs as : List AV} (hd : decode b pc = .ok (.invokevirtual idx, 3)) (hl : Cond.methodLink own idx y ∈ Wt) (hi : Cond.instanceMethod y ∈ Wt) (hs : Cond.selects y.cls y y ∈ Wt) (hini : Cond.initialized y.cls ∈ Wt) (hc : Cond.code y b' nL' ret' ∈ Wt) (hw : w[k]? = some (cO ci fs)) (hcl : classes[ci]? = some (y.cls, T, N)) (hpd : y.cls ≠ "java/lang/invoke/MethodHandle" ∧ y.cls ≠ "java/lang/invoke/VarHandle" ∧ (parseMethodDescriptor y.desc).map (fun d => d.parameters.length) = some as.length) (hdd : d' + 1 ≤ d ∧ nL' ≤ 21 ∧ lsz st ≤ 8) (hstk : stk = as.reverse ++ vR k :: st)
    (hM : MT l y b' nL' ret' d' (vR k :: as) w (fun r w' => EV l b own nL ret d (pc + 3) lv (r.toList ++ st) w' K)) : EV l b own nL ret d pc lv stk w K := by
  subst hstk
  intro p e R s m args below meth c H locs dC dI ad cA A C D ol os lss hll
  have os' : oks st := fun x hx => os x (List.mem_append_right _ (List.mem_cons_of_mem _ hx))
  have oa : oks (vR k :: as) := fun x hx => by
    rcases List.mem_cons.mp hx with rfl | h
    · exact trivial
    · exact os x (List.mem_append_left _ (List.mem_reverse.mpr h))
  have hts := C.2.2.2.2.2.2.1
  have hK := C.2.2.2.2.2.2.2.2.1
  have hA := C.2.2.2.2.2.2.2.2.2.1
  have hX := C.2.2.2.2.2.2.2.2.2.2
  have hR := C.2.2.2.2.2.2.2.1
  have hS := D.2.1
  refine EV_back C D ol os' hll (av := (Value.ref (ad k) :: stm ad as).toArray) (va_runV (As := stm ad as) (b := ad k) (C := y.cls) ⟨C.1, C.2.1, C.2.2.1, C.2.2.2.2.2.1, hts⟩ (hM oa D.2.2 dC dI ad cA) (cwV as.length hts (good_V hl hi hs hini hc) rfl rfl rfl ⟨rfl, hpd⟩ ⟨Nat.le_trans hdd.1 hR.1, ?_⟩) ⟨PB, va_recv hK D.1 hcl (wsm_at hw), fun U hU hW => ⟨rfl, by rw [hU]; exact D.1, va_K.moved hW.alike hK, adk_self hA, SX_at hX hS hU hW (fun q ⟨k, h1, h2⟩ => by rw [h2]; exact hA.2 k h1)⟩⟩ rfl (by simp [stm]) hll.1 ?_ ?_ hd ⟨Nat.zero_le _, Nat.zero_le _⟩)
  · have h1 := hR.2
    have h2 : 40 * (d' + 1) ≤ 40 * d := Nat.mul_le_mul_left 40 hdd.1
    show 8 + (nL' + 11) + 40 * d' ≤ R.locals
    omega
  · simp [stm, cv]
  · show 2 * 0 + ((stm ad st).map fun v => v.category).sum ≤ 8
    rw [stm_cat]
    omega
theorem EV_callS {y : MethodName} {b' : ByteArray} {nL' d' idx : Nat} {ret' : Option FieldType} {as : List AV} (hd : decode b pc = .ok (.invokestatic idx, 3)) (hl : Cond.methodLink own idx y ∈ Wt) (hs : Cond.static y ∈ Wt) (hini : Cond.initialized own ∈ Wt) (hc : Cond.code y b' nL' ret' ∈ Wt) (hpd : y.cls = own ∧ y.cls ≠ "java/lang/invoke/MethodHandle" ∧ y.cls ≠ "java/lang/invoke/VarHandle" ∧ (parseMethodDescriptor y.desc).map (fun d => d.parameters.length) = some as.length) (hdd : d' + 1 ≤ d ∧ nL' ≤ 21 ∧ lsz st ≤ 8) (hstk : stk = as.reverse ++ st)
    (hM : MT l y b' nL' ret' d' as w (fun r w' => EV l b own nL ret d (pc + 3) lv (r.toList ++ st) w' K)) : EV l b own nL ret d pc lv stk w K := by
  subst hstk
  intro p e R s m args below meth c H locs dC dI ad cA A C D ol os lss hll
  have os' : oks st := fun x hx => os x (List.mem_append_right _ hx)
  have oa : oks as := fun x hx => os x (List.mem_append_left _ (List.mem_reverse.mpr hx))
  have hts := C.2.2.2.2.2.2.1
  have hK := C.2.2.2.2.2.2.2.2.1
  have hA := C.2.2.2.2.2.2.2.2.2.1
  have hX := C.2.2.2.2.2.2.2.2.2.2
  have hR := C.2.2.2.2.2.2.2.1
  have hS := D.2.1
  refine EV_back C D ol os' hll (av := (stm ad as).toArray) (va_runS (As := stm ad as) ⟨C.1, C.2.1, C.2.2.1, C.2.2.2.2.2.1, hts⟩ (hM oa D.2.2 dC dI ad cA) (cwS as.length hts (good_S hl hs hini hc) rfl rfl rfl hpd ⟨Nat.le_trans hdd.1 hR.1, ?_⟩) ⟨PB, fun U hU hW => ⟨rfl, by rw [hU]; exact D.1, va_K.moved hW.alike hK, adk_self hA, SX_at hX hS hU hW (fun q ⟨k, h1, h2⟩ => by rw [h2]; exact hA.2 k h1)⟩⟩ rfl (by simp [stm]) hll.1 ?_ ?_ hd ⟨Nat.zero_le _, Nat.zero_le _⟩)
  · have h1 := hR.2
    have h2 : 40 * (d' + 1) ≤ 40 * d := Nat.mul_le_mul_left 40 hdd.1
    show 8 + (nL' + 11) + 40 * d' ≤ R.locals
    omega
  · simp [stm]
  · show 2 * 0 + ((stm ad st).map fun v => v.category).sum ≤ 8
    rw [stm_cat]
    omega
theorem EV_callT {y : MethodName} {b' : ByteArray} {nL' d' idx : Nat} {ret' : Option FieldType} {as : List AV} (hd : decode b pc = .ok (.invokestatic idx, 3)) (hl : Cond.methodLink own idx y ∈ Wt) (hs : Cond.static y ∈ Wt) (hini : Cond.initialized y.cls ∈ Wt) (hc : Cond.code y b' nL' ret' ∈ Wt) (hpd : y.cls ≠ "java/lang/invoke/MethodHandle" ∧ y.cls ≠ "java/lang/invoke/VarHandle" ∧ (parseMethodDescriptor y.desc).map (fun d => d.parameters.length) = some as.length) (hdd : d' + 1 ≤ d ∧ nL' ≤ 21 ∧ lsz st ≤ 8) (hstk : stk = as.reverse ++ st)
    (hM : MT l y b' nL' ret' d' as w (fun r w' => EV l b own nL ret d (pc + 3) lv (r.toList ++ st) w' K)) : EV l b own nL ret d pc lv stk w K := by
  subst hstk
  intro p e R s m args below meth c H locs dC dI ad cA A C D ol os lss hll
  have os' : oks st := fun x hx => os x (List.mem_append_right _ hx)
  have oa : oks as := fun x hx => os x (List.mem_append_left _ (List.mem_reverse.mpr hx))
  have hts := C.2.2.2.2.2.2.1
  have hK := C.2.2.2.2.2.2.2.2.1
  have hA := C.2.2.2.2.2.2.2.2.2.1
  have hX := C.2.2.2.2.2.2.2.2.2.2
  have hR := C.2.2.2.2.2.2.2.1
  have hS := D.2.1
  refine EV_back C D ol os' hll (av := (stm ad as).toArray) (va_runS (As := stm ad as) ⟨C.1, C.2.1, C.2.2.1, C.2.2.2.2.2.1, hts⟩ (hM oa D.2.2 dC dI ad cA) ⟨callB_of as.length hts (good_code hc) rfl rfl rfl (hts _ hini) (hts _ hl) hpd ⟨Nat.le_trans hdd.1 hR.1, ?_⟩, hts _ hs⟩ ⟨PB, fun U hU hW => ⟨rfl, by rw [hU]; exact D.1, va_K.moved hW.alike hK, adk_self hA, SX_at hX hS hU hW (fun q ⟨k, h1, h2⟩ => by rw [h2]; exact hA.2 k h1)⟩⟩ rfl (by simp [stm]) hll.1 ?_ ?_ hd ⟨Nat.zero_le _, Nat.zero_le _⟩)
  · have h1 := hR.2
    have h2 : 40 * (d' + 1) ≤ 40 * d := Nat.mul_le_mul_left 40 hdd.1
    show 8 + (nL' + 11) + 40 * d' ≤ R.locals
    omega
  · simp [stm]
  · show 2 * 0 + ((stm ad st).map fun v => v.category).sum ≤ 8
    rw [stm_cat]
    omega
theorem EV_callN {y : MethodName} {host : String} {b' : ByteArray} {nL' d' idx : Nat} {ret' : Option FieldType} {as : List AV} (hd : decode b pc = .ok (.invokestatic idx, 3)) (hl : Cond.methodLinkNest own idx y host ∈ lw_tbl) (hs : Cond.static y ∈ Wt) (hini : Cond.initialized y.cls ∈ Wt) (hc : Cond.code y b' nL' ret' ∈ Wt) (hpd : y.cls ≠ "java/lang/invoke/MethodHandle" ∧ y.cls ≠ "java/lang/invoke/VarHandle" ∧ (parseMethodDescriptor y.desc).map (fun d => d.parameters.length) = some as.length) (hdd : d' + 1 ≤ d ∧ nL' ≤ 21 ∧ lsz st ≤ 8) (hstk : stk = as.reverse ++ st)
    (hM : MT l y b' nL' ret' d' as w (fun r w' => EV l b own nL ret d (pc + 3) lv (r.toList ++ st) w' K)) : EV l b own nL ret d pc lv stk w K := by
  subst hstk
  intro p e R s m args below meth c H locs dC dI ad cA A C D ol os lss hll
  have os' : oks st := fun x hx => os x (List.mem_append_right _ hx)
  have oa : oks as := fun x hx => os x (List.mem_append_left _ (List.mem_reverse.mpr hx))
  have hts := C.2.2.2.2.2.2.1
  have hK := C.2.2.2.2.2.2.2.2.1
  have hA := C.2.2.2.2.2.2.2.2.2.1
  have hX := C.2.2.2.2.2.2.2.2.2.2
  have hR := C.2.2.2.2.2.2.2.1
  have hS := D.2.1
  refine EV_back C D ol os' hll (av := (stm ad as).toArray) (va_runSN (As := stm ad as) ⟨C.1, C.2.1, C.2.2.1, C.2.2.2.2.2.1, hts⟩ (hM oa D.2.2 dC dI ad cA) ⟨va_cnB as.length hts (good_code hc) rfl rfl rfl (hX.2.2.2 own idx y host hl) (hts _ hini) hpd ⟨Nat.le_trans hdd.1 hR.1, ?_⟩, hts _ hs, trivial⟩ ⟨PB, fun U hU hW => ⟨rfl, by rw [hU]; exact D.1, va_K.moved hW.alike hK, adk_self hA, SX_at hX hS hU hW (fun q ⟨k, h1, h2⟩ => by rw [h2]; exact hA.2 k h1)⟩⟩ rfl (by simp [stm]) hll.1 ?_ ?_ hd ⟨Nat.zero_le _, Nat.zero_le _⟩)
  · have h1 := hR.2
    have h2 : 40 * (d' + 1) ≤ 40 * d := Nat.mul_le_mul_left 40 hdd.1
    show 8 + (nL' + 11) + 40 * d' ≤ R.locals
    omega
  · simp [stm]
  · show 2 * 0 + ((stm ad st).map fun v => v.category).sum ≤ 8
    rw [stm_cat]
    omega
end CALL2
