/-! the String constant of Text: rows that read it -/
def sgb (i : Int) : Int := ([40, 41, 44, 46, 58, 45, 33, 91, 93, 124, 32] : List Int).getD i.toNat 0
theorem sgb_r (i : Int) : R32 (sgb i) := by
  unfold sgb
  by_cases h : i.toNat < 11
  · have : ∀ n, n < 11 → -2147483648 ≤ (([40, 41, 44, 46, 58, 45, 33, 91, 93, 124, 32] : List Int).getD n 0) ∧ (([40, 41, 44, 46, 58, 45, 33, 91, 93, 124, 32] : List Int).getD n 0) ≤ 2147483647 := by decide +kernel
    exact this _ h
  · rw [List.getD_eq_getElem?_getD, List.getElem?_eq_none (Nat.not_lt.mp h)]; exact R32_0
theorem oi_1 : Int32.ofInt 1 = 1 := by decide +kernel
theorem sgb_o : ∀ n, n < 11 → (([40, 41, 44, 46, 58, 45, 33, 91, 93, 124, 32] : List Int32).getD n 0) = Int32.ofInt (([40, 41, 44, 46, 58, 45, 33, 91, 93, 124, 32] : List Int).getD n 0) := by decide +kernel
theorem i2b_o : ∀ n, n < 256 → (nI n).toInt8.toInt32 = Int32.ofInt (if (n : Int) < 128 then (n : Int) else (n : Int) - 256) := by decide +kernel
section EVX
variable {l : Launch} {b : ByteArray} {own : String} {nL : Nat} {ret : Option FieldType} {d pc : Nat} {lv : List (Nat × AV)} {st stk : List AV} {w : List AC} {K : Option AV → List AC → Prop}
theorem EV_ldcS (ho : own = "PrunedSearch$Text") (hd : decode b pc = .ok (.ldc 23, 2)) (k : EV l b own nL ret d (pc + 2) lv (vR 1000 :: st) w K) : EV l b own nL ret d pc lv st w K := by
  intro p e R s m args below meth c H locs dC dI ad cA A C D ol os ls hl
  subst ho
  exact va_ldcS C.1 C.2.1 C.2.2.2.2.2.1 C.2.2.2.2.2.2.2.2.2.2.1 hd (k p e R s m args below meth c H locs dC dI ad cA A C D ol (oks_c (v := vR 1000) trivial os) ls hl)
theorem EV_gets {idx : Nat} (hd : decode b pc = .ok (.getstatic idx, 3)) (hlk : Cond.fieldLink own idx "java/lang/String" "COMPACT_STRINGS" "Z" ∈ Wt) (k : EV l b own nL ret d (pc + 3) lv (vI 1 :: st) w K) : EV l b own nL ret d pc lv st w K := by
  intro p e R s m args below meth c H locs dC dI ad cA A C D ol os ls hl
  refine va_gets C.1 C.2.1 C.2.2.2.2.2.2.2.2.2.2.2.2.1 D.2.1 C.2.2.2.2.2.1 (C.2.2.2.2.2.2.1 _ hlk) (fun _ h => h) hd ?_
  have h := k p e R s m args below meth c H locs dC dI ad cA A C D ol (oks_c (v := vI 1) ⟨by decide, by decide⟩ os) ls hl
  have e1 : stm ad (vI 1 :: st) = .int 1 :: stm ad st := by show Value.int (Int32.ofInt 1) :: stm ad st = _; rw [oi_1]
  rw [e1] at h
  exact h
theorem EV_strV {idx : Nat} (hd : decode b pc = .ok (.getfield idx, 3)) (hlk : Cond.fieldLink own idx "java/lang/String" "value" "[B" ∈ Wt) (k : EV l b own nL ret d (pc + 3) lv (vR 1001 :: st) w K) : EV l b own nL ret d pc lv (vR 1000 :: st) w K := by
  intro p e R s m args below meth c H locs dC dI ad cA A C D ol os ls hl
  exact vk_getf C.1 C.2.1 ((C.2.2.2.2.2.2.2.2.2.2.2.1.1 0 (by decide)).2.2.1) D.2.1 C.2.2.2.2.2.1 (C.2.2.2.2.2.2.1 _ hlk) (fun _ h => h) hd (k p e R s m args below meth c H locs dC dI ad cA A C D ol (oks_c (v := vR 1001) trivial (oks_t os)) ls hl)
theorem EV_strC {idx : Nat} (hd : decode b pc = .ok (.getfield idx, 3)) (hlk : Cond.fieldLink own idx "java/lang/String" "coder" "B" ∈ Wt) (k : EV l b own nL ret d (pc + 3) lv (vI 0 :: st) w K) : EV l b own nL ret d pc lv (vR 1000 :: st) w K := by
  intro p e R s m args below meth c H locs dC dI ad cA A C D ol os ls hl
  refine vk_getf C.1 C.2.1 ((C.2.2.2.2.2.2.2.2.2.2.2.1.1 0 (by decide)).2.1) D.2.1 C.2.2.2.2.2.1 (C.2.2.2.2.2.2.1 _ hlk) (fun _ h => h) hd ?_
  have h := k p e R s m args below meth c H locs dC dI ad cA A C D ol (oks_c (v := vI 0) R32_0 (oks_t os)) ls hl
  have e1 : stm ad (vI 0 :: st) = .int 0 :: stm ad st := by show Value.int (Int32.ofInt 0) :: stm ad st = _; rw [oi_0]
  rw [e1] at h
  exact h
theorem EV_strL (hd : decode b pc = .ok (.arraylength, 1)) (k : EV l b own nL ret d (pc + 1) lv (vI 11 :: st) w K) : EV l b own nL ret d pc lv (vR 1001 :: st) w K := by
  intro p e R s m args below meth c H locs dC dI ad cA A C D ol os ls hl
  exact va_tlen C.1 C.2.1 ((C.2.2.2.2.2.2.2.2.2.2.2.1.1 0 (by decide)).2.2.2) D.2.1 (v := Int32.ofInt 11) (by decide +kernel) hd (k p e R s m args below meth c H locs dC dI ad cA A C D ol (oks_c (v := vI 11) ⟨by decide, by decide⟩ (oks_t os)) ls hl)
theorem EV_strB {i : Int} (hd : decode b pc = .ok (.baload, 1)) (h : 0 ≤ i ∧ i < 11) (k : EV l b own nL ret d (pc + 1) lv (vI (sgb i) :: st) w K) : EV l b own nL ret d pc lv (vI i :: vR 1001 :: st) w K := by
  intro p e R s m args below meth c H locs dC dI ad cA A C D ol os ls hl
  have hi : R32 i := oks_h os
  refine va_tb C.1 C.2.1 ((C.2.2.2.2.2.2.2.2.2.2.2.1.1 0 (by decide)).2.2.2) D.2.1 (oi_in hi h.1 h.2) (v := .int (Int32.ofInt (sgb i))) ?_ hd (k p e R s m args below meth c H locs dC dI ad cA A C D ol (oks_c (v := vI (sgb i)) (sgb_r i) (oks_t (oks_t os))) ls hl)
  show Value.int (([40, 41, 44, 46, 58, 45, 33, 91, 93, 124, 32] : List Int32).getD (Int32.ofInt i).toNatClampNeg 0) = _
  rw [oi_clamp hi h.1, sgb_o _ (by omega)]
  rfl
theorem EV_i2b {x : Int} (hd : decode b pc = .ok (.i2b, 1)) (h : 0 ≤ x ∧ x < 256) (k : EV l b own nL ret d (pc + 1) lv (vI (if x < 128 then x else x - 256) :: st) w K) : EV l b own nL ret d pc lv (vI x :: st) w K := by
  intro p e R s m args below meth c H locs dC dI ad cA A C D ol os ls hl
  refine lv_i2b C.1 C.2.1 hd ?_ (k p e R s m args below meth c H locs dC dI ad cA A C D ol (oks_c (v := vI (if x < 128 then x else x - 256)) ?_ (oks_t os)) ls hl)
  · obtain ⟨n, rfl⟩ := nn h.1
    rw [oi_nat]
    exact i2b_o n (by omega)
  · show R32 _
    unfold R32
    split <;> omega
theorem EV_ishr0 {x : Int} (hd : decode b pc = .ok (.ishr, 1)) (h0 : 0 ≤ x) (k : EV l b own nL ret d (pc + 1) lv (vI x :: st) w K) : EV l b own nL ret d pc lv (vI 0 :: vI x :: st) w K := by
  refine EV_ishr hd h0 ⟨by decide, by decide⟩ ?_
  have e : x / 2 ^ (0 : Int).toNat = x := by simp
  rw [e]
  exact k
/-- a call on the String constant -/
theorem EV_callX {y : MethodName} {b' : ByteArray} {nL' d' idx : Nat} {ret' : Option FieldType} {as : List AV} (hd : decode b pc = .ok (.invokevirtual idx, 3)) (hl : Cond.methodLink own idx y ∈ Wt) (hi : Cond.instanceMethod y ∈ Wt) (hs : Cond.selects y.cls y y ∈ Wt) (hini : Cond.initialized y.cls ∈ Wt) (hc : Cond.code y b' nL' ret' ∈ Wt) (hcl : y.cls = "java/lang/String") (hpd : y.cls ≠ "java/lang/invoke/MethodHandle" ∧ y.cls ≠ "java/lang/invoke/VarHandle" ∧ (parseMethodDescriptor y.desc).map (fun d => d.parameters.length) = some as.length) (hdd : d' + 1 ≤ d ∧ nL' ≤ 21 ∧ lsz st ≤ 8) (hstk : stk = as.reverse ++ vR 1000 :: st)
    (hM : MT l y b' nL' ret' d' (vR 1000 :: as) w (fun r w' => EV l b own nL ret d (pc + 3) lv (r.toList ++ st) w' K)) : EV l b own nL ret d pc lv stk w K := by
  subst hstk
  intro p e R s m args below meth c H locs dC dI ad cA A C D ol os lss hll
  have os' : oks st := fun x hx => os x (List.mem_append_right _ (List.mem_cons_of_mem _ hx))
  have oa : oks (vR 1000 :: as) := fun x hx => by
    rcases List.mem_cons.mp hx with rfl | h
    · exact trivial
    · exact os x (List.mem_append_left _ (List.mem_reverse.mpr h))
  have hts := C.2.2.2.2.2.2.1
  have hK := C.2.2.2.2.2.2.2.2.1
  have hA := C.2.2.2.2.2.2.2.2.2.1
  have hX := C.2.2.2.2.2.2.2.2.2.2
  have hR := C.2.2.2.2.2.2.2.1
  have hS := D.2.1
  have hrc : ∃ cell : Cell, H[ad 1000]? = some cell ∧ cell.vm.isStatics = false ∧ s.vm.findClass y.cls = some cell.cls := by
    rw [hcl]
    exact vk_recv (i := 0) hX.2.1 (by decide) hS
  refine EV_back C D ol os' hll (av := (Value.ref (ad 1000) :: stm ad as).toArray) (va_runV (As := stm ad as) (b := ad 1000) (C := y.cls) ⟨C.1, C.2.1, C.2.2.1, C.2.2.2.2.2.1, hts⟩ (hM oa D.2.2 dC dI ad cA) (cwV as.length hts (good_V hl hi hs hini hc) rfl rfl rfl ⟨rfl, hpd⟩ ⟨Nat.le_trans hdd.1 hR.1, ?_⟩) ⟨PB, hrc, fun U hU hW => ⟨rfl, by rw [hU]; exact D.1, va_K.moved hW.alike hK, adk_self hA, SX_at hX hS hU hW (fun q ⟨k, h1, h2⟩ => by rw [h2]; exact hA.2 k h1)⟩⟩ rfl (by simp [stm]) hll.1 ?_ ?_ hd ⟨Nat.zero_le _, Nat.zero_le _⟩)
  · have h1 := hR.2
    have h2 : 40 * (d' + 1) ≤ 40 * d := Nat.mul_le_mul_left 40 hdd.1
    show 8 + (nL' + 11) + 40 * d' ≤ R.locals
    omega
  · simp [stm, cv]
  · show 2 * 0 + ((stm ad st).map fun v => v.category).sum ≤ 8
    rw [stm_cat]
    omega
theorem EV_mmax {idx : Nat} {x y : Int} (hd : decode b pc = .ok (.invokestatic idx, 3)) (hl : Cond.methodLink own idx Lib.Math.max.name ∈ Wt) (hs : Cond.static Lib.Math.max.name ∈ Wt) (hini : Cond.initialized "java/lang/Math" ∈ Wt) (hc : Cond.code Lib.Math.max.name Lib.Math.max.code 2 (some .int) ∈ Wt) (hdd : 1 ≤ d ∧ lsz st ≤ 8) (k : EV l b own nL ret d (pc + 3) lv (vI (max x y) :: st) w K) : EV l b own nL ret d pc lv (vI y :: vI x :: st) w K := by
  intro p e R s m args below meth c H locs dC dI ad cA A C D ol os ls hll
  have hts := C.2.2.2.2.2.2.1
  have hR := C.2.2.2.2.2.2.2.1
  have hx : R32 x := oks_h (oks_t os)
  have hy : R32 y := oks_h os
  refine va_mmax C.1 C.2.1 (C.2.2.1.trans hll.1.symm) C.2.2.2.2.2.1 (hts _ hl) (hts _ hs) (hts _ hini) (hts _ hc) (Nat.le_trans hdd.1 hR.1) (by have e0 : (List.map (fun v => v.category) (List.map (cv ad) st)).sum = lsz st := stm_cat st; rw [e0]; omega) (Nat.zero_le _) (Nat.zero_le _) hd ?_
  have e1 : (if Int32.ofInt x < Int32.ofInt y then Int32.ofInt y else Int32.ofInt x) = Int32.ofInt (max x y) := by
    by_cases h : x < y
    · rw [if_pos ((oi_lt hx hy).mpr h), Int.max_eq_right (by omega)]
    · rw [if_neg (fun z => h ((oi_lt hx hy).mp z)), Int.max_eq_left (by omega)]
  rw [e1]
  exact k p e R s m args below meth c H locs dC dI ad cA A C D ol (oks_c (v := vI (max x y)) (show R32 _ by unfold R32 at *; omega) (oks_t (oks_t os))) ls hll
theorem EV_mmin {idx : Nat} {x y : Int} (hd : decode b pc = .ok (.invokestatic idx, 3)) (hl : Cond.methodLink own idx Lib.Math.min.name ∈ Wt) (hs : Cond.static Lib.Math.min.name ∈ Wt) (hini : Cond.initialized "java/lang/Math" ∈ Wt) (hc : Cond.code Lib.Math.min.name Lib.Math.min.code 2 (some .int) ∈ Wt) (hdd : 1 ≤ d ∧ lsz st ≤ 8) (k : EV l b own nL ret d (pc + 3) lv (vI (min x y) :: st) w K) : EV l b own nL ret d pc lv (vI y :: vI x :: st) w K := by
  intro p e R s m args below meth c H locs dC dI ad cA A C D ol os ls hll
  have hts := C.2.2.2.2.2.2.1
  have hR := C.2.2.2.2.2.2.2.1
  have hx : R32 x := oks_h (oks_t os)
  have hy : R32 y := oks_h os
  refine va_mmin C.1 C.2.1 (C.2.2.1.trans hll.1.symm) C.2.2.2.2.2.1 (hts _ hl) (hts _ hs) (hts _ hini) (hts _ hc) (Nat.le_trans hdd.1 hR.1) (by have e0 : (List.map (fun v => v.category) (List.map (cv ad) st)).sum = lsz st := stm_cat st; rw [e0]; omega) (Nat.zero_le _) (Nat.zero_le _) hd ?_
  have e1 : (if Int32.ofInt y < Int32.ofInt x then Int32.ofInt y else Int32.ofInt x) = Int32.ofInt (min x y) := by
    by_cases h : y < x
    · rw [if_pos ((oi_lt hy hx).mpr h), Int.min_eq_right (by omega)]
    · rw [if_neg (fun z => h ((oi_lt hy hx).mp z)), Int.min_eq_left (by omega)]
  rw [e1]
  exact k p e R s m args below meth c H locs dC dI ad cA A C D ol (oks_c (v := vI (min x y)) (show R32 _ by unfold R32 at *; omega) (oks_t (oks_t os))) ls hll
end EVX
