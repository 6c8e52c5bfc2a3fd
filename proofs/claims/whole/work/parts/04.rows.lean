/-! rows of EV: locals, stack, numbers, branches (printed by wip/gen/rows.py) -/
def isL : AV → Bool
  | .inr (.inl _) => true
  | _ => false
def st1 (i : Nat) (v : AV) (lv : List (Nat × AV)) : List (Nat × AV) := (i, v) :: lv.filter (fun q => !(q.1 == i) && !(q.1 + 1 == i && isL q.2))
def st2 (i : Nat) (v : AV) (lv : List (Nat × AV)) : List (Nat × AV) := (i, v) :: lv.filter (fun q => !(q.1 == i) && (!(q.1 == i + 1) && !(q.1 + 1 == i && isL q.2)))
def pk (l : List (Nat × AV)) (ks : List Nat) : List (Nat × AV) := ks.filterMap (fun k => l[k]?)
theorem cv_cat (ad : Nat → Nat) (v : AV) : ((cv ad v).category == 2) = isL v := by
  rcases v with x | n | k <;> rfl
theorem lvm_st1 {ad : Nat → Nat} {i : Nat} {v : AV} {lv : List (Nat × AV)} : (i, cv ad v) :: (lvm ad lv).filter (fun q => !(q.1 == i) && !(q.1 + 1 == i && q.2.category == 2)) = lvm ad (st1 i v lv) := by
  simp only [lvm, st1, List.map_cons, List.filter_map, Function.comp_def, cv_cat]
theorem lvm_st2 {ad : Nat → Nat} {i : Nat} {v : AV} {lv : List (Nat × AV)} : (i, cv ad v) :: (lvm ad lv).filter (fun q => !(q.1 == i) && (!(q.1 == i + 1) && !(q.1 + 1 == i && q.2.category == 2))) = lvm ad (st2 i v lv) := by
  simp only [lvm, st2, List.map_cons, List.filter_map, Function.comp_def, cv_cat]
theorem lvm_pk {ad : Nat → Nat} {l : List (Nat × AV)} {ks : List Nat} : lv_pick (lvm ad l) ks = lvm ad (pk l ks) := by
  simp only [lv_pick, lvm, pk, List.map_filterMap, List.getElem?_map]
theorem okl_pk {l : List (Nat × AV)} {ks : List Nat} (h : okl l) : okl (pk l ks) := fun q hq => by
  obtain ⟨k, -, hk⟩ := List.mem_filterMap.mp hq
  exact h q (List.mem_of_getElem? hk)
theorem okl_st1 {i : Nat} {v : AV} {l : List (Nat × AV)} (h : okl l) (hv : okv v) : okl (st1 i v l) := fun q hq => by
  rcases List.mem_cons.mp hq with rfl | h1
  · exact hv
  · exact h q (List.mem_filter.mp h1).1
theorem okl_st2 {i : Nat} {v : AV} {l : List (Nat × AV)} (h : okl l) (hv : okv v) : okl (st2 i v l) := fun q hq => by
  rcases List.mem_cons.mp hq with rfl | h1
  · exact hv
  · exact h q (List.mem_filter.mp h1).1
theorem oi_nat (n : Nat) : Int32.ofInt (n : Int) = nI n := by
  apply Int32.toBitVec_inj.mp
  simp [nI, Int32.ofInt, Int32.ofNat]
section EVR
variable {l : Launch} {b : ByteArray} {own : String} {nL : Nat} {ret : Option FieldType} {d pc : Nat} {lv : List (Nat × AV)} {st : List AV} {w : List AC} {K : Option AV → List AC → Prop}
theorem EV_iconst {n : Int} (hd : decode b pc = .ok (.iconst n, 1)) (hr : R32 n) (k : EV l b own nL ret d (pc + 1) lv (vI n :: st) w K) : EV l b own nL ret d pc lv (st) w K := by
  intro p e R s m args below meth c H locs dC dI ad cA A C D ol os ls hl
  exact lv_iconst C.1 C.2.1 hd rfl (k p e R s m args below meth c H locs dC dI ad cA A C D ol (oks_c hr os) ls hl)
theorem EV_bipush {n : Int} (hd : decode b pc = .ok (.bipush n, 2)) (hv : (Int8.ofInt n).toInt32 = Int32.ofInt n) (hr : R32 n) (k : EV l b own nL ret d (pc + 2) lv (vI n :: st) w K) : EV l b own nL ret d pc lv (st) w K := by
  intro p e R s m args below meth c H locs dC dI ad cA A C D ol os ls hl
  exact lv_bipush C.1 C.2.1 hd hv (k p e R s m args below meth c H locs dC dI ad cA A C D ol (oks_c hr os) ls hl)
theorem EV_sipush {n : Int} (hd : decode b pc = .ok (.sipush n, 3)) (hv : (Int16.ofInt n).toInt32 = Int32.ofInt n) (hr : R32 n) (k : EV l b own nL ret d (pc + 3) lv (vI n :: st) w K) : EV l b own nL ret d pc lv (st) w K := by
  intro p e R s m args below meth c H locs dC dI ad cA A C D ol os ls hl
  exact lv_sipush C.1 C.2.1 hd hv (k p e R s m args below meth c H locs dC dI ad cA A C D ol (oks_c hr os) ls hl)
theorem EV_lconst {n : Fin 2} {v : Nat} (hd : decode b pc = .ok (.lconst n, 1)) (hv : (n : Nat) = v) (k : EV l b own nL ret d (pc + 1) lv (vL v :: st) w K) : EV l b own nL ret d pc lv (st) w K := by
  intro p e R s m args below meth c H locs dC dI ad cA A C D ol os ls hl
  subst hv
  exact lv_lconst C.1 C.2.1 hd rfl (k p e R s m args below meth c H locs dC dI ad cA A C D ol (oks_c (v := vL n) (show (n : Nat) < 18446744073709551616 by omega) os) ls hl)
theorem EV_ldc {n : Int} {v : Int32} {idx : Nat} (hd : decode b pc = .ok (.ldc idx, 2)) (hc : Cond.constant own idx v ∈ Wt) (hv : v = Int32.ofInt n) (hr : R32 n) (k : EV l b own nL ret d (pc + 2) lv (vI n :: st) w K) : EV l b own nL ret d pc lv (st) w K := by
  intro p e R s m args below meth c H locs dC dI ad cA A C D ol os ls hl
  subst hv
  exact lv_ldc C.1 C.2.1 C.2.2.2.2.2.1 (C.2.2.2.2.2.2.1 _ hc) hd (k p e R s m args below meth c H locs dC dI ad cA A C D ol (oks_c hr os) ls hl)
theorem EV_ldc2 {n : Nat} {v : Int64} {idx : Nat} (hd : decode b pc = .ok (.ldc2_w idx, 3)) (hc : Cond.constantLong own idx v ∈ Wt) (hv : v = Int64.ofNat n) (hr : n < 18446744073709551616) (k : EV l b own nL ret d (pc + 3) lv (vL n :: st) w K) : EV l b own nL ret d pc lv (st) w K := by
  intro p e R s m args below meth c H locs dC dI ad cA A C D ol os ls hl
  subst hv
  exact lv_ldc2 C.1 C.2.1 C.2.2.2.2.2.1 (C.2.2.2.2.2.2.1 _ hc) hd (k p e R s m args below meth c H locs dC dI ad cA A C D ol (oks_c (v := vL n) hr os) ls hl)
theorem EV_iload_n {q : Fin 4} {i : Nat} {x : Int} (j : Nat) (hd : decode b pc = .ok (.iload_n q, 1)) (hi : (q : Nat) = i) (hk : lv[j]? = some (i, vI x)) (k : EV l b own nL ret d (pc + 1) lv (vI x :: st) w K) : EV l b own nL ret d pc lv (st) w K := by
  intro p e R s m args below meth c H locs dC dI ad cA A C D ol os ls hl
  exact lv_iload_n C.1 C.2.1 hd hi (lv_at hl j (lvm_at hk)) (k p e R s m args below meth c H locs dC dI ad cA A C D ol (oks_c (okl_at ol hk) os) ls hl)
theorem EV_iload {i : Nat} {x : Int} (j : Nat) (hd : decode b pc = .ok (.iload i, 2)) (hk : lv[j]? = some (i, vI x)) (k : EV l b own nL ret d (pc + 2) lv (vI x :: st) w K) : EV l b own nL ret d pc lv (st) w K := by
  intro p e R s m args below meth c H locs dC dI ad cA A C D ol os ls hl
  exact lv_iload C.1 C.2.1 hd (lv_at hl j (lvm_at hk)) (k p e R s m args below meth c H locs dC dI ad cA A C D ol (oks_c (okl_at ol hk) os) ls hl)
theorem EV_istore {i : Nat} {x : Int} {lv' : List (Nat × AV)} (ks : List Nat) (hd : decode b pc = .ok (.istore i, 2)) (hn : i < nL) (hp : pk (st1 i (vI x) lv) ks = lv') (k : EV l b own nL ret d (pc + 2) lv' st w K) : EV l b own nL ret d pc lv (vI x :: st) w K := by
  intro p e R s m args below meth c H locs dC dI ad cA A C D ol os ls hl
  subst hp
  exact lv_istore C.1 C.2.1 hd hl hn (lvm_st1 (v := vI x)) (fun ls' hl' => k p e R s m args below meth c H locs dC dI ad cA A C D (okl_pk (okl_st1 ol (oks_h os))) (oks_t os) ls' (lv_sub hl' ks lvm_pk))
theorem EV_istore_n {q : Fin 4} {i : Nat} {x : Int} {lv' : List (Nat × AV)} (ks : List Nat) (hd : decode b pc = .ok (.istore_n q, 1)) (hi : (q : Nat) = i) (hn : i < nL) (hp : pk (st1 i (vI x) lv) ks = lv') (k : EV l b own nL ret d (pc + 1) lv' st w K) : EV l b own nL ret d pc lv (vI x :: st) w K := by
  intro p e R s m args below meth c H locs dC dI ad cA A C D ol os ls hl
  subst hp
  exact lv_istore_n C.1 C.2.1 hd hi hl hn (lvm_st1 (v := vI x)) (fun ls' hl' => k p e R s m args below meth c H locs dC dI ad cA A C D (okl_pk (okl_st1 ol (oks_h os))) (oks_t os) ls' (lv_sub hl' ks lvm_pk))
theorem EV_lload_n {q : Fin 4} {i : Nat} {x : Nat} (j : Nat) (hd : decode b pc = .ok (.lload_n q, 1)) (hi : (q : Nat) = i) (hk : lv[j]? = some (i, vL x)) (k : EV l b own nL ret d (pc + 1) lv (vL x :: st) w K) : EV l b own nL ret d pc lv (st) w K := by
  intro p e R s m args below meth c H locs dC dI ad cA A C D ol os ls hl
  exact lv_lload_n C.1 C.2.1 hd hi (lv_at hl j (lvm_at hk)) (k p e R s m args below meth c H locs dC dI ad cA A C D ol (oks_c (okl_at ol hk) os) ls hl)
theorem EV_lload {i : Nat} {x : Nat} (j : Nat) (hd : decode b pc = .ok (.lload i, 2)) (hk : lv[j]? = some (i, vL x)) (k : EV l b own nL ret d (pc + 2) lv (vL x :: st) w K) : EV l b own nL ret d pc lv (st) w K := by
  intro p e R s m args below meth c H locs dC dI ad cA A C D ol os ls hl
  exact lv_lload C.1 C.2.1 hd (lv_at hl j (lvm_at hk)) (k p e R s m args below meth c H locs dC dI ad cA A C D ol (oks_c (okl_at ol hk) os) ls hl)
theorem EV_lstore {i : Nat} {x : Nat} {lv' : List (Nat × AV)} (ks : List Nat) (hd : decode b pc = .ok (.lstore i, 2)) (hn : i + 1 < nL) (hp : pk (st2 i (vL x) lv) ks = lv') (k : EV l b own nL ret d (pc + 2) lv' st w K) : EV l b own nL ret d pc lv (vL x :: st) w K := by
  intro p e R s m args below meth c H locs dC dI ad cA A C D ol os ls hl
  subst hp
  exact lv_lstore C.1 C.2.1 hd hl hn (lvm_st2 (v := vL x)) (fun ls' hl' => k p e R s m args below meth c H locs dC dI ad cA A C D (okl_pk (okl_st2 ol (oks_h os))) (oks_t os) ls' (lv_sub hl' ks lvm_pk))
theorem EV_lstore_n {q : Fin 4} {i : Nat} {x : Nat} {lv' : List (Nat × AV)} (ks : List Nat) (hd : decode b pc = .ok (.lstore_n q, 1)) (hi : (q : Nat) = i) (hn : i + 1 < nL) (hp : pk (st2 i (vL x) lv) ks = lv') (k : EV l b own nL ret d (pc + 1) lv' st w K) : EV l b own nL ret d pc lv (vL x :: st) w K := by
  intro p e R s m args below meth c H locs dC dI ad cA A C D ol os ls hl
  subst hp
  exact lv_lstore_n C.1 C.2.1 hd hi hl hn (lvm_st2 (v := vL x)) (fun ls' hl' => k p e R s m args below meth c H locs dC dI ad cA A C D (okl_pk (okl_st2 ol (oks_h os))) (oks_t os) ls' (lv_sub hl' ks lvm_pk))
theorem EV_aload_n {q : Fin 4} {i : Nat} {x : Nat} (j : Nat) (hd : decode b pc = .ok (.aload_n q, 1)) (hi : (q : Nat) = i) (hk : lv[j]? = some (i, vR x)) (k : EV l b own nL ret d (pc + 1) lv (vR x :: st) w K) : EV l b own nL ret d pc lv (st) w K := by
  intro p e R s m args below meth c H locs dC dI ad cA A C D ol os ls hl
  exact lv_aload_n C.1 C.2.1 hd hi (lv_at hl j (lvm_at hk)) (k p e R s m args below meth c H locs dC dI ad cA A C D ol (oks_c (okl_at ol hk) os) ls hl)
theorem EV_aload {i : Nat} {x : Nat} (j : Nat) (hd : decode b pc = .ok (.aload i, 2)) (hk : lv[j]? = some (i, vR x)) (k : EV l b own nL ret d (pc + 2) lv (vR x :: st) w K) : EV l b own nL ret d pc lv (st) w K := by
  intro p e R s m args below meth c H locs dC dI ad cA A C D ol os ls hl
  exact lv_aload C.1 C.2.1 hd (lv_at hl j (lvm_at hk)) (k p e R s m args below meth c H locs dC dI ad cA A C D ol (oks_c (okl_at ol hk) os) ls hl)
theorem EV_astore {i : Nat} {x : Nat} {lv' : List (Nat × AV)} (ks : List Nat) (hd : decode b pc = .ok (.astore i, 2)) (hn : i < nL) (hp : pk (st1 i (vR x) lv) ks = lv') (k : EV l b own nL ret d (pc + 2) lv' st w K) : EV l b own nL ret d pc lv (vR x :: st) w K := by
  intro p e R s m args below meth c H locs dC dI ad cA A C D ol os ls hl
  subst hp
  exact lv_astore C.1 C.2.1 hd hl hn (lvm_st1 (v := vR x)) (fun ls' hl' => k p e R s m args below meth c H locs dC dI ad cA A C D (okl_pk (okl_st1 ol (oks_h os))) (oks_t os) ls' (lv_sub hl' ks lvm_pk))
theorem EV_astore_n {q : Fin 4} {i : Nat} {x : Nat} {lv' : List (Nat × AV)} (ks : List Nat) (hd : decode b pc = .ok (.astore_n q, 1)) (hi : (q : Nat) = i) (hn : i < nL) (hp : pk (st1 i (vR x) lv) ks = lv') (k : EV l b own nL ret d (pc + 1) lv' st w K) : EV l b own nL ret d pc lv (vR x :: st) w K := by
  intro p e R s m args below meth c H locs dC dI ad cA A C D ol os ls hl
  subst hp
  exact lv_astore_n C.1 C.2.1 hd hi hl hn (lvm_st1 (v := vR x)) (fun ls' hl' => k p e R s m args below meth c H locs dC dI ad cA A C D (okl_pk (okl_st1 ol (oks_h os))) (oks_t os) ls' (lv_sub hl' ks lvm_pk))
theorem EV_iinc {i : Nat} {n x : Int} {lv' : List (Nat × AV)} (j : Nat) (ks : List Nat) (hd : decode b pc = .ok (.iinc i n, 3)) (hk : lv[j]? = some (i, vI x)) (hn : i < nL) (hr : R32 (x + n)) (hp : pk (st1 i (vI (x + n)) lv) ks = lv') (k : EV l b own nL ret d (pc + 3) lv' st w K) : EV l b own nL ret d pc lv st w K := by
  intro p e R s m args below meth c H locs dC dI ad cA A C D ol os ls hl
  subst hp
  exact lv_iinc C.1 C.2.1 hd hl (k := j) (lvm_at hk) (oi_add x n).symm hn (lvm_st1 (v := vI (x + n))) (fun ls' hl' => k p e R s m args below meth c H locs dC dI ad cA A C D (okl_pk (okl_st1 ol hr)) os ls' (lv_sub hl' ks lvm_pk))
theorem EV_lv {lv' : List (Nat × AV)} (ks : List Nat) (hp : pk lv ks = lv') (k : EV l b own nL ret d pc lv' st w K) : EV l b own nL ret d pc lv st w K := by
  intro p e R s m args below meth c H locs dC dI ad cA A C D ol os ls hl
  subst hp
  exact k p e R s m args below meth c H locs dC dI ad cA A C D (okl_pk ol) os ls (lv_sub hl ks lvm_pk)
theorem EV_iadd {x y : Int} (hd : decode b pc = .ok (.iadd, 1)) (hr : R32 (x + y)) (k : EV l b own nL ret d (pc + 1) lv (vI (x + y) :: st) w K) : EV l b own nL ret d pc lv (vI y :: vI x :: st) w K := by
  intro p e R s m args below meth c H locs dC dI ad cA A C D ol os ls hl
  refine lv_iadd C.1 C.2.1 hd ?_
  rw [← oi_add]
  exact k p e R s m args below meth c H locs dC dI ad cA A C D ol (oks_c hr (oks_t (oks_t os))) ls hl
theorem EV_isub {x y : Int} (hd : decode b pc = .ok (.isub, 1)) (hr : R32 (x - y)) (k : EV l b own nL ret d (pc + 1) lv (vI (x - y) :: st) w K) : EV l b own nL ret d pc lv (vI y :: vI x :: st) w K := by
  intro p e R s m args below meth c H locs dC dI ad cA A C D ol os ls hl
  refine lv_isub C.1 C.2.1 hd ?_
  rw [← oi_sub]
  exact k p e R s m args below meth c H locs dC dI ad cA A C D ol (oks_c hr (oks_t (oks_t os))) ls hl
theorem EV_imul {x y : Int} (hd : decode b pc = .ok (.imul, 1)) (hr : R32 (x * y)) (k : EV l b own nL ret d (pc + 1) lv (vI (x * y) :: st) w K) : EV l b own nL ret d pc lv (vI y :: vI x :: st) w K := by
  intro p e R s m args below meth c H locs dC dI ad cA A C D ol os ls hl
  refine lv_imul C.1 C.2.1 hd ?_
  rw [← oi_mul]
  exact k p e R s m args below meth c H locs dC dI ad cA A C D ol (oks_c hr (oks_t (oks_t os))) ls hl
theorem EV_icmp_eq {x y off : Int} {tgt : Nat} (hd : decode b pc = .ok (.if_icmp .eq off, 3)) (ht : (pc : Int) + off = (tgt : Int)) (kt : x = y → EV l b own nL ret d tgt lv st w K) (kf : ¬ x = y → EV l b own nL ret d (pc + 3) lv st w K) : EV l b own nL ret d pc lv (vI y :: vI x :: st) w K := by
  intro p e R s m args below meth c H locs dC dI ad cA A C D ol os ls hl
  have hx : R32 x := oks_h (oks_t os)
  have hy : R32 y := oks_h os
  exact lv_icmp_eq C.1 C.2.1 hd ht (fun q => kt ((oi_eq hx hy).mp q) p e R s m args below meth c H locs dC dI ad cA A C D ol (oks_t (oks_t os)) ls hl) (fun q => kf (fun z => q ((oi_eq hx hy).mpr z)) p e R s m args below meth c H locs dC dI ad cA A C D ol (oks_t (oks_t os)) ls hl)
theorem EV_if_eq {x off : Int} {tgt : Nat} (hd : decode b pc = .ok (.ifCond .eq off, 3)) (ht : (pc : Int) + off = (tgt : Int)) (kt : x = 0 → EV l b own nL ret d tgt lv st w K) (kf : ¬ x = 0 → EV l b own nL ret d (pc + 3) lv st w K) : EV l b own nL ret d pc lv (vI x :: st) w K := by
  intro p e R s m args below meth c H locs dC dI ad cA A C D ol os ls hl
  have hx : R32 x := oks_h os
  have hz : Int32.ofInt x = 0 ↔ x = 0 := by have h0 := oi_eq hx R32_0; rw [oi_0] at h0; exact h0
  exact lv_if_eq C.1 C.2.1 hd ht (fun q => kt (hz.mp q) p e R s m args below meth c H locs dC dI ad cA A C D ol (oks_t os) ls hl) (fun q => kf (fun z => q (hz.mpr z)) p e R s m args below meth c H locs dC dI ad cA A C D ol (oks_t os) ls hl)
theorem EV_icmp_ne {x y off : Int} {tgt : Nat} (hd : decode b pc = .ok (.if_icmp .ne off, 3)) (ht : (pc : Int) + off = (tgt : Int)) (kt : ¬ x = y → EV l b own nL ret d tgt lv st w K) (kf : x = y → EV l b own nL ret d (pc + 3) lv st w K) : EV l b own nL ret d pc lv (vI y :: vI x :: st) w K := by
  intro p e R s m args below meth c H locs dC dI ad cA A C D ol os ls hl
  have hx : R32 x := oks_h (oks_t os)
  have hy : R32 y := oks_h os
  exact lv_icmp_ne C.1 C.2.1 hd ht (fun q => kt (fun z => q ((oi_eq hx hy).mpr z)) p e R s m args below meth c H locs dC dI ad cA A C D ol (oks_t (oks_t os)) ls hl) (fun q => kf ((oi_eq hx hy).mp q) p e R s m args below meth c H locs dC dI ad cA A C D ol (oks_t (oks_t os)) ls hl)
theorem EV_if_ne {x off : Int} {tgt : Nat} (hd : decode b pc = .ok (.ifCond .ne off, 3)) (ht : (pc : Int) + off = (tgt : Int)) (kt : ¬ x = 0 → EV l b own nL ret d tgt lv st w K) (kf : x = 0 → EV l b own nL ret d (pc + 3) lv st w K) : EV l b own nL ret d pc lv (vI x :: st) w K := by
  intro p e R s m args below meth c H locs dC dI ad cA A C D ol os ls hl
  have hx : R32 x := oks_h os
  have hz : Int32.ofInt x = 0 ↔ x = 0 := by have h0 := oi_eq hx R32_0; rw [oi_0] at h0; exact h0
  exact lv_if_ne C.1 C.2.1 hd ht (fun q => kt (fun z => q (hz.mpr z)) p e R s m args below meth c H locs dC dI ad cA A C D ol (oks_t os) ls hl) (fun q => kf (hz.mp q) p e R s m args below meth c H locs dC dI ad cA A C D ol (oks_t os) ls hl)
theorem EV_icmp_lt {x y off : Int} {tgt : Nat} (hd : decode b pc = .ok (.if_icmp .lt off, 3)) (ht : (pc : Int) + off = (tgt : Int)) (kt : x < y → EV l b own nL ret d tgt lv st w K) (kf : ¬ x < y → EV l b own nL ret d (pc + 3) lv st w K) : EV l b own nL ret d pc lv (vI y :: vI x :: st) w K := by
  intro p e R s m args below meth c H locs dC dI ad cA A C D ol os ls hl
  have hx : R32 x := oks_h (oks_t os)
  have hy : R32 y := oks_h os
  exact lv_icmp_lt C.1 C.2.1 hd ht (fun q => kt ((oi_lt hx hy).mp q) p e R s m args below meth c H locs dC dI ad cA A C D ol (oks_t (oks_t os)) ls hl) (fun q => kf (fun z => q ((oi_lt hx hy).mpr z)) p e R s m args below meth c H locs dC dI ad cA A C D ol (oks_t (oks_t os)) ls hl)
theorem EV_if_lt {x off : Int} {tgt : Nat} (hd : decode b pc = .ok (.ifCond .lt off, 3)) (ht : (pc : Int) + off = (tgt : Int)) (kt : x < 0 → EV l b own nL ret d tgt lv st w K) (kf : ¬ x < 0 → EV l b own nL ret d (pc + 3) lv st w K) : EV l b own nL ret d pc lv (vI x :: st) w K := by
  intro p e R s m args below meth c H locs dC dI ad cA A C D ol os ls hl
  have hx : R32 x := oks_h os
  have hz : Int32.ofInt x < 0 ↔ x < 0 := by have h0 := oi_lt hx R32_0; rw [oi_0] at h0; exact h0
  exact lv_if_lt C.1 C.2.1 hd ht (fun q => kt (hz.mp q) p e R s m args below meth c H locs dC dI ad cA A C D ol (oks_t os) ls hl) (fun q => kf (fun z => q (hz.mpr z)) p e R s m args below meth c H locs dC dI ad cA A C D ol (oks_t os) ls hl)
theorem EV_icmp_ge {x y off : Int} {tgt : Nat} (hd : decode b pc = .ok (.if_icmp .ge off, 3)) (ht : (pc : Int) + off = (tgt : Int)) (kt : y ≤ x → EV l b own nL ret d tgt lv st w K) (kf : ¬ y ≤ x → EV l b own nL ret d (pc + 3) lv st w K) : EV l b own nL ret d pc lv (vI y :: vI x :: st) w K := by
  intro p e R s m args below meth c H locs dC dI ad cA A C D ol os ls hl
  have hx : R32 x := oks_h (oks_t os)
  have hy : R32 y := oks_h os
  exact lv_icmp_ge C.1 C.2.1 hd ht (fun q => kt ((oi_le hy hx).mp q) p e R s m args below meth c H locs dC dI ad cA A C D ol (oks_t (oks_t os)) ls hl) (fun q => kf (fun z => q ((oi_le hy hx).mpr z)) p e R s m args below meth c H locs dC dI ad cA A C D ol (oks_t (oks_t os)) ls hl)
theorem EV_if_ge {x off : Int} {tgt : Nat} (hd : decode b pc = .ok (.ifCond .ge off, 3)) (ht : (pc : Int) + off = (tgt : Int)) (kt : 0 ≤ x → EV l b own nL ret d tgt lv st w K) (kf : ¬ 0 ≤ x → EV l b own nL ret d (pc + 3) lv st w K) : EV l b own nL ret d pc lv (vI x :: st) w K := by
  intro p e R s m args below meth c H locs dC dI ad cA A C D ol os ls hl
  have hx : R32 x := oks_h os
  have hz : 0 ≤ Int32.ofInt x ↔ 0 ≤ x := by have h0 := oi_le R32_0 hx; rw [oi_0] at h0; exact h0
  exact lv_if_ge C.1 C.2.1 hd ht (fun q => kt (hz.mp q) p e R s m args below meth c H locs dC dI ad cA A C D ol (oks_t os) ls hl) (fun q => kf (fun z => q (hz.mpr z)) p e R s m args below meth c H locs dC dI ad cA A C D ol (oks_t os) ls hl)
theorem EV_icmp_gt {x y off : Int} {tgt : Nat} (hd : decode b pc = .ok (.if_icmp .gt off, 3)) (ht : (pc : Int) + off = (tgt : Int)) (kt : y < x → EV l b own nL ret d tgt lv st w K) (kf : ¬ y < x → EV l b own nL ret d (pc + 3) lv st w K) : EV l b own nL ret d pc lv (vI y :: vI x :: st) w K := by
  intro p e R s m args below meth c H locs dC dI ad cA A C D ol os ls hl
  have hx : R32 x := oks_h (oks_t os)
  have hy : R32 y := oks_h os
  exact lv_icmp_gt C.1 C.2.1 hd ht (fun q => kt ((oi_lt hy hx).mp q) p e R s m args below meth c H locs dC dI ad cA A C D ol (oks_t (oks_t os)) ls hl) (fun q => kf (fun z => q ((oi_lt hy hx).mpr z)) p e R s m args below meth c H locs dC dI ad cA A C D ol (oks_t (oks_t os)) ls hl)
theorem EV_if_gt {x off : Int} {tgt : Nat} (hd : decode b pc = .ok (.ifCond .gt off, 3)) (ht : (pc : Int) + off = (tgt : Int)) (kt : 0 < x → EV l b own nL ret d tgt lv st w K) (kf : ¬ 0 < x → EV l b own nL ret d (pc + 3) lv st w K) : EV l b own nL ret d pc lv (vI x :: st) w K := by
  intro p e R s m args below meth c H locs dC dI ad cA A C D ol os ls hl
  have hx : R32 x := oks_h os
  have hz : 0 < Int32.ofInt x ↔ 0 < x := by have h0 := oi_lt R32_0 hx; rw [oi_0] at h0; exact h0
  exact lv_if_gt C.1 C.2.1 hd ht (fun q => kt (hz.mp q) p e R s m args below meth c H locs dC dI ad cA A C D ol (oks_t os) ls hl) (fun q => kf (fun z => q (hz.mpr z)) p e R s m args below meth c H locs dC dI ad cA A C D ol (oks_t os) ls hl)
theorem EV_icmp_le {x y off : Int} {tgt : Nat} (hd : decode b pc = .ok (.if_icmp .le off, 3)) (ht : (pc : Int) + off = (tgt : Int)) (kt : x ≤ y → EV l b own nL ret d tgt lv st w K) (kf : ¬ x ≤ y → EV l b own nL ret d (pc + 3) lv st w K) : EV l b own nL ret d pc lv (vI y :: vI x :: st) w K := by
  intro p e R s m args below meth c H locs dC dI ad cA A C D ol os ls hl
  have hx : R32 x := oks_h (oks_t os)
  have hy : R32 y := oks_h os
  exact lv_icmp_le C.1 C.2.1 hd ht (fun q => kt ((oi_le hx hy).mp q) p e R s m args below meth c H locs dC dI ad cA A C D ol (oks_t (oks_t os)) ls hl) (fun q => kf (fun z => q ((oi_le hx hy).mpr z)) p e R s m args below meth c H locs dC dI ad cA A C D ol (oks_t (oks_t os)) ls hl)
theorem EV_if_le {x off : Int} {tgt : Nat} (hd : decode b pc = .ok (.ifCond .le off, 3)) (ht : (pc : Int) + off = (tgt : Int)) (kt : x ≤ 0 → EV l b own nL ret d tgt lv st w K) (kf : ¬ x ≤ 0 → EV l b own nL ret d (pc + 3) lv st w K) : EV l b own nL ret d pc lv (vI x :: st) w K := by
  intro p e R s m args below meth c H locs dC dI ad cA A C D ol os ls hl
  have hx : R32 x := oks_h os
  have hz : Int32.ofInt x ≤ 0 ↔ x ≤ 0 := by have h0 := oi_le hx R32_0; rw [oi_0] at h0; exact h0
  exact lv_if_le C.1 C.2.1 hd ht (fun q => kt (hz.mp q) p e R s m args below meth c H locs dC dI ad cA A C D ol (oks_t os) ls hl) (fun q => kf (fun z => q (hz.mpr z)) p e R s m args below meth c H locs dC dI ad cA A C D ol (oks_t os) ls hl)
theorem EV_goto {off : Int} {tgt : Nat} (hd : decode b pc = .ok (.goto off, 3)) (ht : (pc : Int) + off = (tgt : Int)) (k : EV l b own nL ret d tgt lv st w K) : EV l b own nL ret d pc lv (st) w K := by
  intro p e R s m args below meth c H locs dC dI ad cA A C D ol os ls hl
  exact lv_goto C.1 C.2.1 hd ht (k p e R s m args below meth c H locs dC dI ad cA A C D ol os ls hl)
theorem cv_c1 {ad : Nat → Nat} {v : AV} (h : isL v = false) : (cv ad v).category = 1 := by
  rcases v with x | n | k
  · rfl
  · cases h
  · rfl
theorem EV_dup {v : AV} (hd : decode b pc = .ok (.dup, 1)) (hv : isL v = false) (k : EV l b own nL ret d (pc + 1) lv (v :: v :: st) w K) : EV l b own nL ret d pc lv (v :: st) w K := by
  intro p e R s m args below meth c H locs dC dI ad cA A C D ol os ls hl
  exact lv_dup C.1 C.2.1 hd (cv_c1 hv) (k p e R s m args below meth c H locs dC dI ad cA A C D ol (oks_c (oks_h os) os) ls hl)
theorem EV_pop {v : AV} (hd : decode b pc = .ok (.pop, 1)) (hv : isL v = false) (k : EV l b own nL ret d (pc + 1) lv (st) w K) : EV l b own nL ret d pc lv (v :: st) w K := by
  intro p e R s m args below meth c H locs dC dI ad cA A C D ol os ls hl
  exact lv_pop C.1 C.2.1 hd (cv_c1 hv) (k p e R s m args below meth c H locs dC dI ad cA A C D ol (oks_t os) ls hl)
theorem EV_dup2 {v u : AV} (hd : decode b pc = .ok (.dup2, 1)) (hv : isL v = false) (hu : isL u = false) (k : EV l b own nL ret d (pc + 1) lv (v :: u :: v :: u :: st) w K) : EV l b own nL ret d pc lv (v :: u :: st) w K := by
  intro p e R s m args below meth c H locs dC dI ad cA A C D ol os ls hl
  exact lv_dup2_11 C.1 C.2.1 hd (cv_c1 hv) (cv_c1 hu) (k p e R s m args below meth c H locs dC dI ad cA A C D ol (oks_c (oks_h os) (oks_c (oks_h (oks_t os)) os)) ls hl)
end EVR
