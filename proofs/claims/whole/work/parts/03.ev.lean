/-! abstract values, cells, worlds; the judgement EV: a method's run over an abstract world -/
def R32 (x : Int) : Prop := -2147483648 ≤ x ∧ x ≤ 2147483647
abbrev AV : Type := Int ⊕ (Nat ⊕ Nat)
abbrev vI (x : Int) : AV := Sum.inl x
abbrev vL (n : Nat) : AV := Sum.inr (Sum.inl n)
abbrev vR (k : Nat) : AV := Sum.inr (Sum.inr k)
abbrev AC : Type := (Nat × Nat × (Int → Int)) ⊕ ((Nat × (Int → Nat)) ⊕ (Nat × List AV))
abbrev cI (t n : Nat) (f : Int → Int) : AC := Sum.inl (t, n, f)
abbrev cL (n : Nat) (f : Int → Nat) : AC := Sum.inr (Sum.inl (n, f))
abbrev cO (ci : Nat) (fs : List AV) : AC := Sum.inr (Sum.inr (ci, fs))
def cv (ad : Nat → Nat) : AV → Value
  | .inl x => .int (Int32.ofInt x)
  | .inr (.inl n) => .long (Int64.ofNat n)
  | .inr (.inr k) => .ref (ad k)
def ce (ad : Nat → Nat) (cA : Nat → ClassId) : AC → va_E
  | .inl (t, n, f) => .inl (cA t, n, .inl (fun j => Int32.ofInt (f (j : Int))))
  | .inr (.inl (n, f)) => .inl (cA 2, n, .inr (.inl (fun j => Int64.ofNat (f (j : Int)))))
  | .inr (.inr (ci, fs)) => .inr (ci, fs.map (cv ad))
def wsm (ad : Nat → Nat) (cA : Nat → ClassId) (w : List AC) : va_W := w.mapIdx (fun k c => (ad k, ce ad cA c))
def okv : AV → Prop
  | .inl x => R32 x
  | .inr (.inl n) => n < 18446744073709551616
  | .inr (.inr _) => True
def okc : AC → Prop
  | .inl (_, _, f) => ∀ i, R32 (f i)
  | .inr (.inl (_, f)) => ∀ i, f i < 18446744073709551616
  | .inr (.inr (_, fs)) => ∀ v ∈ fs, okv v
def okw (w : List AC) : Prop := ∀ c ∈ w, okc c
def oks (st : List AV) : Prop := ∀ v ∈ st, okv v
def okl (lv : List (Nat × AV)) : Prop := ∀ q ∈ lv, okv q.2
def lvm (ad : Nat → Nat) (lv : List (Nat × AV)) : List (Nat × Value) := lv.map (fun q => (q.1, cv ad q.2))
def stm (ad : Nat → Nat) (st : List AV) : List Value := st.map (cv ad)
def adk (ad : Nat → Nat) (A : Nat → Prop) (n : Nat) : Prop := (∀ i j, i < n → j < n → ad i = ad j → i = j) ∧ ∀ i, i < n → A (ad i)
/-- the one String constant, and String.COMPACT_STRINGS -/
def SX (ad : Nat → Nat) (A : Nat → Prop) (s : State) : Prop := vk_R "PrunedSearch$Text" 23 "(),.:-![]| " (ad 1000) s ∧ vk_S 1 [11] [[40, 41, 44, 46, 58, 45, 33, 91, 93, 124, 32]] (fun _ => ad 1000) (fun _ => ad 1001) A s s.heap ∧ va_Z "java/lang/String" "COMPACT_STRINGS" "Z" (.int 1) A s s.heap ∧ ∀ (own : String) (idx : Nat) (x : MethodName) (host : String), Cond.methodLinkNest own idx x host ∈ lw_tbl → va_Nw (.methodLinkNest own idx x host) s
abbrev tyl (cA : Nat → ClassId) : List (ClassId × FieldType) := [(cA 0, .int), (cA 1, .char), (cA 2, .long)]
def Cx0 (p : Program) (R : Room) (s : State) (m : MethodId) (args : Array Value) (meth : Method) (c : Code) (b : ByteArray) (own : String) (nL : Nat) (ret : Option FieldType) (d : Nat) (dC : Nat → ClassId) (dI : Nat → Nat → Nat) (ad : Nat → Nat) (cA : Nat → ClassId) (A : Nat → Prop) (n : Nat) : Prop :=
  p.tables.exec = Jvm.exec ∧ c.code = b ∧ c.maxLocals = nL ∧ meth.sig.returnType = ret ∧ meth.locks = false ∧ s.vm.findClass own = some m.cls ∧ (∀ x ∈ Wt, x.before args s = true) ∧ (d ≤ R.frames ∧ 40 * d ≤ R.locals) ∧ va_K (dC, dI) classes (tyl cA) s ∧ adk ad A n ∧ SX ad A s
def Cx1 (s : State) (dC : Nat → ClassId) (dI : Nat → Nat → Nat) (ad : Nat → Nat) (cA : Nat → ClassId) (A : Nat → Prop) (H : Heap) (locs : List Loc) (w : List AC) : Prop :=
  va_P (dC, dI) classes (wsm ad cA w) H ∧ va_S A s.heap H locs ∧ okw w
def Qk (dC : Nat → ClassId) (dI : Nat → Nat → Nat) (ad : Nat → Nat) (cA : Nat → ClassId) (A : Nat → Prop) (n : Nat) (K : Option AV → List AC → Prop) : Array Value → State → Outcome → State → Prop := fun _ st oc t =>
  ∃ (r : Option AV) (w' : List AC), oc = .returned (r.map (cv ad)) ∧ (∀ v, r = some v → okv v) ∧ okw w' ∧ w'.length = n ∧ K r w' ∧ va_P (dC, dI) classes (wsm ad cA w') t.heap ∧ va_F A st t
def EV (l : Launch) (b : ByteArray) (own : String) (nL : Nat) (ret : Option FieldType) (d : Nat) (pc : Nat) (lv : List (Nat × AV)) (st : List AV) (w : List AC) (K : Option AV → List AC → Prop) : Prop :=
  ∀ (p : Program) (e : Env) (R : Room) (s : State) (m : MethodId) (args : Array Value) (below : List Frame) (meth : Method) (c : Code) (H : Heap) (locs : List Loc) (dC : Nat → ClassId) (dI : Nat → Nat → Nat) (ad : Nat → Nat) (cA : Nat → ClassId) (A : Nat → Prop),
    Cx0 p R s m args meth c b own nL ret d dC dI ad cA A w.length → Cx1 s dC dI ad cA A H locs w → okl lv → oks st → ∀ ls : Array Slot, lv_has ls nL (lvm ad lv) →
      W p l e R s m args below meth c H locs 0 0 (MQ below (Qk dC dI ad cA A w.length K) args s 0 0 A) (F0 m pc ls (stm ad st))
/-- a method's contract, over an abstract world -/
def MT (l : Launch) (y : MethodName) (b : ByteArray) (nL : Nat) (ret : Option FieldType) (d : Nat) (as : List AV) (w : List AC) (K : Option AV → List AC → Prop) : Prop :=
  oks as → okw w → ∀ (dC : Nat → ClassId) (dI : Nat → Nat → Nat) (ad : Nat → Nat) (cA : Nat → ClassId), Met l y (.code y b nL ret :: Wt) { frames := d, cells := 0, slots := 0, locals := 40 * d }
    (va_Pc (stm ad as) (fun U => va_P (dC, dI) classes (wsm ad cA w) U.heap ∧ va_K (dC, dI) classes (tyl cA) U ∧ adk ad (fun q => ∃ k, k < w.length ∧ q = ad k) w.length ∧ SX ad (fun q => ∃ k, k < w.length ∧ q = ad k) U))
    (Qk dC dI ad cA (fun q => ∃ k, k < w.length ∧ q = ad k) w.length K) 0 0 (fun q => ∃ k, k < w.length ∧ q = ad k)
-- numbers
theorem oi_add (x y : Int) : Int32.ofInt (x + y) = Int32.ofInt x + Int32.ofInt y := Int32.ofInt_add x y
theorem oi_sub (x y : Int) : Int32.ofInt (x - y) = Int32.ofInt x - Int32.ofInt y := Int32.ofInt_sub x y
theorem oi_mul (x y : Int) : Int32.ofInt (x * y) = Int32.ofInt x * Int32.ofInt y := Int32.ofInt_mul x y
theorem oi_toInt {x : Int} (h : R32 x) : (Int32.ofInt x).toInt = x := Int32.toInt_ofInt_of_le (by have := h.1; omega) (by have := h.2; omega)
theorem oi_lt {x y : Int} (hx : R32 x) (hy : R32 y) : Int32.ofInt x < Int32.ofInt y ↔ x < y := by rw [Int32.lt_iff_toInt_lt, oi_toInt hx, oi_toInt hy]
theorem oi_le {x y : Int} (hx : R32 x) (hy : R32 y) : Int32.ofInt x ≤ Int32.ofInt y ↔ x ≤ y := by rw [Int32.le_iff_toInt_le, oi_toInt hx, oi_toInt hy]
theorem oi_eq {x y : Int} (hx : R32 x) (hy : R32 y) : Int32.ofInt x = Int32.ofInt y ↔ x = y := by rw [← Int32.toInt_inj, oi_toInt hx, oi_toInt hy]
theorem oi_0 : Int32.ofInt 0 = 0 := by decide +kernel
theorem R32_0 : R32 0 := ⟨by decide, by decide⟩
theorem oi_clamp {x : Int} (h : R32 x) (h0 : 0 ≤ x) : (Int32.ofInt x).toNatClampNeg = x.toNat := by
  rw [Int32.toNatClampNeg, oi_toInt h]
theorem oi_in {x : Int} {n : Nat} (hx : R32 x) (h0 : 0 ≤ x) (h1 : x < n) : vp_in (Int32.ofInt x) n := by
  rw [vp_in_iff, oi_toInt hx]
  exact ⟨h0, h1⟩
-- lists of values
theorem oks_c {v : AV} {st : List AV} (h : okv v) (hs : oks st) : oks (v :: st) := fun x hx => by
  rcases List.mem_cons.mp hx with rfl | h1
  · exact h
  · exact hs x h1
theorem oks_h {v : AV} {st : List AV} (hs : oks (v :: st)) : okv v := hs v List.mem_cons_self
theorem oks_t {v : AV} {st : List AV} (hs : oks (v :: st)) : oks st := fun x hx => hs x (List.mem_cons_of_mem _ hx)
theorem okl_at {lv : List (Nat × AV)} {k i : Nat} {v : AV} (h : okl lv) (hk : lv[k]? = some (i, v)) : okv v := h (i, v) (List.mem_of_getElem? hk)
theorem lvm_at {ad : Nat → Nat} {lv : List (Nat × AV)} {k i : Nat} {v : AV} (hk : lv[k]? = some (i, v)) : (lvm ad lv)[k]? = some (i, cv ad v) := by
  rw [lvm, List.getElem?_map, hk]; rfl
theorem wsm_at {ad : Nat → Nat} {cA : Nat → ClassId} {w : List AC} {k : Nat} {c : AC} (h : w[k]? = some c) : (wsm ad cA w)[k]? = some (ad k, ce ad cA c) := by
  rw [wsm, List.getElem?_mapIdx, h]; rfl
theorem wsm_set {ad : Nat → Nat} {cA : Nat → ClassId} {w : List AC} {k : Nat} {c : AC} : (wsm ad cA w).set k (ad k, ce ad cA c) = wsm ad cA (w.set k c) := by
  apply List.ext_getElem?
  intro i
  by_cases hi : i = k
  · subst hi
    by_cases hl : i < w.length
    · rw [List.getElem?_set_self (by simpa [wsm] using hl), wsm, List.getElem?_mapIdx, List.getElem?_set_self hl]; rfl
    · rw [List.getElem?_eq_none (by simpa [wsm] using hl), List.getElem?_eq_none (by simpa [wsm] using hl)]
  · rw [List.getElem?_set_ne (Ne.symm hi), wsm, wsm, List.getElem?_mapIdx, List.getElem?_mapIdx, List.getElem?_set_ne (Ne.symm hi)]
theorem wsm_len {ad : Nat → Nat} {cA : Nat → ClassId} {w : List AC} : (wsm ad cA w).length = w.length := by simp [wsm]
theorem wsm_get {ad : Nat → Nat} {cA : Nat → ClassId} {w : List AC} {k : Nat} {q : Nat × va_E} (h : (wsm ad cA w)[k]? = some q) : k < w.length ∧ q.1 = ad k := by
  rw [wsm, List.getElem?_mapIdx] at h
  cases hc : w[k]? with
  | none => rw [hc] at h; cases h
  | some c =>
    rw [hc] at h
    cases h
    exact ⟨(List.getElem?_eq_some_iff.mp hc).1, rfl⟩
theorem adk_D {ad : Nat → Nat} {cA : Nat → ClassId} {A : Nat → Prop} {w : List AC} (h : adk ad A w.length) : va_D A (wsm ad cA w) := by
  refine ⟨fun i j p q hi hj hpq => ?_, fun k q hk => ?_⟩
  · obtain ⟨h1, h2⟩ := wsm_get hi
    obtain ⟨h3, h4⟩ := wsm_get hj
    exact h.1 i j h1 h3 (by rw [← h2, ← h4]; exact hpq)
  · obtain ⟨h1, h2⟩ := wsm_get hk
    rw [h2]; exact h.2 k h1
theorem okw_set {w : List AC} {k : Nat} {c : AC} (h : okw w) (hc : okc c) : okw (w.set k c) := fun x hx => by
  rcases List.mem_or_eq_of_mem_set hx with h1 | rfl
  · exact h x h1
  · exact hc
