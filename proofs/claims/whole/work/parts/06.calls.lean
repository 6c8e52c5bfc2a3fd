/-! calls over abstract worlds -/
theorem good_tbl : GoodIn Wt Wt := fun w h => ⟨h, good_of_word (List.mem_filter.mp h).2⟩
theorem good_code {y : MethodName} {b : ByteArray} {nL : Nat} {ret : Option FieldType} (hc : Cond.code y b nL ret ∈ Wt) : GoodIn Wt (.code y b nL ret :: Wt) := fun w h => by
  rcases List.mem_cons.mp h with rfl | h1
  · exact good_tbl _ hc
  · exact good_tbl w h1
theorem SX_at {ad : Nat → Nat} {A B : Nat → Prop} {s U : State} {H : Heap} {locs : List Loc} (h : SX ad A s) (hS : va_S A s.heap H locs) (hU : U.heap = H) (hW : s.WarmedH U.vm) (hB : ∀ q, B q → A q) : SX ad B U := by
  have hk : ∀ a : Nat, a < s.heap.size → ¬ A a → U.heap[a]? = s.heap[a]? := fun a h1 h2 => by rw [hU]; exact hS.2.1 a h1 h2
  refine ⟨h.1.warm hW, ?_, ?_, fun own idx x host hm => va_Nw.warmM hW (h.2.2.2 own idx x host hm)⟩
  · exact vk_S.moved hW.alike ((h.2.1.kept hk).narrow hB)
  · exact (va_Z.moved hW.alike (h.2.2.1.kept hk)).narrow hB
theorem adk_self {ad : Nat → Nat} {A : Nat → Prop} {n : Nat} (h : adk ad A n) : adk ad (fun q => ∃ k, k < n ∧ q = ad k) n := ⟨h.1, fun i hi => ⟨i, hi, rfl⟩⟩
/-- where the arguments lie -/
def lva : Nat → List AV → List (Nat × AV)
  | _, [] => []
  | i, v :: vs => (i, v) :: lva (if isL v = true then i + 2 else i + 1) vs
def lsz : List AV → Nat
  | [] => 0
  | v :: vs => (if isL v = true then 2 else 1) + lsz vs
theorem lva_m {ad : Nat → Nat} : ∀ (as : List AV) (i : Nat), lv_args i (stm ad as) = lvm ad (lva i as)
  | [], _ => rfl
  | v :: vs, i => by
    have h : ((cv ad v).category = 2) = (isL v = true) := by rw [← cv_cat ad v]; simp
    show (i, cv ad v) :: lv_args (if (cv ad v).category = 2 then i + 2 else i + 1) (stm ad vs) = (i, cv ad v) :: lvm ad (lva (if isL v = true then i + 2 else i + 1) vs)
    simp only [h]
    rw [lva_m vs]
theorem lsz_m {ad : Nat → Nat} : ∀ as : List AV, (lg_sl (stm ad as)).length = lsz as
  | [] => rfl
  | v :: vs => by
    have ih := lsz_m (ad := ad) vs
    have h : ((cv ad v).category = 2) = (isL v = true) := by rw [← cv_cat ad v]; simp
    show (((if (cv ad v).category = 2 then [Slot.val (cv ad v), .second] else [.val (cv ad v)]) ++ lg_sl (stm ad vs))).length = (if isL v = true then 2 else 1) + lsz vs
    simp only [h, List.length_append, ih]
    split <;> simp
theorem okl_lva : ∀ (as : List AV) (i : Nat), oks as → okl (lva i as)
  | [], _, _ => fun _ h => by cases h
  | v :: vs, i, h => fun q hq => by
    rcases List.mem_cons.mp hq with rfl | h1
    · exact oks_h h
    · exact okl_lva vs _ (oks_t h) q h1
section CALL
variable {l : Launch} {b : ByteArray} {own : String} {nL : Nat} {ret : Option FieldType} {d pc : Nat} {lv : List (Nat × AV)} {st : List AV} {w : List AC} {K : Option AV → List AC → Prop}
/-- a contract out of a walk from the entry -/
theorem MT_of {y : MethodName} {as : List AV} (hpl : plainName y.cls = true) (hown : y.cls = own) (hen : lsz as ≤ nL) (hlv : lva 0 as = lv) (k : EV l b own nL ret d 0 lv [] w K) : MT l y b nL ret d as w K := by
  intro oa ow dC dI ad cA
  refine Met.ofW (cc := b) (maxL := nL) (ret := ret) hpl rfl ?_
  intro p e s m args below meth c s₁ B hml hv
  obtain ⟨rfl, hP, hK, hA, hX⟩ := hv
  have hts := atoms_spec (ws := .code y b nL ret :: Wt) B.pre
  have hf : s.vm.findClass own = some m.cls := by rw [← hown]; exact findClass_of_methodNamed B.named
  have hl := lv_entry (stm ad as) (n := nL) (by rw [lsz_m]; exact hen)
  rw [lg_entry_eq]
  generalize (lg_sl (stm ad as) ++ List.replicate (nL - (lg_sl (stm ad as)).length) Slot.unset).toArray = ls at hl ⊢
  rw [lva_m, hlv] at hl
  exact k p e _ s m _ below meth c s.heap [] dC dI ad cA (fun q => ∃ k, k < w.length ∧ q = ad k) ⟨B.exec, B.bytes, hml, B.returns, B.notSynchronized, hf, fun x hx => hts x (List.mem_cons_of_mem _ hx), ⟨Nat.le_refl _, Nat.le_refl _⟩, hK, hA, hX⟩ ⟨hP, va_S.rf, ow⟩ (hlv ▸ okl_lva as 0 oa) (fun v hv => by cases hv) ls hl
/-- behind a call -/
theorem EV_back {p : Program} {e : Env} {R : Room} {s : State} {m : MethodId} {args : Array Value} {below : List Frame} {meth : Method} {c : Code} {H : Heap} {locs : List Loc} {dC : Nat → ClassId} {dI : Nat → Nat → Nat} {ad : Nat → Nat} {cA : Nat → ClassId} {A : Nat → Prop} {ls : Array Slot} {st0 : List Value} {av : Array Value}
    (C : Cx0 p R s m args meth c b own nL ret d dC dI ad cA A w.length) (D : Cx1 s dC dI ad cA A H locs w) (ol : okl lv) (os : oks st) (hl : lv_has ls nL (lvm ad lv))
    (hr : va_Run p l e R s m args below meth c H locs 0 0 0 0 (F0 m pc ls st0) (stm ad st) (Qk dC dI ad cA (fun q => ∃ k, k < w.length ∧ q = ad k) w.length (fun r w' => EV l b own nL ret d (pc + 3) lv (r.toList ++ st) w' K) av) (fun q => ∃ k, k < w.length ∧ q = ad k)) :
    W p l e R s m args below meth c H locs 0 0 (MQ below (Qk dC dI ad cA A w.length K) args s 0 0 A) (F0 m pc ls st0) := by
  intro T hT X
  obtain ⟨v, st₀, t, T', L, h0, X', hL, e1, e2, ⟨r, w', hv, hrok, how, hlen, hk, hP, hF⟩, go⟩ := hr T hT X
  have hv' : v = r.map (cv ad) := by cases hv; rfl
  subst hv'
  have hA : ∀ q, (∃ k, k < w.length ∧ q = ad k) → A q := fun q ⟨k, h1, h2⟩ => by rw [h2]; exact C.2.2.2.2.2.2.2.2.2.1.2 k h1
  have hS : va_S A s.heap T'.heap (locs ++ L) := by
    refine ⟨?_, fun q h1 h2 => ?_, fun q hq => ?_⟩
    · rw [e1]; exact Nat.le_trans D.2.1.1 (by have := hF.1; rw [h0] at this; exact this)
    · have h3 := hF.2 q (by rw [h0]; exact Nat.lt_of_lt_of_le h1 D.2.1.1) (fun z => h2 (hA q z))
      rw [e1, h3, h0]
      exact D.2.1.2.1 q h1 h2
    · rcases List.mem_append.mp hq with h | h
      · exact D.2.1.2.2 q h
      · exact hA _ (hL q h)
  have hoks : oks (r.toList ++ st) := fun x hx => by
    rcases List.mem_append.mp hx with h | h
    · exact hrok x (by simpa using h)
    · exact os x h
  have h := hk p e R s m args below meth c T'.heap (locs ++ L) dC dI ad cA A (Cx0_len hlen C) ⟨by rw [e1]; exact hP, hS, how⟩ ol hoks ls hl
  rw [hlen] at h
  obtain ⟨t2, a1, b1⟩ := h T' rfl X'
  refine ⟨t2, go t2 ?_, b1⟩
  have e3 : stm ad (r.toList ++ st) = (r.map (cv ad)).toList ++ stm ad st := by
    cases r <;> simp [stm]
  rw [e3] at a1
  exact a1
theorem PB {dC : Nat → ClassId} {dI : Nat → Nat → Nat} {ad : Nat → Nat} {cA : Nat → ClassId} {av : List Value} {X : Prop} {B : Nat → Prop} : FrameBlind (va_Pc av (fun U => va_P (dC, dI) classes (wsm ad cA w) U.heap ∧ va_K (dC, dI) classes (tyl cA) U ∧ X ∧ SX ad B U)) := fun a U g mk q => by
  obtain ⟨q0, qP, qK, qX, qS⟩ := q
  have e : (U.calling g mk a).vm = U.vm := rfl
  have hh : (U.calling g mk a).heap = U.heap := rfl
  refine ⟨q0, qP, va_K.moved (u := U) (U := U.calling g mk a) (Vm.Alike.refl U.vm) qK, qX, ?_⟩
  exact ⟨vk_R.same e qS.1, vk_S.moved (u := U) (U := U.calling g mk a) (Vm.Alike.refl U.vm) qS.2.1, va_Z.moved (u := U) (U := U.calling g mk a) (Vm.Alike.refl U.vm) qS.2.2.1, fun own idx x host hm => va_Nw.same rfl e.symm (qS.2.2.2 own idx x host hm)⟩
end CALL
