/-! the search: the class's join -/
def fl : List (Nat × Nat) → List Int
  | [] => []
  | q :: ps => (q.1 : Int) :: (q.2 : Int) :: fl ps
theorem fl_len : ∀ ps : List (Nat × Nat), (fl ps).length = 2 * ps.length
  | [] => rfl
  | q :: ps => by
    show (fl ps).length + 1 + 1 = 2 * (ps.length + 1)
    rw [fl_len ps]; omega
def Pot (E : List Sy) (rp : Nat → Nat) (F : List Nat) : Nat := (F.map (fun c => if rp c = c then nA E c else 0)).sum
theorem Pot_le {E : List Sy} {rp : Nat → Nat} {a b : Nat} (rb : rp b = b) (hab : a ≠ b) : ∀ F : List Nat, Pot E (rpS rp a b) F ≤ Pot E rp F ∧ (rp a = a → a ∈ F → Pot E (rpS rp a b) F + nA E a ≤ Pot E rp F)
  | [] => ⟨Nat.le_refl _, fun _ h => absurd h (List.not_mem_nil)⟩
  | c :: F => by
    have ih := Pot_le (E := E) rb hab F
    have e1 : Pot E (rpS rp a b) (c :: F) = (if rpS rp a b c = c then nA E c else 0) + Pot E (rpS rp a b) F := by
      unfold Pot; rw [List.map_cons, List.sum_cons]
    have e2 : Pot E rp (c :: F) = (if rp c = c then nA E c else 0) + Pot E rp F := by
      unfold Pot; rw [List.map_cons, List.sum_cons]
    rw [e1, e2]
    have le : (if rpS rp a b c = c then nA E c else 0) ≤ (if rp c = c then nA E c else 0) := by
      by_cases q : rp c = c
      · rw [if_pos q]
        split <;> omega
      · rw [if_neg q]
        have z : ¬ rpS rp a b c = c := by
          unfold rpS
          by_cases z : rp c = a
          · rw [if_pos z]; intro e; rw [← e] at q; exact q rb
          · rw [if_neg z]; exact q
        rw [if_neg z]
        exact Nat.le_refl _
    refine ⟨by omega, fun ra hm => ?_⟩
    rcases List.mem_cons.mp hm with e | e
    · subst e
      have z : ¬ rpS rp a b a = a := by
        unfold rpS
        rw [if_pos ra]
        exact fun z => hab z.symm
      rw [if_neg z, if_pos ra]
      omega
    · have := ih.2 ra e
      omega
/-- a set of cells that holds its arguments -/
def FCl (E : List Sy) (rp : Nat → Nat) (F : List Nat) : Prop := ∀ c ∈ F, c < E.length ∧ rp c ∈ F ∧ ∀ k, k < nA E c → rp (ch E c k) ∈ F
theorem FCl_step {E : List Sy} {rp : Nat → Nat} {F : List Nat} {a b : Nat} (h : FCl E rp F) (hb : b ∈ F) : FCl E (rpS rp a b) F := fun c hc => by
  obtain ⟨h1, h2, h3⟩ := h c hc
  refine ⟨h1, ?_, fun k hk => ?_⟩
  · unfold rpS; split
    · exact hb
    · exact h2
  · unfold rpS; split
    · exact hb
    · exact h3 k hk
/-- the pairs of arguments -/
def pp (E : List Sy) (a b : Nat) : Nat → List (Nat × Nat) → List (Nat × Nat)
  | 0, ps => ps
  | k + 1, ps => (ch E b k, ch E a k) :: pp E a b k ps
theorem pp_len (E : List Sy) (a b : Nat) : ∀ (k : Nat) (ps : List (Nat × Nat)), (pp E a b k ps).length = ps.length + k
  | 0, ps => rfl
  | k + 1, ps => by
    show (pp E a b k ps).length + 1 = _
    rw [pp_len E a b k ps]; omega
theorem pp_mem {E : List Sy} {a b : Nat} {q : Nat × Nat} : ∀ {k : Nat} {ps : List (Nat × Nat)}, q ∈ pp E a b k ps ↔ q ∈ ps ∨ ∃ j, j < k ∧ q = (ch E b j, ch E a j)
  | 0, ps => ⟨Or.inl, fun h => h.resolve_right (fun z => by obtain ⟨j, hj, -⟩ := z; omega)⟩
  | k + 1, ps => by
    show q ∈ (ch E b k, ch E a k) :: pp E a b k ps ↔ _
    rw [List.mem_cons, pp_mem (k := k)]
    constructor
    · rintro (h | h | ⟨j, hj, h⟩)
      · exact Or.inr ⟨k, by omega, h⟩
      · exact Or.inl h
      · exact Or.inr ⟨j, by omega, h⟩
    · rintro (h | ⟨j, hj, h⟩)
      · exact Or.inr (Or.inl h)
      · by_cases e : j = k
        · subst e; exact Or.inl h
        · exact Or.inr (Or.inr ⟨j, by omega, h⟩)
/-- what all that join does leaves alone -/
def teG (te te' : Ob) : Prop := teF te te' ∧ te'.1 1 = te.1 1 ∧ te'.2.1 2 = te.2.1 2 ∧ te'.2.1 4 = te.2.1 4
theorem teG_trans {a b c : Ob} (h : teG a b) (g : teG b c) : teG a c := ⟨teF_trans h.1 g.1, g.2.1.trans h.2.1, g.2.2.1.trans h.2.2.1, g.2.2.2.trans h.2.2.2⟩
theorem teG_push (te : Ob) (n x v : Int) : teG te (sI (sA te 5 n x) 2 v) := ⟨⟨rfl, rfl, rfl, rfl, rfl, rfl⟩, rfl, rfl, rfl⟩
theorem teG_pop (te : Ob) (v : Int) : teG te (sI te 2 v) := ⟨⟨rfl, rfl, rfl, rfl, rfl, rfl⟩, rfl, rfl, rfl⟩
section JN
variable {NL : List Nat} {E : List Sy}
theorem sp_pairs (hW : WE E) (hO : OkE NL E) {te : Ob} {a b : Nat} {ps : List (Nat × Nat)} {K : Ob → Prop} (hC : CW NL E te) (ha : a < E.length) (hb : b < E.length) (he : en E a = en E b) (h2 : te.1 2 = ((fl ps).length : Int)) (hS : Stk (te.2.1 5) (fl ps)) (hl : 2 * (ps.length + nA E a) ≤ 512) (hK : ∀ te', teG te te' → te'.1 2 = ((fl (pp E a b (nA E a) ps)).length : Int) → Stk (te'.2.1 5) (fl (pp E a b (nA E a) ps)) → K te') : wp_Ter_pushPairs (a : Int) (b : Int) te K := by
  have hE := hC.2.1
  have hna : nA E b = nA E a := by unfold nA; rw [he]
  have h4 := (hO a ha).2.1
  have n4 : nA E a ≤ 4 := by unfold nA; omega
  have loop : ∀ (n k : Nat) (te' : Ob), k ≤ nA E a → nA E a < n + k → teG te te' → te'.1 2 = ((fl (pp E a b k ps)).length : Int) → Stk (te'.2.1 5) (fl (pp E a b k ps)) → Ter_pushPairs_22 n (nA E a : Int) (ch E a k : Int) (ch E b k : Int) (k : Int) te' K := by
    intro n
    induction n with
    | zero => intro k te' k1 k2; omega
    | succ n ih =>
      intro k te' k1 k2 hG e2 hS'
      refine ⟨fun z => ?_, fun z => ?_⟩
      · have : k = nA E a := by omega
        subst this
        exact hK te' hG e2 hS'
      · have hk : k < nA E a := by omega
        have la := ch_lt hW ha hk
        have lb := ch_lt hW hb (by rw [hna]; exact hk)
        have hlen := fl_len (pp E a b k ps)
        rw [pp_len] at hlen
        refine sp_push e2 hS' (by omega) (fun p1 p2 => ?_)
        refine sp_push p1 p2 (by rw [List.length_cons]; omega) (fun p3 p4 => ?_)
        have ca := (hC.2.2 (ch E a k) la).2
        have cb := (hC.2.2 (ch E b k) lb).2
        have ta := tsz_le hW la
        have tb := tsz_le hW lb
        have ea : te'.2.1 1 (ch E a k : Int) = (tsz E (ch E a k) : Int) := by rw [hG.1.2.2.2.1]; exact ca
        have eb' : te'.2.1 1 (ch E b k : Int) = (tsz E (ch E b k) : Int) := by rw [hG.1.2.2.2.1]; exact cb
        have hG2 := teG_trans hG (teG_trans (teG_push te' (te'.1 2) (ch E a k : Int) (te'.1 2 + 1)) (teG_push _ ((sI (sA te' 5 (te'.1 2) (ch E a k : Int)) 2 (te'.1 2 + 1)).1 2) (ch E b k : Int) ((sI (sA te' 5 (te'.1 2) (ch E a k : Int)) 2 (te'.1 2 + 1)).1 2 + 1)))
        have key := ih (k + 1) _ (by omega) (by omega) hG2 (by rw [p3]; rfl) p4
        have hC2 := CW_teF hC hG2.1
        refine sp_sizT (CW_ix hC2 la) ⟨?_, sp_sizT (CW_ix hC2 lb) ⟨?_, ⟨by omega, by omega⟩, ?_⟩⟩
        · show R32 ((ch E a k : Int) + te'.2.1 1 (ch E a k : Int))
          rw [ea]; exact ⟨by omega, by omega⟩
        · show R32 ((ch E b k : Int) + te'.2.1 1 (ch E b k : Int))
          rw [eb']; exact ⟨by omega, by omega⟩
        · show Ter_pushPairs_22 n (nA E a : Int) ((ch E a k : Int) + te'.2.1 1 (ch E a k : Int)) ((ch E b k : Int) + te'.2.1 1 (ch E b k : Int)) ((k : Int) + 1) _ K
          rw [ea, eb']
          rw [ch_succ, ch_succ] at key
          exact key
  refine sp_symT (CW_ix hC ha) ?_
  rw [(hC.2.2 a ha).1]
  refine sp_argumentsOf ?_
  rw [cs_ar (hO a ha).1 h4]
  refine ⟨⟨by omega, by omega⟩, ⟨by omega, by omega⟩, nA E a + 1, ?_⟩
  have := loop (nA E a + 1) 0 te (Nat.zero_le _) (by omega) ⟨teF_refl te, rfl, rfl, rfl⟩ h2 hS
  rw [ch_0, ch_0] at this
  exact this
def VR (E : List Sy) (rp : Nat → Nat) : Prop := ∀ x y, x < E.length → y < E.length → rp x = rp y → isV E (rp x) → isV E y
/-- what has been joined, and what waits -/
def JI (E : List Sy) (R0 : Nat → Nat → Prop) (a0 b0 : Nat) (rp : Nat → Nat) (ps : List (Nat × Nat)) : Prop := ∀ Y, Eqv Y → (∀ x y, x < E.length → y < E.length → rp x = rp y → Y x y) → (∀ q ∈ ps, Y q.1 q.2) → (∀ x y, x < E.length → y < E.length → rp x = rp y → ¬ isV E x → ¬ isV E y → en E x = en E y ∧ ∀ k, k < nA E x → Y (ch E x k) (ch E y k)) ∧ Y a0 b0 ∧ ∀ x y, x < E.length → y < E.length → R0 x y → Y x y
def JM (E : List Sy) (R0 : Nat → Nat → Prop) (a0 b0 : Nat) (rp : Nat → Nat) (ps : List (Nat × Nat)) : Prop := ∀ X, UnX E R0 a0 b0 X → (∀ x y, x < E.length → y < E.length → rp x = rp y → X x y) ∧ ∀ q ∈ ps, X q.1 q.2
/-- what is joined is reached from the first pair -/
def JR (E : List Sy) (a0 : Nat) (rp0 rp : Nat → Nat) (ps : List (Nat × Nat)) : Prop := ∀ (g : Nat → Nat) (S : Nat → Prop), (∀ x y, x < E.length → y < E.length → rp x = rp y → g x = g y) → (∀ q ∈ ps, g q.1 = g q.2) → S (g a0) → (∀ x, x < E.length → S (g x) → ¬ isV E x → ∀ k, k < nA E x → S (g (ch E x k))) → (∀ q ∈ ps, S (g q.1)) ∧ ∀ x, x < E.length → rp x ≠ rp0 x → S (g x)
/-- the class's terms with what stands for what -/
def TeS (NL : List Nat) (E : List Sy) (te : Ob) (rp dp : Nat → Nat) (chl : List Nat) : Prop := CW NL E te ∧ Fo E (te.2.1 2) rp dp (chl.length + 1) ∧ TeC E (te.1 1) (te.2.1 2) (te.2.1 4) chl
theorem TeS_G {te te' : Ob} {rp dp : Nat → Nat} {chl : List Nat} (h : TeS NL E te rp dp chl) (g : teG te te') : TeS NL E te' rp dp chl := by
  obtain ⟨h1, h2, h3⟩ := h
  refine ⟨CW_teF h1 g.1, ?_, ?_⟩
  · rw [g.2.2.1]; exact h2
  · rw [g.2.1, g.2.2.1, g.2.2.2]; exact h3
theorem TeS_N {te : Ob} {rp dp : Nat → Nat} {chl : List Nat} (h : TeS NL E te rp dp chl) {x : Nat} (hx : x < E.length) : chl.length + 1 ≤ 2440 := by
  have := Fo_r h.2.1 hx
  have := (TeC_len h.2.2 this.1 this.2.2.1).2
  have := h.1.2.1
  omega
/-- one cell now stands for another -/
theorem sp_let {te : Ob} {rp dp : Nat → Nat} {chl : List Nat} {a b : Nat} {K : Ob → Prop} {te0 : Ob} {chl0 : List Nat} (h : TeS NL E te rp dp chl) (hT : Tr (te0.2.1 2) chl0 (te.2.1 2) chl) (hF : teF te0 te) (ha : a < E.length) (hb : b < E.length) (ra : rp a = a) (rb : rp b = b) (hab : a ≠ b) (hK : ∀ te', TeS NL E te' (rpS rp a b) (dpS rp dp a) (chl ++ [a]) → Tr (te0.2.1 2) chl0 (te'.2.1 2) (chl ++ [a]) → teF te0 te' → te'.1 2 = te.1 2 → te'.2.1 5 = te.2.1 5 → K te') : wp_Ter_letStand (a : Int) (b : Int) te K := by
  obtain ⟨hC, hFo, hTc⟩ := h
  have sa := (Fo_r hFo ha).2.2.1
  rw [ra] at sa
  have hlen := (TeC_len hTc ha sa).2
  have hE := hC.2.1
  have h1 := hTc.1
  have h0 := hC.1
  refine ⟨fun z => by omega, fun _ => ⟨fun z => by omega, fun _ => ⟨fun z => by omega, fun _ => ⟨⟨by omega, by omega⟩, ⟨by omega, by omega⟩, ⟨by omega, by omega⟩, hK _ ⟨hC, ?_, ?_⟩ ?_ hF rfl rfl⟩⟩⟩⟩
  · rw [List.length_append, List.length_singleton]
    exact Fo_step hFo ha hb ra rb hab
  · exact TeC_step hTc ha sa
  · exact Tr_step hTc ha sa hT
theorem VR_step {rp : Nat → Nat} {a b : Nat} (h : VR E rp) (hr : ∀ x, x < E.length → rp x < E.length ∧ rp (rp x) = rp x) (ra : rp a = a) (rb : rp b = b) (ha : a < E.length) (hb : b < E.length) (hv : isV E b → isV E a) : VR E (rpS rp a b) := by
  intro x y hx hy e hvx
  unfold rpS at e hvx
  by_cases q1 : rp x = a
  · rw [if_pos q1] at e hvx
    by_cases q2 : rp y = a
    · exact h a y ha hy (by rw [ra, q2]) (by rw [ra]; exact hv hvx)
    · rw [if_neg q2] at e
      exact h b y hb hy (by rw [rb, e]) (by rw [rb]; exact hvx)
  · rw [if_neg q1] at e hvx
    by_cases q2 : rp y = a
    · rw [if_pos q2] at e
      rw [e] at hvx
      exact h a y ha hy (by rw [ra, q2]) (by rw [ra]; exact hv hvx)
    · rw [if_neg q2] at e
      exact h x y hx hy e hvx
theorem rpS_eq {rp : Nat → Nat} {a b x y : Nat} (h : rpS rp a b x = rpS rp a b y) : rp x = rp y ∨ (rp x = a ∧ rp y = b) ∨ (rp x = b ∧ rp y = a) := by
  unfold rpS at h
  by_cases q1 : rp x = a <;> by_cases q2 : rp y = a
  · exact Or.inl (q1.trans q2.symm)
  · rw [if_pos q1, if_neg q2] at h
    exact Or.inr (Or.inl ⟨q1, h.symm⟩)
  · rw [if_neg q1, if_pos q2] at h
    exact Or.inr (Or.inr ⟨h, q2⟩)
  · rw [if_neg q1, if_neg q2] at h
    exact Or.inl h
theorem rpS_le {rp : Nat → Nat} {a b x y : Nat} (h : rp x = rp y) : rpS rp a b x = rpS rp a b y := by unfold rpS; rw [h]
theorem join_loop (hW : WE E) (hO : OkE NL E) {R0 : Nat → Nat → Prop} {a0 b0 : Nat} {F : List Nat} {te0 : Ob} {chl0 : List Nat} {rp0 : Nat → Nat} {K : Int → Ob → Prop}
    (hK0 : (∀ X, UnX E R0 a0 b0 X → False) → ∀ te' rp' dp' chl', TeS NL E te' rp' dp' chl' → Tr (te0.2.1 2) chl0 (te'.2.1 2) chl' → teF te0 te' → K 0 te')
    (hK1 : ∀ te' rp' dp' chl', TeS NL E te' rp' dp' chl' → Tr (te0.2.1 2) chl0 (te'.2.1 2) chl' → teF te0 te' → VR E rp' → UnX E R0 a0 b0 (Rf rp') → (∀ X, UnX E R0 a0 b0 X → ∀ x y, x < E.length → y < E.length → rp' x = rp' y → X x y) → FCl E rp' F → JR E a0 rp0 rp' [] → K 1 te') :
    ∀ (n : Nat) (x3 : Int) (ps : List (Nat × Nat)) (rp dp : Nat → Nat) (chl : List Nat) (te : Ob), TeS NL E te rp dp chl → Tr (te0.2.1 2) chl0 (te.2.1 2) chl → teF te0 te → te.1 2 = ((fl ps).length : Int) → Stk (te.2.1 5) (fl ps) → (∀ q ∈ ps, q.1 < E.length ∧ q.2 < E.length ∧ rp q.1 ∈ F ∧ rp q.2 ∈ F) → FCl E rp F → ps.length + Pot E rp F ≤ 250 → 0 ≤ x3 → x3 + (ps.length : Int) + (Pot E rp F : Int) ≤ 300 → ps.length + Pot E rp F < n → VR E rp → JI E R0 a0 b0 rp ps → JM E R0 a0 b0 rp ps → JR E a0 rp0 rp ps → Ter_join_17 n x3 te K := by
  intro n
  induction n with
  | zero => intro x3 ps rp dp chl te _ _ _ _ _ _ _ _ _ _ h; omega
  | succ n ih =>
    intro x3 ps rp dp chl te hT hTr hF h2 hS hps hFc hC x0 hx3 hn hV hJI hJM hJR
    have hlen := fl_len ps
    refine ⟨fun z => by omega, fun _ => ⟨fun z => ?_, fun z => ?_⟩⟩
    · have hnil : ps = [] := by
        cases ps with
        | nil => rfl
        | cons q ps => rw [List.length_cons] at hlen; omega
      subst hnil
      have hj := hJI (Rf rp) (Rf_eqv rp) (fun _ _ _ _ h => h) (fun q hq => absurd hq (List.not_mem_nil))
      exact hK1 te rp dp chl hT hTr hF hV ⟨Rf_eqv rp, fun x y hx hy hr vx vy => hj.1 x y hx hy hr vx vy, hj.2.2, hj.2.1⟩ (fun X hX => (hJM X hX).1) hFc hJR
    · cases ps with
      | nil => rw [List.length_nil] at hlen; omega
      | cons q ps =>
        obtain ⟨p1, p2⟩ := q
        obtain ⟨l1, l2, f1, f2⟩ := hps (p1, p2) List.mem_cons_self
        have l1 : p1 < E.length := l1
        have l2 : p2 < E.length := l2
        have f1 : rp p1 ∈ F := f1
        have f2 : rp p2 ∈ F := f2
        rw [List.length_cons] at hC hx3 hn hlen
        have hlen2 := fl_len ps
        have hN := TeS_N hT l1
        refine sp_pop (x := (p1 : Int)) (l := (p2 : Int) :: fl ps) h2 hS (by rw [List.length_cons]; omega) (fun e2 => ?_)
        have hT1 := TeS_G hT (teG_pop te (te.1 2 - 1))
        refine sp_stand (x := p1) hT1.2.1 hN ⟨hT1.1.1, hT1.1.2.1⟩ l1 ?_
        refine sp_pop (x := (p2 : Int)) (l := fl ps) e2 hS.2 (by omega) (fun e3 => ?_)
        have hT2 := TeS_G hT1 (teG_pop (sI te 2 (te.1 2 - 1)) ((sI te 2 (te.1 2 - 1)).1 2 - 1))
        refine sp_stand (x := p2) hT2.2.1 hN ⟨hT2.1.1, hT2.1.2.1⟩ l2 ?_
        have hF2 : teF te0 (sI (sI te 2 (te.1 2 - 1)) 2 ((sI te 2 (te.1 2 - 1)).1 2 - 1)) := hF
        have hTr2 : Tr (te0.2.1 2) chl0 ((sI (sI te 2 (te.1 2 - 1)) 2 ((sI te 2 (te.1 2 - 1)).1 2 - 1)).2.1 2) chl := hTr
        have hS2 : Stk ((sI (sI te 2 (te.1 2 - 1)) 2 ((sI te 2 (te.1 2 - 1)).1 2 - 1)).2.1 5) (fl ps) := hS.2.2
        generalize (sI (sI te 2 (te.1 2 - 1)) 2 ((sI te 2 (te.1 2 - 1)).1 2 - 1)) = te6 at hT2 hF2 hTr2 hS2 e3 ⊢
        have ra := Fo_r hT2.2.1 l1
        have rb := Fo_r hT2.2.1 l2
        have hE := hT2.1.2.1
        have ca := (hT2.1.2.2 (rp p1) ra.1).1
        have cb := (hT2.1.2.2 (rp p2) rb.1).1
        have hr : ∀ x, x < E.length → rp x < E.length ∧ rp (rp x) = rp x := fun x hx => ⟨(Fo_r hT2.2.1 hx).1, (Fo_r hT2.2.1 hx).2.1⟩
        have hps' : ∀ q ∈ ps, q.1 < E.length ∧ q.2 < E.length ∧ rp q.1 ∈ F ∧ rp q.2 ∈ F := fun q hq => hps q (List.mem_cons_of_mem _ hq)
        -- a variable comes to stand for another cell
        have var : ∀ (a b : Nat), a < E.length → b < E.length → rp a = a → rp b = b → a ≠ b → a ∈ F → b ∈ F → isV E a → ((a = rp p1 ∧ b = rp p2) ∨ (a = rp p2 ∧ b = rp p1)) → wp_Ter_letStand (a : Int) (b : Int) te6 (fun te_12 => Ter_join_139 (fun x3 te' => Ter_join_17 n x3 te' K) x3 te_12 K) := fun a b la lb ea eb' hab fa fb va hor => by
          refine sp_let hT2 hTr2 hF2 la lb ea eb' hab (fun te' t1 t2 t3 t4 t5 => ⟨⟨by omega, by omega⟩, ?_⟩)
          have hp := Pot_le (E := E) (a := a) eb' hab F
          refine ih (x3 + 1) ps _ _ _ te' t1 t2 t3 (by rw [t4]; exact e3) (by rw [t5]; exact hS2) (fun q hq => ?_) (FCl_step hFc fb) (by omega) (by omega) (by omega) (by omega) (VR_step hV hr ea eb' la lb (fun _ => va)) ?_ ?_ ?_
          · obtain ⟨w1, w2, w3, w4⟩ := hps' q hq
            refine ⟨w1, w2, ?_, ?_⟩
            · unfold rpS; split
              · exact fb
              · exact w3
            · unfold rpS; split
              · exact fb
              · exact w4
          · intro Y hY y1 y2
            have y0 : ∀ x y, x < E.length → y < E.length → rp x = rp y → Y x y := fun x y hx hy h => y1 x y hx hy (rpS_le h)
            have yab : Y a b := y1 a b la lb (by unfold rpS; rw [if_pos ea, eb', if_neg (fun z => hab z.symm)])
            have yp : Y p1 p2 := by
              have h1 : Y p1 (rp p1) := y0 _ _ l1 ra.1 ra.2.1.symm
              have h2 : Y p2 (rp p2) := y0 _ _ l2 rb.1 rb.2.1.symm
              have h3 : Y (rp p1) (rp p2) := by
                rcases hor with ⟨w1, w2⟩ | ⟨w1, w2⟩
                · rw [← w1, ← w2]; exact yab
                · rw [← w1, ← w2]; exact hY.2.1 _ _ yab
              exact hY.2.2 _ _ _ h1 (hY.2.2 _ _ _ h3 (hY.2.1 _ _ h2))
            have hj := hJI Y hY y0 (fun q hq => by
              rcases List.mem_cons.mp hq with w | w
              · rw [w]; exact yp
              · exact y2 q w)
            refine ⟨fun x y hx hy h vx vy => ?_, hj.2⟩
            rcases rpS_eq h with w | ⟨w, -⟩ | ⟨-, w⟩
            · exact hj.1 x y hx hy w vx vy
            · exact absurd (hV a x la hx (by rw [ea, w]) (by rw [ea]; exact va)) vx
            · exact absurd (hV a y la hy (by rw [ea, w]) (by rw [ea]; exact va)) vy
          · intro X hX
            obtain ⟨m1, m2⟩ := hJM X hX
            refine ⟨fun x y hx hy h => ?_, fun q hq => m2 q (List.mem_cons_of_mem _ hq)⟩
            have xp : X (rp p1) (rp p2) := hX.1.2.2 _ _ _ (m1 _ _ ra.1 l1 ra.2.1) (hX.1.2.2 _ _ _ (m2 _ List.mem_cons_self) (m1 _ _ l2 rb.1 rb.2.1.symm))
            have xab : X a b := by
              rcases hor with ⟨w1, w2⟩ | ⟨w1, w2⟩
              · rw [w1, w2]; exact xp
              · rw [w1, w2]; exact hX.1.2.1 _ _ xp
            rcases rpS_eq h with w | ⟨w1, w2⟩ | ⟨w1, w2⟩
            · exact m1 x y hx hy w
            · exact hX.1.2.2 _ _ _ (m1 x a hx la (by rw [ea, w1])) (hX.1.2.2 _ _ _ xab (m1 b y lb hy (by rw [eb', w2])))
            · exact hX.1.2.2 _ _ _ (m1 x b hx lb (by rw [eb', w1])) (hX.1.2.2 _ _ _ (hX.1.2.1 _ _ xab) (m1 a y la hy (by rw [ea, w2])))
          · intro g S g1 g2 g3 g4
            have g0 : ∀ x y, x < E.length → y < E.length → rp x = rp y → g x = g y := fun x y hx hy h => g1 x y hx hy (rpS_le h)
            have gab : g a = g b := g1 a b la lb (by unfold rpS; rw [if_pos ea, eb', if_neg (fun z => hab z.symm)])
            have gp1 : g p1 = g (rp p1) := g0 _ _ l1 ra.1 ra.2.1.symm
            have gp2 : g p2 = g (rp p2) := g0 _ _ l2 rb.1 rb.2.1.symm
            have gp : g p1 = g p2 := by
              rcases hor with ⟨w1, w2⟩ | ⟨w1, w2⟩
              · rw [gp1, gp2, ← w1, ← w2]; exact gab
              · rw [gp1, gp2, ← w1, ← w2]; exact gab.symm
            have hh := hJR g S g0 (fun q hq => by
              rcases List.mem_cons.mp hq with w | w
              · rw [w]; exact gp
              · exact g2 q w) g3 g4
            have sp := hh.1 (p1, p2) List.mem_cons_self
            have sa : S (g a) := by
              rcases hor with ⟨w1, -⟩ | ⟨w1, -⟩
              · rw [w1, ← gp1]; exact sp
              · rw [w1, ← gp2, ← gp]; exact sp
            refine ⟨fun q hq => hh.1 q (List.mem_cons_of_mem _ hq), fun x hx hne2 => ?_⟩
            by_cases w : rp x = a
            · rw [g0 x a hx la (by rw [w, ea])]; exact sa
            · refine hh.2 x hx ?_
              unfold rpS at hne2
              rw [if_neg w] at hne2
              exact hne2
        refine ⟨fun hne => ?_, fun heq => ?_⟩
        · have hne' : rp p1 ≠ rp p2 := fun z => hne (by rw [z])
          have ia := CW_ix hT2.1 ra.1
          have ib := CW_ix hT2.1 rb.1
          refine sp_symT ia ⟨fun v1 => sp_symT ib ⟨fun v2 => sp_symT ia (sp_symT ib ⟨fun hd => ?_, fun hs => ?_⟩), fun v2 => ?_⟩, fun v1 => ?_⟩
          · -- two names that differ
            rw [ca] at v1 hd
            rw [cb] at v2 hd
            refine hK0 (fun X hX => ?_) te6 rp dp chl hT2 hTr2 hF2
            obtain ⟨m1, m2⟩ := hJM X hX
            have xp : X (rp p1) (rp p2) := hX.1.2.2 _ _ _ (m1 _ _ ra.1 l1 ra.2.1) (hX.1.2.2 _ _ _ (m2 _ List.mem_cons_self) (m1 _ _ l2 rb.1 rb.2.1.symm))
            have := (hX.2.1 _ _ ra.1 rb.1 xp (fun z => v1 ((cs_var (hO _ ra.1).1).mpr z)) (fun z => v2 ((cs_var (hO _ rb.1).1).mpr z))).1
            exact hd (by rw [this])
          · -- two names that are the same
            rw [ca] at v1 hs
            rw [cb] at v2 hs
            have nv1 : ¬ isV E (rp p1) := fun z => v1 ((cs_var (hO _ ra.1).1).mpr z)
            have nv2 : ¬ isV E (rp p2) := fun z => v2 ((cs_var (hO _ rb.1).1).mpr z)
            have hen : en E (rp p1) = en E (rp p2) := cs_inj (hO _ ra.1).1 (hO _ rb.1).1 (hO _ ra.1).2.1 (hO _ rb.1).2.1 (hO _ ra.1).2.2 (hO _ rb.1).2.2 nv1 nv2 hs
            have hna : nA E (rp p2) = nA E (rp p1) := by unfold nA; rw [hen]
            refine sp_let hT2 hTr2 hF2 ra.1 rb.1 ra.2.1 rb.2.1 hne' (fun te' t1 t2 t3 t4 t5 => ?_)
            have hp := (Pot_le (E := E) (a := rp p1) rb.2.1 hne' F).2 ra.2.1 f1
            refine sp_pairs hW hO t1.1 ra.1 rb.1 hen (by rw [t4]; exact e3) (by rw [t5]; exact hS2) (by omega) (fun te2 g1 g2 g3 => ⟨⟨by omega, by omega⟩, ?_⟩)
            have hpl := pp_len E (rp p1) (rp p2) (nA E (rp p1)) ps
            have inF : ∀ z, rp z ∈ F → rpS rp (rp p1) (rp p2) z ∈ F := fun z hz => by
              unfold rpS; split
              · exact f2
              · exact hz
            refine ih (x3 + 1) (pp E (rp p1) (rp p2) (nA E (rp p1)) ps) _ _ _ te2 (TeS_G t1 g1) (by rw [g1.2.2.1]; exact t2) (teF_trans t3 g1.1) g2 g3 (fun q hq => ?_) (FCl_step hFc f2) (by omega) (by omega) (by omega) (by omega) (VR_step hV hr ra.2.1 rb.2.1 ra.1 rb.1 (fun z => absurd z nv2)) ?_ ?_ ?_
            · rcases pp_mem.mp hq with w | ⟨j, hj, w⟩
              · obtain ⟨w1, w2, w3, w4⟩ := hps' q w
                exact ⟨w1, w2, inF _ w3, inF _ w4⟩
              · subst w
                exact ⟨ch_lt hW rb.1 (by rw [hna]; exact hj), ch_lt hW ra.1 hj, inF _ ((hFc _ f2).2.2 j (by rw [hna]; exact hj)), inF _ ((hFc _ f1).2.2 j hj)⟩
            · intro Y hY y1 y2
              have y0 : ∀ x y, x < E.length → y < E.length → rp x = rp y → Y x y := fun x y hx hy h => y1 x y hx hy (rpS_le h)
              have yab : Y (rp p1) (rp p2) := y1 _ _ ra.1 rb.1 (by unfold rpS; rw [if_pos ra.2.1, rb.2.1, if_neg (fun z => hne' z.symm)])
              have yp : Y p1 p2 := hY.2.2 _ _ _ (y0 _ _ l1 ra.1 ra.2.1.symm) (hY.2.2 _ _ _ yab (y0 _ _ rb.1 l2 rb.2.1))
              have hj := hJI Y hY y0 (fun q hq => by
                rcases List.mem_cons.mp hq with w | w
                · rw [w]; exact yp
                · exact y2 q (pp_mem.mpr (Or.inl w)))
              have ych : ∀ k, k < nA E (rp p1) → Y (ch E (rp p2) k) (ch E (rp p1) k) := fun k hk => y2 _ (pp_mem.mpr (Or.inr ⟨k, hk, rfl⟩))
              refine ⟨fun x y hx hy h vx vy => ?_, hj.2⟩
              rcases rpS_eq h with w | ⟨w1, w2⟩ | ⟨w1, w2⟩
              · exact hj.1 x y hx hy w vx vy
              · have q1 := hj.1 x (rp p1) hx ra.1 (by rw [ra.2.1, w1]) vx nv1
                have q2 := hj.1 y (rp p2) hy rb.1 (by rw [rb.2.1, w2]) vy nv2
                refine ⟨q1.1.trans (hen.trans q2.1.symm), fun k hk => ?_⟩
                have e1 : nA E x = nA E (rp p1) := by unfold nA; rw [q1.1]
                have e2 : nA E y = nA E (rp p1) := by unfold nA; rw [q2.1, hen]
                exact hY.2.2 _ _ _ (q1.2 k hk) (hY.2.2 _ _ _ (hY.2.1 _ _ (ych k (by omega))) (hY.2.1 _ _ (q2.2 k (by omega))))
              · have q1 := hj.1 x (rp p2) hx rb.1 (by rw [rb.2.1, w1]) vx nv2
                have q2 := hj.1 y (rp p1) hy ra.1 (by rw [ra.2.1, w2]) vy nv1
                refine ⟨q1.1.trans (hen.symm.trans q2.1.symm), fun k hk => ?_⟩
                have e1 : nA E x = nA E (rp p1) := by unfold nA; rw [q1.1, hen]
                have e2 : nA E y = nA E (rp p1) := by unfold nA; rw [q2.1]
                exact hY.2.2 _ _ _ (q1.2 k hk) (hY.2.2 _ _ _ (ych k (by omega)) (hY.2.1 _ _ (q2.2 k (by omega))))
            · intro X hX
              obtain ⟨m1, m2⟩ := hJM X hX
              have xp : X (rp p1) (rp p2) := hX.1.2.2 _ _ _ (m1 _ _ ra.1 l1 ra.2.1) (hX.1.2.2 _ _ _ (m2 _ List.mem_cons_self) (m1 _ _ l2 rb.1 rb.2.1.symm))
              have xc := (hX.2.1 _ _ ra.1 rb.1 xp nv1 nv2).2
              refine ⟨fun x y hx hy h => ?_, fun q hq => ?_⟩
              · rcases rpS_eq h with w | ⟨w1, w2⟩ | ⟨w1, w2⟩
                · exact m1 x y hx hy w
                · exact hX.1.2.2 _ _ _ (m1 x _ hx ra.1 (by rw [ra.2.1, w1])) (hX.1.2.2 _ _ _ xp (m1 _ y rb.1 hy (by rw [rb.2.1, w2])))
                · exact hX.1.2.2 _ _ _ (m1 x _ hx rb.1 (by rw [rb.2.1, w1])) (hX.1.2.2 _ _ _ (hX.1.2.1 _ _ xp) (m1 _ y ra.1 hy (by rw [ra.2.1, w2])))
              · rcases pp_mem.mp hq with w | ⟨j, hj, w⟩
                · exact m2 q (List.mem_cons_of_mem _ w)
                · subst w
                  exact hX.1.2.1 _ _ (xc j hj)
            · intro g S g1 g2 g3 g4
              have g0 : ∀ x y, x < E.length → y < E.length → rp x = rp y → g x = g y := fun x y hx hy h => g1 x y hx hy (rpS_le h)
              have gab : g (rp p1) = g (rp p2) := g1 _ _ ra.1 rb.1 (by unfold rpS; rw [if_pos ra.2.1, rb.2.1, if_neg (fun z => hne' z.symm)])
              have gp1 : g p1 = g (rp p1) := g0 _ _ l1 ra.1 ra.2.1.symm
              have gp2 : g p2 = g (rp p2) := g0 _ _ l2 rb.1 rb.2.1.symm
              have gp : g p1 = g p2 := by rw [gp1, gp2]; exact gab
              have hh := hJR g S g0 (fun q hq => by
                rcases List.mem_cons.mp hq with w | w
                · rw [w]; exact gp
                · exact g2 q (pp_mem.mpr (Or.inl w))) g3 g4
              have sp : S (g p1) := hh.1 (p1, p2) List.mem_cons_self
              refine ⟨fun q hq => ?_, fun x hx hne2 => ?_⟩
              · rcases pp_mem.mp hq with w | ⟨j, hj, w⟩
                · exact hh.1 q (List.mem_cons_of_mem _ w)
                · subst w
                  exact g4 (rp p2) rb.1 (by rw [← gp2, ← gp]; exact sp) nv2 j (by rw [hna]; exact hj)
              · by_cases w : rp x = rp p1
                · rw [g0 x p1 hx l1 w]; exact sp
                · refine hh.2 x hx ?_
                  unfold rpS at hne2
                  rw [if_neg w] at hne2
                  exact hne2
          · rw [cb] at v2
            exact var (rp p2) (rp p1) rb.1 ra.1 rb.2.1 ra.2.1 (fun z => hne' z.symm) f2 f1 ((cs_var (hO _ rb.1).1).mp v2) (Or.inr ⟨rfl, rfl⟩)
          · rw [ca] at v1
            exact var (rp p1) (rp p2) ra.1 rb.1 ra.2.1 rb.2.1 hne' f1 f2 ((cs_var (hO _ ra.1).1).mp v1) (Or.inl ⟨rfl, rfl⟩)
        · have heq' : rp p1 = rp p2 := by omega
          refine ⟨⟨by omega, by omega⟩, ?_⟩
          refine ih (x3 + 1) ps rp dp chl te6 hT2 hTr2 hF2 e3 hS2 hps' hFc (by omega) (by omega) (by omega) (by omega) hV ?_ ?_ ?_
          · intro Y hY y1 y2
            exact hJI Y hY y1 (fun q hq => by
              rcases List.mem_cons.mp hq with w | w
              · rw [w]; exact y1 p1 p2 l1 l2 heq'
              · exact y2 q w)
          · intro X hX
            exact ⟨(hJM X hX).1, fun q hq => (hJM X hX).2 q (List.mem_cons_of_mem _ hq)⟩
          · intro g S g1 g2 g3 g4
            have hh := hJR g S g1 (fun q hq => by
              rcases List.mem_cons.mp hq with w | w
              · rw [w]; exact g1 p1 p2 l1 l2 heq'
              · exact g2 q w) g3 g4
            exact ⟨fun q hq => hh.1 q (List.mem_cons_of_mem _ hq), hh.2⟩
theorem sp_join (hW : WE E) (hO : OkE NL E) {a0 b0 : Nat} {F : List Nat} {te : Ob} {rp dp : Nat → Nat} {chl : List Nat} {K : Int → Ob → Prop} (hT : TeS NL E te rp dp chl) (hClo : Clo E (Rf rp)) (hV : VR E rp) (ha : a0 < E.length) (hb : b0 < E.length) (fa : rp a0 ∈ F) (fb : rp b0 ∈ F) (hFc : FCl E rp F) (hP : Pot E rp F ≤ 240)
    (hK0 : (∀ X, UnX E (Rf rp) a0 b0 X → False) → ∀ te' rp' dp' chl', TeS NL E te' rp' dp' chl' → Tr (te.2.1 2) chl (te'.2.1 2) chl' → teF te te' → K 0 te')
    (hK1 : ∀ te' rp' dp' chl', TeS NL E te' rp' dp' chl' → Tr (te.2.1 2) chl (te'.2.1 2) chl' → teF te te' → VR E rp' → UnX E (Rf rp) a0 b0 (Rf rp') → (∀ X, UnX E (Rf rp) a0 b0 X → ∀ x y, x < E.length → y < E.length → rp' x = rp' y → X x y) → FCl E rp' F → JR E a0 rp rp' [] → K 1 te') : wp_Ter_join (a0 : Int) (b0 : Int) te K := by
  refine sp_push (te := sI te 2 0) (l := []) rfl trivial (by decide) (fun p1 p2 => ?_)
  refine sp_push p1 p2 (by show 1 < 512; decide) (fun p3 p4 => ?_)
  have hG : teG te (sI te 2 0) := teG_pop te 0
  have hG2 := teG_trans hG (teG_trans (teG_push (sI te 2 0) ((sI te 2 0).1 2) (a0 : Int) ((sI te 2 0).1 2 + 1)) (teG_push _ ((sI (sA (sI te 2 0) 5 ((sI te 2 0).1 2) (a0 : Int)) 2 ((sI te 2 0).1 2 + 1)).1 2) (b0 : Int) ((sI (sA (sI te 2 0) 5 ((sI te 2 0).1 2) (a0 : Int)) 2 ((sI te 2 0).1 2 + 1)).1 2 + 1)))
  refine ⟨1 + Pot E rp F + 1, join_loop hW hO (te0 := te) (chl0 := chl) (rp0 := rp) (R0 := Rf rp) hK0 hK1 _ 0 [(b0, a0)] rp dp chl _ (TeS_G hT hG2) (by rw [hG2.2.2.1]; exact Tr_refl _ _) hG2.1 p3 p4 (fun q hq => ?_) hFc (by show 1 + Pot E rp F ≤ 250; omega) (Int.le_refl _) (by show (0 : Int) + ((1 : Nat) : Int) + _ ≤ _; omega) (by show 1 + Pot E rp F < _; omega) hV ?_ ?_ ?_⟩
  · rw [List.mem_singleton.mp hq]
    exact ⟨hb, ha, fb, fa⟩
  · intro Y hY y1 y2
    refine ⟨fun x y hx hy h vx vy => ?_, hY.2.1 _ _ (y2 (b0, a0) List.mem_cons_self), fun x y hx hy h => y1 x y hx hy h⟩
    have := hClo x y hx hy h vx vy
    refine ⟨this.1, fun k hk => ?_⟩
    have e : nA E y = nA E x := by unfold nA; rw [this.1]
    exact y1 _ _ (ch_lt hW hx hk) (ch_lt hW hy (by rw [e]; exact hk)) (this.2 k hk)
  · intro X hX
    exact ⟨fun x y hx hy h => hX.2.2.1 x y hx hy h, fun q hq => by rw [List.mem_singleton.mp hq]; exact hX.1.2.1 _ _ hX.2.2.2⟩
  · intro g S g1 g2 g3 g4
    refine ⟨fun q hq => ?_, fun x _ h => absurd rfl h⟩
    have hq' := hq
    rw [List.mem_singleton.mp hq] at hq' ⊢
    have e : g b0 = g a0 := g2 (b0, a0) List.mem_cons_self
    show S (g b0)
    rw [e]
    exact g3
end JN
