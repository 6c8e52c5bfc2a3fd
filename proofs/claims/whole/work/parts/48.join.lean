/-! the search: the class's cells stand for each other -/
def cs (NL : List Nat) (e : Sy) : Int := if e.1 = -1 then -1 else sC NL [] e
def OkE (NL : List Nat) (E : List Sy) : Prop := ∀ x, x < E.length → okS (en E x) ∧ (en E x).1 ≤ 4 ∧ (0 ≤ (en E x).1 → (en E x).2 ≠ 1 → (en E x).2 ≠ 2 → (en E x).2 ∈ NL)
theorem cs_ar {NL : List Nat} {e : Sy} (h : okS e) (h4 : e.1 ≤ 4) : arS (cs NL e) = (e.1.toNat : Int) := by
  unfold cs
  by_cases q : e.1 = -1
  · rw [if_pos q, q]; rfl
  · rw [if_neg q]; exact arS_sC h h4
theorem sC_l (NL : List Nat) : sC NL [] (2, 1) = 10 := rfl
theorem sC_n (NL : List Nat) : sC NL [] (0, 2) = 0 := rfl
theorem sC_c (NL : List Nat) : sC NL [] (-2, 0) = 16 := rfl
theorem cs_var {NL : List Nat} {e : Sy} (h : okS e) : cs NL e = -1 ↔ e.1 = -1 := by
  unfold cs
  by_cases q : e.1 = -1
  · rw [if_pos q]; exact ⟨fun _ => q, fun _ => rfl⟩
  · rw [if_neg q]
    refine ⟨fun z => ?_, fun z => absurd z q⟩
    rcases h with (h | h | h | ⟨h1, h2, h3⟩) | h
    · exact absurd h q
    · rw [h, sC_l] at z; exact absurd z (by decide)
    · rw [h, sC_n] at z; exact absurd z (by decide)
    · unfold sC at z
      rw [if_neg q, if_neg (by omega), if_neg h2, if_neg h3] at z
      omega
    · rw [h, sC_c] at z; exact absurd z (by decide)
theorem cs_inj {NL : List Nat} {e e' : Sy} (h : okS e) (h' : okS e') (h4 : e.1 ≤ 4) (h4' : e'.1 ≤ 4) (hn : 0 ≤ e.1 → e.2 ≠ 1 → e.2 ≠ 2 → e.2 ∈ NL) (hn' : 0 ≤ e'.1 → e'.2 ≠ 1 → e'.2 ≠ 2 → e'.2 ∈ NL) (hv : e.1 ≠ -1) (hv' : e'.1 ≠ -1) (hc : cs NL e = cs NL e') : e = e' := by
  unfold cs at hc
  rw [if_neg hv, if_neg hv'] at hc
  have big : ∀ {x : Sy}, 0 ≤ x.1 → x.2 ≠ 1 → x.2 ≠ 2 → sC NL [] x = (3 + (idx NL x.2 : Int)) * 8 + x.1 := fun a c d => by
    unfold sC
    rw [if_neg (by omega), if_neg (by omega), if_neg c, if_neg d]
  rcases h with (h | h | h | ⟨a1, a2, a3⟩) | h
  · exact absurd h hv
  · subst h
    rcases h' with (k | k | k | ⟨b1, b2, b3⟩) | k
    · exact absurd k hv'
    · exact k.symm
    · subst k; simp only [sC_l, sC_n, sC_c] at hc; exact absurd hc (by decide)
    · rw [big b1 b2 b3, show sC NL [] (2, 1) = 10 from rfl] at hc; omega
    · subst k; simp only [sC_l, sC_n, sC_c] at hc; exact absurd hc (by decide)
  · subst h
    rcases h' with (k | k | k | ⟨b1, b2, b3⟩) | k
    · exact absurd k hv'
    · subst k; simp only [sC_l, sC_n, sC_c] at hc; exact absurd hc (by decide)
    · exact k.symm
    · rw [big b1 b2 b3, show sC NL [] (0, 2) = 0 from rfl] at hc; omega
    · subst k; simp only [sC_l, sC_n, sC_c] at hc; exact absurd hc (by decide)
  · rcases h' with (k | k | k | ⟨b1, b2, b3⟩) | k
    · exact absurd k hv'
    · subst k
      rw [big a1 a2 a3, show sC NL [] (2, 1) = 10 from rfl] at hc; omega
    · subst k
      rw [big a1 a2 a3, show sC NL [] (0, 2) = 0 from rfl] at hc; omega
    · rw [big a1 a2 a3, big b1 b2 b3] at hc
      have e1 : e.1 = e'.1 := by omega
      have e2 : idx NL e.2 = idx NL e'.2 := by omega
      exact Prod.ext e1 (idx_inj (hn a1 a2 a3) (hn' b1 b2 b3) e2)
    · subst k
      rw [big a1 a2 a3, show sC NL [] (-2, 0) = 16 from rfl] at hc; omega
  · subst h
    rcases h' with (k | k | k | ⟨b1, b2, b3⟩) | k
    · exact absurd k hv'
    · subst k; simp only [sC_l, sC_n, sC_c] at hc; exact absurd hc (by decide)
    · subst k; simp only [sC_l, sC_n, sC_c] at hc; exact absurd hc (by decide)
    · rw [big b1 b2 b3, show sC NL [] (-2, 0) = 16 from rfl] at hc; omega
    · exact k.symm
/-- the class's cells -/
def CW (NL : List Nat) (E : List Sy) (te : Ob) : Prop := te.1 0 = (E.length : Int) ∧ E.length ≤ 2440 ∧ ∀ x : Nat, x < E.length → te.2.1 0 (x : Int) = cs NL (en E x) ∧ te.2.1 1 (x : Int) = (tsz E x : Int)
/-- what stands for what -/
def Fo (E : List Sy) (sf : Int → Int) (rp dp : Nat → Nat) (N : Nat) : Prop := ∀ x, x < E.length → dp x ≤ N ∧ ((sf (x : Int) = -1 ∧ rp x = x ∧ dp x = 0) ∨ ∃ y, y < E.length ∧ sf (x : Int) = (y : Int) ∧ rp y = rp x ∧ dp x = dp y + 1)
theorem Fo_rp {E : List Sy} {sf : Int → Int} {rp dp : Nat → Nat} {N : Nat} (h : Fo E sf rp dp N) : ∀ (n x : Nat), x < E.length → dp x ≤ n → rp x < E.length ∧ rp (rp x) = rp x ∧ sf (rp x : Int) = -1 ∧ dp (rp x) = 0 := by
  intro n
  induction n with
  | zero =>
    intro x hx hd
    rcases (h x hx).2 with ⟨h1, h2, h3⟩ | ⟨y, h1, h2, h3, h4⟩
    · rw [h2]; exact ⟨hx, h2, h1, h3⟩
    · omega
  | succ n ih =>
    intro x hx hd
    rcases (h x hx).2 with ⟨h1, h2, h3⟩ | ⟨y, h1, h2, h3, h4⟩
    · rw [h2]; exact ⟨hx, h2, h1, h3⟩
    · have := ih y h1 (by omega)
      rw [h3] at this
      exact this
theorem Fo_r {E : List Sy} {sf : Int → Int} {rp dp : Nat → Nat} {N x : Nat} (h : Fo E sf rp dp N) (hx : x < E.length) : rp x < E.length ∧ rp (rp x) = rp x ∧ sf (rp x : Int) = -1 ∧ dp (rp x) = 0 := Fo_rp h (dp x) x hx (Nat.le_refl _)
/-- a cell that is used -/
def Ix (te : Ob) (x : Int) : Prop := 0 ≤ x ∧ x < te.1 0 ∧ te.1 0 ≤ 2440
theorem CW_ix {NL : List Nat} {E : List Sy} {te : Ob} {x : Nat} (hC : CW NL E te) (hx : x < E.length) : Ix te (x : Int) := ⟨by omega, by have := hC.1; omega, by have := hC.1; have := hC.2.1; omega⟩
theorem sp_next {te : Ob} {x : Int} {K : Int → Prop} (h : Ix te x) (hK : K (te.2.1 2 x)) : wp_Ter_nextStanding x te K := by
  obtain ⟨h1, h2, h3⟩ := h
  exact ⟨fun z => by omega, fun _ => ⟨fun z => by omega, fun _ => ⟨⟨by omega, by omega⟩, hK⟩⟩⟩
theorem sp_symT {te : Ob} {x : Int} {K : Int → Prop} (h : Ix te x) (hK : K (te.2.1 0 x)) : wp_Ter_symbolAt x te K := by
  obtain ⟨h1, h2, h3⟩ := h
  exact ⟨fun z => by omega, fun _ => ⟨fun z => by omega, fun _ => ⟨⟨by omega, by omega⟩, hK⟩⟩⟩
theorem sp_sizT {te : Ob} {x : Int} {K : Int → Prop} (h : Ix te x) (hK : K (te.2.1 1 x)) : wp_Ter_sizeAt x te K := by
  obtain ⟨h1, h2, h3⟩ := h
  exact ⟨fun z => by omega, fun _ => ⟨fun z => by omega, fun _ => ⟨⟨by omega, by omega⟩, hK⟩⟩⟩
theorem sp_mkAt {te : Ob} {x : Int} {K : Int → Prop} (h : Ix te x) (hK : K (te.2.1 3 x)) : wp_Ter_markAt x te K := by
  obtain ⟨h1, h2, h3⟩ := h
  exact ⟨fun z => by omega, fun _ => ⟨fun z => by omega, fun _ => ⟨⟨by omega, by omega⟩, hK⟩⟩⟩
theorem sp_mk {te : Ob} {x v : Int} {K : Ob → Prop} (h : Ix te x) (hK : K (sA te 3 x v)) : wp_Ter_mark x v te K := by
  obtain ⟨h1, h2, h3⟩ := h
  exact ⟨fun z => by omega, fun _ => ⟨fun z => by omega, fun _ => ⟨⟨by omega, by omega⟩, hK⟩⟩⟩
theorem sp_stand {E : List Sy} {te : Ob} {rp dp : Nat → Nat} {N x : Nat} {K : Int → Prop} (h : Fo E (te.2.1 2) rp dp N) (hN : N ≤ 2440) (hE : te.1 0 = (E.length : Int) ∧ E.length ≤ 2440) (hx : x < E.length) (hK : K (rp x : Int)) : wp_Ter_standing (x : Int) te K := by
  have loop : ∀ (n y : Nat) (k : Int), y < E.length → dp y < n → 0 ≤ k → k + (dp y : Int) ≤ 2440 → rp y = rp x → Ter_standing_4 n (y : Int) k te K := by
    intro n
    induction n with
    | zero => intro y k _ h; omega
    | succ n ih =>
      intro y k hy hd k0 hk e
      have ix : Ix te (y : Int) := ⟨by omega, by omega, by omega⟩
      refine ⟨fun z => ?_, fun z => sp_next ix ⟨fun z1 => ?_, fun z1 => sp_next ix ⟨⟨by omega, by omega⟩, ?_⟩⟩⟩
      · rcases (h y hy).2 with ⟨h1, h2, h3⟩ | ⟨w, h1, h2, h3, h4⟩
        · rw [h2] at e; rw [e]; exact hK
        · omega
      · rcases (h y hy).2 with ⟨h1, h2, h3⟩ | ⟨w, h1, h2, h3, h4⟩
        · rw [h2] at e; rw [e]; exact hK
        · omega
      · rcases (h y hy).2 with ⟨h1, h2, h3⟩ | ⟨w, h1, h2, h3, h4⟩
        · exact absurd h1 z1
        · rw [h2]
          exact ih w (k + 1) h1 (by omega) (by omega) (by omega) (h3.trans e)
  exact ⟨dp x + 1, loop (dp x + 1) x 0 hx (by omega) (by omega) (by have := (h x hx).1; omega) rfl⟩
/-- the changes -/
def TeC (E : List Sy) (c1 : Int) (sf a4 : Int → Int) (chl : List Nat) : Prop := c1 = (chl.length : Int) ∧ (∀ i : Nat, i < chl.length → a4 (i : Int) = (chl.getD i 0 : Int)) ∧ chl.Nodup ∧ ∀ c ∈ chl, c < E.length ∧ sf (c : Int) ≠ -1
theorem TeC_len {E : List Sy} {sf a4 : Int → Int} {c1 : Int} {chl : List Nat} (h : TeC E c1 sf a4 chl) {r : Nat} (hr : r < E.length) (hs : sf (r : Int) = -1) : (chl ++ [r]).Nodup ∧ chl.length + 1 ≤ E.length := by
  obtain ⟨h1, h2, h3, h4⟩ := h
  have hn : (chl ++ [r]).Nodup := by
    rw [List.nodup_append]
    refine ⟨h3, List.nodup_cons.mpr ⟨List.not_mem_nil, List.nodup_nil⟩, fun a ha b hb => ?_⟩
    rw [List.mem_singleton.mp hb]
    intro e
    subst e
    exact (h4 a ha).2 hs
  have := nd_len E.length (chl ++ [r]) hn (fun c hc => by
    rcases List.mem_append.mp hc with q | q
    · exact (h4 c q).1
    · rw [List.mem_singleton.mp q]; exact hr)
  rw [List.length_append, List.length_singleton] at this
  exact ⟨hn, this⟩
/-- the waiting cells, the last one first -/
def Stk (f : Int → Int) : List Int → Prop
  | [] => True
  | x :: l => f (l.length : Int) = x ∧ Stk f l
theorem Stk_upd {f : Int → Int} {v : Int} {n : Int} : ∀ {l : List Int}, Stk f l → (l.length : Int) ≤ n → Stk (updI f n v) l
  | [], _, _ => trivial
  | x :: l, h, hn => by
    rw [List.length_cons] at hn
    refine ⟨?_, Stk_upd h.2 (by omega)⟩
    unfold updI
    rw [if_neg (by omega)]
    exact h.1
theorem sp_push {te : Ob} {x : Int} {l : List Int} {K : Ob → Prop} (h2 : te.1 2 = (l.length : Int)) (hS : Stk (te.2.1 5) l) (hl : l.length < 512) (hK : (sI (sA te 5 (te.1 2) x) 2 (te.1 2 + 1)).1 2 = ((x :: l).length : Int) → Stk ((sI (sA te 5 (te.1 2) x) 2 (te.1 2 + 1)).2.1 5) (x :: l) → K (sI (sA te 5 (te.1 2) x) 2 (te.1 2 + 1))) : wp_Ter_push x te K := by
  refine ⟨fun z => by omega, fun _ => ⟨⟨by omega, by omega⟩, ⟨by omega, by omega⟩, hK ?_ ⟨?_, ?_⟩⟩⟩
  · show te.1 2 + 1 = _
    rw [List.length_cons]; omega
  · show updI (te.2.1 5) (te.1 2) x (l.length : Int) = x
    unfold updI
    rw [if_pos h2.symm]
  · exact Stk_upd hS (by omega)
theorem sp_pop {te : Ob} {x : Int} {l : List Int} {K : Int → Ob → Prop} (h2 : te.1 2 = ((x :: l).length : Int)) (hS : Stk (te.2.1 5) (x :: l)) (hl : l.length < 512) (hK : (sI te 2 (te.1 2 - 1)).1 2 = (l.length : Int) → K x (sI te 2 (te.1 2 - 1))) : wp_Ter_pop te K := by
  rw [List.length_cons] at h2
  refine ⟨fun z => by omega, fun _ => ⟨⟨by omega, by omega⟩, ⟨?_, ?_⟩, ?_⟩⟩
  · show 0 ≤ te.1 2 - 1; omega
  · show te.1 2 - 1 < 512; omega
  · show K (te.2.1 5 (te.1 2 - 1)) _
    rw [show te.1 2 - 1 = (l.length : Int) by omega, hS.1]
    have := hK (by show te.1 2 - 1 = _; omega)
    rw [show te.1 2 - 1 = (l.length : Int) by omega] at this
    exact this
/-- two that stand for themselves, one now for the other -/
def rpS (rp : Nat → Nat) (a b : Nat) : Nat → Nat := fun x => if rp x = a then b else rp x
def dpS (rp dp : Nat → Nat) (a : Nat) : Nat → Nat := fun x => if rp x = a then dp x + 1 else dp x
theorem Fo_step {E : List Sy} {sf : Int → Int} {rp dp : Nat → Nat} {N a b : Nat} (h : Fo E sf rp dp N) (ha : a < E.length) (hb : b < E.length) (ra : rp a = a) (rb : rp b = b) (hab : a ≠ b) : Fo E (updI sf (a : Int) (b : Int)) (rpS rp a b) (dpS rp dp a) (N + 1) := by
  have sa := (Fo_r h ha).2.2
  have sb := (Fo_r h hb).2.2
  rw [ra] at sa
  rw [rb] at sb
  intro x hx
  refine ⟨?_, ?_⟩
  · have := (h x hx).1
    unfold dpS
    split <;> omega
  · by_cases e : x = a
    · subst e
      refine Or.inr ⟨b, hb, if_pos rfl, ?_, ?_⟩
      · unfold rpS
        rw [if_pos ra, rb, if_neg (fun z => hab z.symm)]
      · unfold dpS
        rw [if_pos ra, rb, if_neg (fun z => hab z.symm)]
        omega
    · have es : updI sf (a : Int) (b : Int) (x : Int) = sf (x : Int) := if_neg (by omega)
      rw [es]
      rcases (h x hx).2 with ⟨h1, h2, h3⟩ | ⟨y, h1, h2, h3, h4⟩
      · refine Or.inl ⟨h1, ?_, ?_⟩
        · unfold rpS; rw [h2, if_neg e]
        · unfold dpS; rw [h2, if_neg e, h3]
      · refine Or.inr ⟨y, h1, h2, ?_, ?_⟩
        · unfold rpS; rw [h3]
        · unfold dpS; rw [h3]
          split <;> omega
theorem TeC_step {E : List Sy} {c1 : Int} {sf a4 : Int → Int} {chl : List Nat} {a b : Nat} (h : TeC E c1 sf a4 chl) (ha : a < E.length) (hs : sf (a : Int) = -1) : TeC E (c1 + 1) (updI sf (a : Int) (b : Int)) (updI a4 c1 (a : Int)) (chl ++ [a]) := by
  have hn := (TeC_len h ha hs).1
  obtain ⟨h1, h2, h3, h4⟩ := h
  refine ⟨?_, fun i hi => ?_, hn, fun c hc => ?_⟩
  · rw [List.length_append, List.length_singleton]; omega
  · rw [List.length_append, List.length_singleton] at hi
    unfold updI
    by_cases q : i < chl.length
    · rw [if_neg (by omega), List.getD_eq_getElem?_getD, List.getElem?_append_left q, ← List.getD_eq_getElem?_getD]
      exact h2 i q
    · have : i = chl.length := by omega
      subst this
      rw [if_pos h1.symm, List.getD_eq_getElem?_getD, List.getElem?_append_right (Nat.le_refl _), Nat.sub_self]
      rfl
  · unfold updI
    rcases List.mem_append.mp hc with q | q
    · refine ⟨(h4 c q).1, ?_⟩
      split
      · omega
      · exact (h4 c q).2
    · rw [List.mem_singleton.mp q]
      refine ⟨ha, ?_⟩
      rw [if_pos rfl]
      omega
/-- how a later row of stands came out of an earlier one -/
def Tr (sf : Int → Int) (chl : List Nat) (sf' : Int → Int) (chl' : List Nat) : Prop := ∃ new : List Nat, chl' = chl ++ new ∧ (∀ c ∈ new, sf (c : Int) = -1) ∧ ∀ x : Int, (∀ c ∈ new, x ≠ (c : Int)) → sf' x = sf x
theorem Tr_refl (sf : Int → Int) (chl : List Nat) : Tr sf chl sf chl := ⟨[], (List.append_nil _).symm, fun c hc => absurd hc (List.not_mem_nil), fun _ _ => rfl⟩
theorem Tr_step {E : List Sy} {c1 : Int} {sf a4 : Int → Int} {chl : List Nat} {a b : Nat} {sf0 : Int → Int} {chl0 : List Nat} (h : TeC E c1 sf a4 chl) (ha : a < E.length) (hs : sf (a : Int) = -1) (hT : Tr sf0 chl0 sf chl) : Tr sf0 chl0 (updI sf (a : Int) (b : Int)) (chl ++ [a]) := by
  obtain ⟨new, h1, h2, h3⟩ := hT
  have hna : a ∉ chl := fun z => (h.2.2.2 a z).2 hs
  refine ⟨new ++ [a], by rw [h1, List.append_assoc], fun c hc => ?_, fun x hx => ?_⟩
  · rcases List.mem_append.mp hc with q | q
    · exact h2 c q
    · rw [List.mem_singleton.mp q, ← h3 (a : Int) (fun c hc z => hna (by rw [h1]; exact List.mem_append_right _ (by rw [show a = c by omega]; exact hc)))]
      exact hs
  · unfold updI
    rw [if_neg (hx a (List.mem_append_right _ (List.mem_singleton.mpr rfl)))]
    exact h3 x (fun c hc => hx c (List.mem_append_left _ hc))
def teF (te te' : Ob) : Prop := te'.1 0 = te.1 0 ∧ te'.1 3 = te.1 3 ∧ te'.2.1 0 = te.2.1 0 ∧ te'.2.1 1 = te.2.1 1 ∧ te'.2.1 3 = te.2.1 3 ∧ te'.2.1 6 = te.2.1 6
theorem teF_refl (te : Ob) : teF te te := ⟨rfl, rfl, rfl, rfl, rfl, rfl⟩
theorem teF_trans {a b c : Ob} (h : teF a b) (g : teF b c) : teF a c := ⟨g.1.trans h.1, g.2.1.trans h.2.1, g.2.2.1.trans h.2.2.1, g.2.2.2.1.trans h.2.2.2.1, g.2.2.2.2.1.trans h.2.2.2.2.1, g.2.2.2.2.2.trans h.2.2.2.2.2⟩
theorem CW_teF {NL : List Nat} {E : List Sy} {te te' : Ob} (h : CW NL E te) (f : teF te te') : CW NL E te' := by
  unfold CW
  rw [f.1, f.2.2.1, f.2.2.2.1]
  exact h
