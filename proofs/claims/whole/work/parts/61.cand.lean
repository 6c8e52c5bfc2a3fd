/-! the search: the clauses that may fit -/
def bt2 (l : List Nat) : Nat := (l.map (fun c => 2 ^ c)).sum
theorem bt2_cons (c : Nat) (l : List Nat) : bt2 (c :: l) = 2 ^ c + bt2 l := rfl
theorem bt2_dvd {n : Nat} : ∀ {l : List Nat}, (∀ c ∈ l, n ≤ c) → ∃ y, bt2 l = 2 ^ n * y
  | [], _ => ⟨0, rfl⟩
  | c :: l, h => by
    obtain ⟨y, hy⟩ := bt2_dvd (n := n) (fun d hd => h d (List.mem_cons_of_mem _ hd))
    have hc := h c List.mem_cons_self
    refine ⟨2 ^ (c - n) + y, ?_⟩
    rw [bt2_cons, hy, Nat.mul_add, ← Nat.pow_add, show n + (c - n) = c by omega]
theorem bt2_snoc (l : List Nat) (c : Nat) : bt2 (l ++ [c]) = bt2 l + 2 ^ c := by
  unfold bt2
  rw [List.map_append, List.sum_append, List.map_singleton, List.sum_singleton]
theorem low_and (c y : Nat) : (2 ^ c * (2 * y + 1)) &&& (2 ^ c * (2 * y + 1) - 1) = 2 ^ c * (2 * y) := by
  have hp : 0 < 2 ^ c := Nat.two_pow_pos c
  have hx : 2 ^ c * (2 * y + 1) = 2 ^ c * (2 * y) + 2 ^ c := by rw [Nat.mul_add, Nat.mul_one]
  have e1 : 2 ^ c * (2 * y + 1) - 1 = 2 ^ c * (2 * y) + (2 ^ c - 1) := by omega
  have d1 : 2 ^ c * (2 * y + 1) / 2 ^ c = 2 * y + 1 := Nat.mul_div_cancel_left _ hp
  have d2 : (2 ^ c * (2 * y + 1) - 1) / 2 ^ c = 2 * y := by
    rw [e1, Nat.mul_add_div hp, Nat.div_eq_of_lt (by omega), Nat.add_zero]
  have m1 : 2 ^ c * (2 * y + 1) % 2 ^ c = 0 := Nat.mul_mod_right _ _
  have a1 : (2 ^ c * (2 * y + 1) &&& (2 ^ c * (2 * y + 1) - 1)) / 2 ^ c = (2 * y + 1) &&& (2 * y) := by rw [Nat.and_div_two_pow, d1, d2]
  have a2 : (2 ^ c * (2 * y + 1) &&& (2 ^ c * (2 * y + 1) - 1)) % 2 ^ c = 0 := by rw [Nat.and_mod_two_pow, m1, Nat.zero_and]
  have b : (2 * y + 1) &&& (2 * y) = 2 * y := by
    have q1 : ((2 * y + 1) &&& (2 * y)) / 2 ^ 1 = y := by
      rw [Nat.and_div_two_pow, show (2 * y + 1) / 2 ^ 1 = y by omega, show 2 * y / 2 ^ 1 = y by omega, Nat.and_self]
    have q2 : ((2 * y + 1) &&& (2 * y)) % 2 ^ 1 = 0 := by
      rw [Nat.and_mod_two_pow, show 2 * y % 2 ^ 1 = 0 by omega, Nat.and_zero]
    omega
  rw [b] at a1
  have := Nat.div_add_mod (2 ^ c * (2 * y + 1) &&& (2 ^ c * (2 * y + 1) - 1)) (2 ^ c)
  rw [a1, a2] at this
  omega
/-- clauses in their order -/
def Inc (l : List Nat) : Prop := List.Pairwise (· < ·) l
theorem bt2_form {c : Nat} {l : List Nat} (h : Inc (c :: l)) : ∃ y, bt2 (c :: l) = 2 ^ c * (2 * y + 1) ∧ bt2 l = 2 ^ c * (2 * y) := by
  unfold Inc at h
  rw [List.pairwise_cons] at h
  obtain ⟨y, hy⟩ := bt2_dvd (n := c + 1) (l := l) (fun d hd => h.1 d hd)
  refine ⟨y, ?_, ?_⟩
  · rw [bt2_cons, hy, Nat.pow_succ, Nat.mul_add, Nat.mul_one, Nat.mul_assoc]
    omega
  · rw [hy, Nat.pow_succ, Nat.mul_assoc]
theorem sp_without {c : Nat} {l : List Nat} {K : Int → Prop} (h : Inc (c :: l)) (hb : bt2 (c :: l) < 2 ^ 24) (hK : K (bt2 l : Int)) : wp_Cho_withoutFirst (bt2 (c :: l) : Int) K := by
  obtain ⟨y, h1, h2⟩ := bt2_form h
  have hp : 0 < bt2 (c :: l) := by rw [bt2_cons]; have := Nat.two_pow_pos c; omega
  have h24 : (2 : Nat) ^ 24 = 16777216 := by decide
  refine ⟨⟨by omega, by omega⟩, by omega, by omega, ?_⟩
  have e1 : Int.toNat (bt2 (c :: l) : Int) = bt2 (c :: l) := Int.toNat_natCast _
  have e2 : Int.toNat ((bt2 (c :: l) : Int) - 1) = bt2 (c :: l) - 1 := by omega
  rw [e1, e2, h1, low_and, ← h2]
  exact hK
theorem sp_first {c : Nat} {l : List Nat} {K : Int → Prop} (h : Inc (c :: l)) (hc : c < 24) (hK : K (c : Int)) : wp_Cho_firstOf (bt2 (c :: l) : Int) K := by
  obtain ⟨y, h1, h2⟩ := bt2_form h
  have loop : ∀ (n k : Nat), k ≤ c → c < n + k → Cho_firstOf_2 n (bt2 (c :: l) : Int) (k : Int) K := by
    intro n
    induction n with
    | zero => intro k h1 h2; omega
    | succ n ih =>
      intro k hk hn
      have ed : (bt2 (c :: l) : Int) / 2 ^ ((k : Int)).toNat = ((bt2 (c :: l) / 2 ^ k : Nat) : Int) := by
        rw [Int.toNat_natCast]
        push_cast
        rfl
      refine ⟨fun z => ?_, fun z => ⟨by omega, ⟨by omega, by omega⟩, ?_, by decide, ?_⟩⟩
      · have : k = c := by omega
        rw [this]; exact hK
      · rw [ed]; exact Int.natCast_nonneg _
      · rw [ed, Int.toNat_natCast, show Int.toNat 1 = 1 from rfl, Nat.and_one_is_mod]
        refine ⟨fun z2 => ?_, fun z2 => ⟨⟨by omega, by omega⟩, ?_⟩⟩
        · by_cases e : k = c
          · rw [e]; exact hK
          · exfalso
            apply z2
            have : bt2 (c :: l) / 2 ^ k = 2 * (2 ^ (c - k - 1) * (2 * y + 1)) := by
              rw [h1, show c = k + (c - k - 1) + 1 by omega, Nat.pow_succ, Nat.pow_add]
              rw [show k + (c - k - 1) + 1 - k - 1 = c - k - 1 by omega]
              rw [show 2 ^ k * 2 ^ (c - k - 1) * 2 * (2 * y + 1) = 2 ^ k * (2 * (2 ^ (c - k - 1) * (2 * y + 1))) by
                rw [Nat.mul_assoc (2 ^ k), Nat.mul_assoc (2 ^ k), Nat.mul_comm (2 ^ (c - k - 1)) 2, Nat.mul_assoc 2]]
              exact Nat.mul_div_cancel_left _ (Nat.two_pow_pos k)
            rw [this]
            omega
        · by_cases e : k = c
          · exfalso
            subst e
            rw [h1, Nat.mul_div_cancel_left _ (Nat.two_pow_pos k)] at z2
            omega
          · have := ih (k + 1) (by omega) (by omega)
            exact this
  exact ⟨c + 1, loop (c + 1) 0 (Nat.zero_le _) (by omega)⟩
/-- clause P may fit the goal in cell g -/
def FitP (E : List Sy) (gg : Nat → Nat) (P : Part) (g : Nat) : Prop := en E g = (pL P).getD 0 (0, 0) ∧ (nA E g = 0 ∨ ((pL P).getD 1 (0, 0)).1 = -1 ∨ (en E (gg (ch E g 0))).1 = -1 ∨ en E (gg (ch E g 0)) = (pL P).getD 1 (0, 0))
theorem FitP_em (E : List Sy) (gg : Nat → Nat) (P : Part) (g : Nat) : FitP E gg P g ∨ ¬ FitP E gg P g := Classical.em _
def fitB (E : List Sy) (gg : Nat → Nat) (P : Part) (g : Nat) : Bool := decide (en E g = (pL P).getD 0 (0, 0) ∧ (nA E g = 0 ∨ ((pL P).getD 1 (0, 0)).1 = -1 ∨ (en E (gg (ch E g 0))).1 = -1 ∨ en E (gg (ch E g 0)) = (pL P).getD 1 (0, 0)))
theorem fitB_iff {E : List Sy} {gg : Nat → Nat} {P : Part} {g : Nat} : fitB E gg P g = true ↔ FitP E gg P g := by
  unfold fitB FitP
  exact decide_eq_true_iff
/-- all that may fit -/
def fits (E : List Sy) (gg : Nat → Nat) (Cs : List Part) (g : Nat) : List Nat := (List.range Cs.length).filter (fun c => fitB E gg (Cs.getD c ([], [])) g)
theorem fits_inc (E : List Sy) (gg : Nat → Nat) (Cs : List Part) (g : Nat) : Inc (fits E gg Cs g) := List.Pairwise.filter _ List.pairwise_lt_range
theorem fits_mem {E : List Sy} {gg : Nat → Nat} {Cs : List Part} {g c : Nat} : c ∈ fits E gg Cs g ↔ c < Cs.length ∧ FitP E gg (Cs.getD c ([], [])) g := by
  unfold fits
  rw [List.mem_filter, List.mem_range, fitB_iff]
theorem bt2_lt : ∀ (n : Nat) (p : Nat → Bool), bt2 ((List.range n).filter p) < 2 ^ n
  | 0, p => by show bt2 [] < 1; decide
  | n + 1, p => by
    have ih := bt2_lt n p
    rw [List.range_succ, List.filter_append, Nat.pow_succ]
    by_cases h : p n = true
    · rw [List.filter_cons_of_pos h, List.filter_nil, bt2_snoc]; omega
    · rw [List.filter_cons_of_neg h, List.filter_nil, List.append_nil]; omega
theorem getD_split {Cs : List Part} {c : Nat} (h : c < Cs.length) : ∃ A C, Cs = A ++ Cs.getD c ([], []) :: C ∧ A.length = c := by
  refine ⟨Cs.take c, Cs.drop (c + 1), ?_, by rw [List.length_take]; omega⟩
  have h1 := (List.take_append_drop c Cs).symm
  rw [List.drop_eq_getElem_cons h] at h1
  rw [List.getD_eq_getElem?_getD, List.getElem?_eq_getElem h]
  exact h1
/-- the class's candidates -/
theorem sp_candidates {NL : List Nat} {E : List Sy} {Cs : List Part} {pr te se : Ob} {rp dp : Nat → Nat} {chl : List Nat} {g : Nat} {K : Int → Prop} (hW : WE E) (hO : OkE NL E) (hT : TeS NL E te rp dp chl) (hPr : PrOk NL Cs pr) (hne : ∀ p ∈ Cs, p.1 ≠ []) (hg : g < E.length) (hs5 : se.1 5 = (g : Int)) (hnm : 0 ≤ (en E g).1 ∧ (en E g).2 ≠ 1 ∧ (en E g).2 ≠ 2) (hK : K (bt2 (fits E rp Cs g) : Int)) : wp_Sea_candidates (cs NL (en E g)) pr te se K := by
  obtain ⟨p0, p1, p2, p3, p4⟩ := hPr
  have hE := hT.1.2.1
  have og := hO g hg
  have b40 := psL_40 (fun q hq => (p4 q hq).2.1)
  -- a clause's head
  have head : ∀ (A : List Part) (P : Part) (C : List Part), Cs = A ++ P :: C → 0 < (pL P).length ∧ pr.2.1 0 ((psL A).length : Int) = cs NL ((pL P).getD 0 (0, 0)) ∧ ((pL P).getD 0 (0, 0)).1 ≠ -1 ∧ ((psL A).length : Int) + ((pL P).length : Int) ≤ pr.1 0 ∧ (pr.2.1 0 ((psL A).length : Int) = cs NL (en E g) ↔ en E g = (pL P).getD 0 (0, 0)) ∧ (∀ j, j < (pL P).length → pr.2.1 0 (((psL A).length : Int) + (j : Int)) = sC NL (vN (pL P)) ((pL P).getD j (0, 0))) := fun A P C hA => by
    have hm : P ∈ Cs := by rw [hA]; exact List.mem_append_right _ List.mem_cons_self
    obtain ⟨c1, c2, c3⟩ := p4 P hm
    obtain ⟨q1, q2, q3⟩ := p3 A P C hA
    rcases c1.1 with w | ⟨-, -, a, wd, T, e, w1, w2⟩
    · exact absurd w (hne P hm)
    · have h0 : (pL P).getD 0 (0, 0) = ((a : Int), wd) := by unfold pL; rw [e]; rfl
      have hlen : 0 < (pL P).length := by unfold pL; rw [e, List.length_append, List.length_cons]; omega
      have hv : ((pL P).getD 0 (0, 0)).1 ≠ -1 := by rw [h0]; show (a : Int) ≠ -1; omega
      have hsum : (psL A).length + (pL P).length ≤ (psL Cs).length := by rw [hA, psL_app, psL_cons, List.length_append, List.length_append]; omega
      have hsy := q2 0 hlen
      rw [show ((psL A).length : Int) + ((0 : Nat) : Int) = ((psL A).length : Int) by omega] at hsy
      have hcs : cs NL ((pL P).getD 0 (0, 0)) = sC NL [] ((pL P).getD 0 (0, 0)) := if_neg hv
      have e1 : pr.2.1 0 ((psL A).length : Int) = cs NL ((pL P).getD 0 (0, 0)) := by rw [hsy, hcs, sC_nv hv]
      refine ⟨hlen, e1, hv, by omega, ?_, q2⟩
      rw [e1]
      constructor
      · intro z
        exact (cs_inj (PSh_ok c1 _ (gD_mem hlen)) og.1 ((ov_40 c2).2.2.2 _ (gD_mem hlen)) og.2.1 (c3 _ (gD_mem hlen)) og.2.2 hv (by omega) z).symm
      · intro z; rw [z]
  have hr := fun (x : Nat) (hx : x < E.length) => Fo_r hT.2.1 hx
  have hpr960 : pr.1 0 ≤ 960 := by omega
  -- the loop
  have loop : ∀ (x2 x3 : Int), ((x2 = 1 ∧ nA E g = 0 ∧ x3 = -1) ∨ (x2 = 0 ∧ 0 < nA E g ∧ x3 = cs NL (en E (rp (ch E g 0))))) → ∀ (n c : Nat), c ≤ Cs.length → Cs.length < n + c → Sea_candidates_48 n (cs NL (en E g)) x2 x3 (bt2 ((List.range c).filter (fun c => fitB E rp (Cs.getD c ([], [])) g)) : Int) (c : Int) pr te se K := by
    intro x2 x3 hx n
    induction n with
    | zero => intro c h1 h2; omega
    | succ n ih =>
      intro c h1 h2
      show wp_Cod_partCount_p pr _
      refine ⟨fun z => ?_, fun z => ?_⟩
      · have : c = Cs.length := by omega
        subst this
        exact hK
      · have hc : c < Cs.length := by omega
        obtain ⟨A, C, hA, hAl⟩ := getD_split hc
        obtain ⟨k1, k2, k3, k4, k5, k6⟩ := head A _ C hA
        have hlt := bt2_lt c (fun c => fitB E rp (Cs.getD c ([], [])) g)
        have hp24 : (2 : Nat) ^ c ≤ 2 ^ 24 := Nat.pow_le_pow_right (by decide) (by omega)
        have h24 : (2 : Nat) ^ 24 = 16777216 := by decide
        have esucc : (List.range (c + 1)).filter (fun c => fitB E rp (Cs.getD c ([], [])) g) = (List.range c).filter (fun c => fitB E rp (Cs.getD c ([], [])) g) ++ (if fitB E rp (Cs.getD c ([], [])) g = true then [c] else []) := by
          rw [List.range_succ, List.filter_append]
          by_cases h : fitB E rp (Cs.getD c ([], [])) g = true
          · rw [if_pos h]
            exact congrArg (_ ++ ·) (List.filter_cons_of_pos (p := fun c => fitB E rp (Cs.getD c ([], [])) g) h)
          · rw [if_neg h]
            exact congrArg (_ ++ ·) (List.filter_cons_of_neg (p := fun c => fitB E rp (Cs.getD c ([], [])) g) h)
        have no : ¬ FitP E rp (Cs.getD c ([], [])) g → Sea_candidates_141 (fun x1 x2 x3 x4 x5 => Sea_candidates_48 n x1 x2 x3 x4 x5 pr te se K) (cs NL (en E g)) x2 x3 (bt2 ((List.range c).filter (fun c => fitB E rp (Cs.getD c ([], [])) g)) : Int) (c : Int) pr te se K := fun hno => by
          refine ⟨⟨by omega, by omega⟩, ?_⟩
          have := ih (c + 1) (by omega) (by omega)
          rw [esucc, if_neg (fun w => hno (fitB_iff.mp w)), List.append_nil] at this
          exact this
        have yes : FitP E rp (Cs.getD c ([], [])) g → Sea_candidates_141 (fun x1 x2 x3 x4 x5 => Sea_candidates_48 n x1 x2 x3 x4 x5 pr te se K) (cs NL (en E g)) x2 x3 ((Int.toNat (bt2 ((List.range c).filter (fun c => fitB E rp (Cs.getD c ([], [])) g)) : Int) ||| Int.toNat ((1 : Int) * 2 ^ (c : Int).toNat) : Nat) : Int) (c : Int) pr te se K := fun hyes => by
          refine ⟨⟨by omega, by omega⟩, ?_⟩
          have := ih (c + 1) (by omega) (by omega)
          rw [esucc, if_pos (fitB_iff.mpr hyes), bt2_snoc] at this
          have e1 : Int.toNat ((1 : Int) * 2 ^ (c : Int).toNat) = 2 ^ c := by
            rw [Int.toNat_natCast, Int.one_mul]
            have : ((2 : Int) ^ c) = ((2 ^ c : Nat) : Int) := by push_cast; rfl
            rw [this, Int.toNat_natCast]
          have e2 : bt2 ((List.range c).filter (fun c => fitB E rp (Cs.getD c ([], [])) g)) ||| 2 ^ c = bt2 ((List.range c).filter (fun c => fitB E rp (Cs.getD c ([], [])) g)) + 2 ^ c := by
            have := Nat.two_pow_add_eq_or_of_lt hlt 1
            rw [Nat.mul_one] at this
            rw [Nat.or_comm, ← this, Nat.add_comm]
          rw [Int.toNat_natCast, e1, e2]
          exact this
        -- with the head's own symbol
        have f112 : ∀ s0 : Int, (s0 = 0 ∨ s0 = 1) → (s0 = 1 → en E g = (pL (Cs.getD c ([], []))).getD 0 (0, 0) → FitP E rp (Cs.getD c ([], [])) g) → (s0 = 0 → ¬ FitP E rp (Cs.getD c ([], [])) g) → Sea_candidates_112 (fun x1 x2 x3 x4 x5 => Sea_candidates_48 n x1 x2 x3 x4 x5 pr te se K) (cs NL (en E g)) x2 x3 (bt2 ((List.range c).filter (fun c => fitB E rp (Cs.getD c ([], [])) g)) : Int) (c : Int) ((psL A).length : Int) s0 pr te se K := fun s0 hs h1 h0 => by
          refine ⟨fun w => by omega, fun _ => ⟨fun w => by omega, fun _ => ⟨⟨by omega, by omega⟩, fun w => no (fun hf => w (k5.mpr hf.1)), fun w => ⟨fun w2 => no (h0 w2), fun w2 => ⟨⟨by omega, by omega⟩, ?_, by omega, ?_, ?_⟩⟩⟩⟩⟩
          · have : ((1 : Int) * 2 ^ (c : Int).toNat) = ((2 ^ c : Nat) : Int) := by rw [Int.toNat_natCast, Int.one_mul]; push_cast; rfl
            rw [this]; exact ⟨by omega, by omega⟩
          · have : ((1 : Int) * 2 ^ (c : Int).toNat) = ((2 ^ c : Nat) : Int) := by rw [Int.toNat_natCast, Int.one_mul]; push_cast; rfl
            rw [this]; omega
          · exact yes (h1 (hs.resolve_left w2) (k5.mp w))
        have cont : ∀ r5 : Int, r5 = ((psL A).length : Int) → ((x2 = 0 → R32 (r5 + 1) ∧ wp_Cod_symbolAt_p (r5 + 1) pr (fun r_6 => Sea_candidates_90 (fun x1 x2 x3 x4 x5 => Sea_candidates_48 n x1 x2 x3 x4 x5 pr te se K) (cs NL (en E g)) x2 x3 (bt2 ((List.range c).filter (fun c => fitB E rp (Cs.getD c ([], [])) g)) : Int) (c : Int) r5 r_6 pr te se K)) ∧ (¬ x2 = 0 → Sea_candidates_90 (fun x1 x2 x3 x4 x5 => Sea_candidates_48 n x1 x2 x3 x4 x5 pr te se K) (cs NL (en E g)) x2 x3 (bt2 ((List.range c).filter (fun c => fitB E rp (Cs.getD c ([], [])) g)) : Int) (c : Int) r5 (-1) pr te se K)) := fun r5 e5 => by
          subst e5
          rcases hx with ⟨rfl, hn0, rfl⟩ | ⟨rfl, hn0, rfl⟩
          · refine ⟨fun w => absurd w (by decide), fun _ => ⟨fun _ => f112 1 (Or.inr rfl) (fun _ he => ⟨he, Or.inl hn0⟩) (fun w => absurd w (by decide)), fun w => absurd (by decide) w⟩⟩
          · have hch := ch_lt hW hg hn0
            have hrx := hr _ hch
            have orx := hO _ hrx.1
            refine ⟨fun _ => ⟨⟨by omega, by omega⟩, ?_⟩, fun w => absurd rfl w⟩
            -- the head's first argument
            have key : ∀ r6 : Int, (en E g = (pL (Cs.getD c ([], []))).getD 0 (0, 0) → r6 = sC NL (vN (pL (Cs.getD c ([], [])))) ((pL (Cs.getD c ([], []))).getD 1 (0, 0)) ∧ 1 < (pL (Cs.getD c ([], []))).length) → Sea_candidates_90 (fun x1 x2 x3 x4 x5 => Sea_candidates_48 n x1 x2 x3 x4 x5 pr te se K) (cs NL (en E g)) 0 (cs NL (en E (rp (ch E g 0)))) (bt2 ((List.range c).filter (fun c => fitB E rp (Cs.getD c ([], [])) g)) : Int) (c : Int) ((psL A).length : Int) r6 pr te se K := fun r6 h6 => by
              have hcm : Cs.getD c ([], []) ∈ Cs := by rw [hA]; exact List.mem_append_right _ (by rw [← hA]; exact List.mem_cons_self)
              obtain ⟨c1, c2, c3⟩ := p4 _ hcm
              have neg : ∀ {x : Nat}, x < E.length → (cs NL (en E x) < 0 ↔ (en E x).1 = -1) := fun {x} hx => by
                constructor
                · intro w
                  by_cases q : (en E x).1 = -1
                  · exact q
                  · have := cs_nn (NL := NL) (hO x hx).1 q
                    have e : cs NL (en E x) = sC NL [] (en E x) := if_neg q
                    omega
                · intro w
                  have e : cs NL (en E x) = -1 := if_pos w
                  omega
              by_cases he : en E g = (pL (Cs.getD c ([], []))).getD 0 (0, 0)
              · obtain ⟨e6, l1⟩ := h6 he
                have o1 := PSh_ok c1 _ (gD_mem l1)
                have n6 : r6 < 0 ↔ ((pL (Cs.getD c ([], []))).getD 1 (0, 0)).1 = -1 := by
                  rw [e6]
                  constructor
                  · intro w
                    by_cases q : ((pL (Cs.getD c ([], []))).getD 1 (0, 0)).1 = -1
                    · exact q
                    · have := cs_nn (NL := NL) o1 q
                      rw [sC_nv q] at w
                      omega
                  · intro w
                    unfold sC
                    rw [if_pos w]
                    split <;> omega
                refine ⟨fun w => f112 1 (Or.inr rfl) (fun _ _ => ⟨he, Or.inr (Or.inr (Or.inl ((neg hrx.1).mp w)))⟩) (fun w => absurd w (by decide)), fun w => ⟨fun w2 => f112 1 (Or.inr rfl) (fun _ _ => ⟨he, Or.inr (Or.inl (n6.mp w2))⟩) (fun w => absurd w (by decide)), fun w2 => ⟨fun w3 => f112 0 (Or.inl rfl) (fun w => absurd w (by decide)) (fun _ hf => ?_), fun w3 => f112 1 (Or.inr rfl) (fun _ _ => ⟨he, Or.inr (Or.inr (Or.inr ?_))⟩) (fun w => absurd w (by decide))⟩⟩⟩
                · rcases hf.2 with q | q | q | q
                  · omega
                  · exact w2 (n6.mpr q)
                  · exact w ((neg hrx.1).mpr q)
                  · apply w3
                    have nv : ((pL (Cs.getD c ([], []))).getD 1 (0, 0)).1 ≠ -1 := fun z => w2 (n6.mpr z)
                    rw [e6, sC_nv nv, q]
                    exact if_neg nv
                · have nv : ((pL (Cs.getD c ([], []))).getD 1 (0, 0)).1 ≠ -1 := fun z => w2 (n6.mpr z)
                  have nv2 : (en E (rp (ch E g 0))).1 ≠ -1 := fun z => w ((neg hrx.1).mpr z)
                  refine cs_inj orx.1 o1 orx.2.1 ((ov_40 c2).2.2.2 _ (gD_mem l1)) orx.2.2 (c3 _ (gD_mem l1)) nv2 nv ?_
                  rw [w3, e6, sC_nv nv]
                  exact (if_neg nv).symm
              · have nof : ¬ FitP E rp (Cs.getD c ([], [])) g := fun hf => he hf.1
                have g107 := f112 1 (Or.inr rfl) (fun _ h => absurd h he) (fun w => absurd w (by decide))
                exact ⟨fun _ => g107, fun _ => ⟨fun _ => g107, fun _ => ⟨fun _ => f112 0 (Or.inl rfl) (fun w => absurd w (by decide)) (fun _ => nof), fun _ => g107⟩⟩⟩
            have bnd : ∀ (he : en E g = (pL (Cs.getD c ([], []))).getD 0 (0, 0)), 1 < (pL (Cs.getD c ([], []))).length := fun he => by
              have hcm : Cs.getD c ([], []) ∈ Cs := by rw [hA]; exact List.mem_append_right _ (by rw [← hA]; exact List.mem_cons_self)
              obtain ⟨c1, c2, c3⟩ := p4 _ hcm
              have hWP : WE (pL (Cs.getD c ([], []))) := by
                obtain ⟨b, hb⟩ := PSh_tms c1
                exact WE_tms hb
              have e2 : nA (pL (Cs.getD c ([], []))) 0 = nA E g := by unfold nA; rw [he]; rfl
              have := ch_lt hWP k1 (show 0 < nA (pL (Cs.getD c ([], []))) 0 by omega)
              rw [ch_0] at this
              omega
            refine ⟨fun w => by omega, fun _ => ⟨fun w => key 0 (fun he => ?_), fun w => ⟨⟨by omega, by omega⟩, key _ (fun he => ?_)⟩⟩⟩
            · have := bnd he; omega
            · have hb1 := bnd he
              have := k6 1 hb1
              rw [show ((psL A).length : Int) + ((1 : Nat) : Int) = ((psL A).length : Int) + 1 by omega] at this
              exact ⟨this, hb1⟩
        have hPA : PtAll NL A pr := fun A' q C' h' => p3 A' q (C' ++ Cs.getD c ([], []) :: C) (hA.trans (by rw [h', List.append_assoc]; rfl))
        refine ⟨fun w => cont 0 ?_, fun w => ⟨fun _ => ⟨⟨by omega, by omega⟩, ⟨by omega, by omega⟩, cont _ ?_⟩, fun w2 => by omega⟩⟩
        · have : A = [] := by
            cases A with
            | nil => rfl
            | cons a A => rw [List.length_cons] at hAl; omega
          subst this; rfl
        · rw [← hAl]
          exact start_of hPA (by omega)
  refine sp_argumentsOf ?_
  rw [cs_ar og.1 og.2.1]
  have ena : (((en E g).1.toNat : Nat) : Int) = (nA E g : Int) := rfl
  rw [ena]
  refine ⟨fun z => ?_, fun z => ?_⟩
  · have hpos : 0 < nA E g := by omega
    have hch := ch_lt hW hg hpos
    refine ⟨fun _ => ⟨⟨by omega, by omega⟩, ?_⟩, fun w => absurd rfl w⟩
    have e0 := ch_0 E g
    rw [hs5, show (g : Int) + 1 = ((ch E g 0 : Nat) : Int) by omega]
    refine sp_stand hT.2.1 (TeS_N hT hg) ⟨hT.1.1, hT.1.2.1⟩ hch ?_
    have hrx := hr _ hch
    refine ⟨fun w => by omega, fun _ => ⟨fun w => by have := hT.1.1; omega, fun _ => ⟨⟨by omega, by omega⟩, ?_⟩⟩⟩
    rw [(hT.1.2.2 _ hrx.1).1]
    exact ⟨Cs.length + 1, loop 0 _ (Or.inr ⟨rfl, hpos, rfl⟩) (Cs.length + 1) 0 (Nat.zero_le _) (by omega)⟩
  · have h0 : nA E g = 0 := by omega
    exact ⟨fun w => absurd w (by decide), fun _ => ⟨Cs.length + 1, loop 1 (-1) (Or.inl ⟨rfl, h0, rfl⟩) (Cs.length + 1) 0 (Nat.zero_le _) (by omega)⟩⟩
