/-! the pure part: the class's program takes what was read -/
def inNL (NL : List Nat) (p : Part) : Prop := ∀ x ∈ pL p, 0 ≤ x.1 → x.2 ≠ 1 → x.2 ≠ 2 → x.2 ∈ NL
def ClOk (NL : List Nat) (p : Part) : Prop := PSh p ∧ ¬ ovP p ∧ inNL NL p
/-- the class's program -/
def PrOk (NL : List Nat) (Cs : List Part) (pr : Ob) : Prop := pr.1 0 = ((psL Cs).length : Int) ∧ pr.1 1 = (Cs.length : Int) ∧ Cs.length ≤ 24 ∧ PtAll NL Cs pr ∧ ∀ p ∈ Cs, ClOk NL p
theorem ov_40 {p : Part} (h : ¬ ovP p) : (pL p).length ≤ 40 ∧ (vM (pL p)).length ≤ 8 ∧ p.2.length ≤ 8 ∧ ∀ x ∈ pL p, x.1 ≤ 4 := by
  refine ⟨?_, ?_, ?_, fun x hx => ?_⟩
  · by_cases q : 40 < (pL p).length
    · exact absurd (Or.inl q) h
    · omega
  · by_cases q : 8 < (vM (pL p)).length
    · exact absurd (Or.inr (Or.inl q)) h
    · omega
  · by_cases q : 8 < p.2.length
    · exact absurd (Or.inr (Or.inr (Or.inl q))) h
    · omega
  · by_cases q : 4 < x.1
    · exact absurd (Or.inr (Or.inr (Or.inr ⟨x, hx, q⟩))) h
    · omega
theorem psL_40 : ∀ {Ps : List Part}, (∀ p ∈ Ps, ¬ ovP p) → (psL Ps).length ≤ 40 * Ps.length
  | [], _ => Nat.le_refl _
  | p :: Ps, h => by
    have h1 := (ov_40 (h p List.mem_cons_self)).1
    have h2 := psL_40 (Ps := Ps) (fun q hq => h q (List.mem_cons_of_mem _ hq))
    rw [psL_cons, List.length_append, List.length_cons]
    omega
theorem PtAll_snoc {NL : List Nat} {Ps : List Part} {p : Part} {rc : Ob} (h : PtAll NL Ps rc) (hp : Pt NL (rc.2.1 0) (rc.2.1 1) (rc.2.1 2) Ps.length ((psL Ps).length : Int) p) : PtAll NL (Ps ++ [p]) rc := by
  intro A q C hA
  rcases List.eq_nil_or_concat C with hC | ⟨C', c, hC⟩
  · subst hC
    have := List.append_inj' hA rfl
    have e2 : p = q := by have := this.2; injection this
    rw [← this.1, ← e2]
    exact hp
  · subst hC
    rw [List.concat_eq_append, ← List.cons_append, ← List.append_assoc] at hA
    have := List.append_inj' hA rfl
    exact h A q C' this.1
theorem PtAll_mono {NL : List Nat} {Ps : List Part} {rc rc' : Ob} (t : List Nat) (h : PtAll NL Ps rc) (hc : ∀ p ∈ Ps, ClOk NL p) (e2 : ∀ i : Nat, i < Ps.length → rc'.2.1 2 (i : Int) = rc.2.1 2 (i : Int)) (e0 : ∀ j, 0 ≤ j → j < ((psL Ps).length : Int) → rc'.2.1 0 j = rc.2.1 0 j ∧ rc'.2.1 1 j = rc.2.1 1 j) : PtAll (NL ++ t) Ps rc' := by
  intro A p C hA
  have hp : p ∈ Ps := by rw [hA]; exact List.mem_append_right _ List.mem_cons_self
  obtain ⟨c1, c2, c3⟩ := hc p hp
  have hl : (psL Ps).length = (psL A).length + ((pL p).length + (psL C).length) := by rw [hA, psL_app, psL_cons, List.length_append, List.length_append]
  have hl2 : A.length < Ps.length := by rw [hA, List.length_append, List.length_cons]; omega
  exact Pt_mono t (h A p C hA) (PSh_ok c1) (PSh_ne c1) c3 (e2 _ hl2) (fun j j1 j2 => (e0 j (by omega) (by omega)).1) (fun j j1 j2 => (e0 j (by omega) (by omega)).2)
/-- where the next part begins -/
theorem start_of {NL : List Nat} {Ps : List Part} {rc : Ob} (h : PtAll NL Ps rc) : Ps.length ≠ 0 → rc.2.1 2 ((Ps.length : Int) - 1) = ((psL Ps).length : Int) := by
  intro h0
  rcases List.eq_nil_or_concat Ps with hC | ⟨C', c, hC⟩
  · subst hC; exact absurd rfl h0
  · have hC2 : Ps = C' ++ c :: [] := by rw [hC, List.concat_eq_append]
    have := (h C' c [] hC2).1
    have e1 : (Ps.length : Int) - 1 = (C'.length : Int) := by rw [hC2, List.length_append, List.length_singleton]; omega
    rw [e1, this, hC2, psL_snoc, List.length_append]
    omega
theorem sp_endPart_p {NL : List Nat} {Cs : List Part} {p : Part} {pr : Ob} {K : Ob → Prop} (hP : PtAll NL Cs pr) (hC : ∀ q ∈ Cs, ClOk NL q) (hp : ClOk NL p) (h0 : pr.1 0 = ((psL Cs).length : Int) + ((pL p).length : Int)) (h1 : pr.1 1 = (Cs.length : Int)) (h24 : Cs.length < 24) (hs : ∀ j : Nat, j < (pL p).length → pr.2.1 0 (((psL Cs).length : Int) + (j : Int)) = sC NL (vN (pL p)) ((pL p).getD j (0, 0))) (hK : ∀ pr', PrOk NL (Cs ++ [p]) pr' → K pr') : wp_Cod_endPart_p pr K := by
  have b40 := psL_40 (fun q hq => (hC q hq).2.1)
  have bp := ov_40 hp.2.1
  refine ⟨fun z => by omega, fun _ => ⟨⟨by omega, by omega⟩, ?_⟩⟩
  have go : wp_Cod_measure_p ((psL Cs).length : Int) (sA pr 2 (pr.1 1) (pr.1 0)) (fun pr_2 => Cod_endPart_p_37 pr_2 K) := by
    refine sp_measure_p (rc0 := sA pr 2 (pr.1 1) (pr.1 0)) ⟨by omega, by show ((psL Cs).length : Int) ≤ pr.1 0; omega⟩ (by show pr.1 0 ≤ 960; omega) (fun pr' e1 e2 e3 e4 e5 => ?_)
    have e11 : pr'.1 1 = (Cs.length : Int) := by rw [e1]; exact h1
    refine ⟨⟨by omega, by omega⟩, hK _ ⟨?_, ?_, ?_, ?_, ?_⟩⟩
    · show pr'.1 0 = _
      rw [e1, psL_snoc, List.length_append]
      show pr.1 0 = _
      omega
    · show pr'.1 1 + 1 = _
      rw [List.length_append, List.length_singleton]; omega
    · rw [List.length_append, List.length_singleton]; omega
    · refine PtAll_snoc ?_ ?_
      · have := PtAll_mono (rc' := sI pr' 1 (pr'.1 1 + 1)) [] hP hC (fun i hi => ?_) (fun j j0 j1 => ⟨?_, ?_⟩)
        · rw [List.append_nil] at this; exact this
        · show pr'.2.1 2 _ = _
          rw [e3]
          show (if (i : Int) = pr.1 1 then _ else _) = _
          rw [if_neg (by omega)]
        · show pr'.2.1 0 j = _
          rw [e2]; rfl
        · show pr'.2.1 1 j = _
          exact e4 j j1
      · have hsy : ∀ j : Nat, j < (pL p).length → pr'.2.1 0 (((psL Cs).length : Int) + (j : Int)) = sC NL (vN (pL p)) ((pL p).getD j (0, 0)) := fun j hj => by
          rw [e2]; exact hs j hj
        have eu : (sA pr 2 (pr.1 1) (pr.1 0)).1 0 = ((psL Cs).length : Int) + ((pL p).length : Int) := h0
        rw [eu] at e5
        refine ⟨?_, hsy, PZ_of hp.1 ⟨rfl, fun i hi => ?_⟩ e5⟩
        · show pr'.2.1 2 _ = _
          rw [e3]
          show (if (Cs.length : Int) = pr.1 1 then _ else _) = _
          rw [if_pos h1.symm]
          exact h0
        · show arS (pr'.2.1 0 _) = _
          rw [hsy i hi]
          exact arS_sC (PSh_ok hp.1 _ (gD_mem hi)) (bp.2.2.2 _ (gD_mem hi))
    · intro q hq
      rcases List.mem_append.mp hq with w | w
      · exact hC q w
      · rw [List.mem_singleton.mp w]; exact hp
  refine ⟨fun z => ?_, fun z => ⟨fun _ => ⟨⟨by show _ ≤ pr.1 1 - 1; omega, by show pr.1 1 - 1 ≤ _; omega⟩, ⟨by omega, by omega⟩, ?_⟩, fun z2 => by omega⟩⟩
  · have : Cs = [] := by
      cases Cs with
      | nil => rfl
      | cons c C => rw [List.length_cons] at h1; omega
    subst this
    exact go
  · have e : (sA pr 2 (pr.1 1) (pr.1 0)).2.1 2 (pr.1 1 - 1) = ((psL Cs).length : Int) := by
      show (if pr.1 1 - 1 = pr.1 1 then _ else _) = _
      rw [if_neg (by omega), h1]
      exact start_of hP (by omega)
    rw [e]
    exact go
theorem sp_addParts {NL : List Nat} {Cs Qs : List Part} {pr rc : Ob} {K : Ob → Prop} (hpr : PrOk NL Cs pr) (hrc : PtAll NL Qs rc) (r0 : rc.1 0 = ((psL Qs).length : Int)) (r1 : rc.1 1 = (Qs.length : Int)) (h24 : Cs.length + Qs.length ≤ 24) (hl : (psL Qs).length ≤ 240) (hQ : ∀ p ∈ Qs, ClOk NL p) (hK : ∀ pr', PrOk NL (Cs ++ Qs) pr' → K pr') : wp_Cod_addParts_r pr rc K := by
  have loop : ∀ (n : Nat) (C A : List Part) (pr : Ob), Qs = A ++ C → C.length < n → PrOk NL (Cs ++ A) pr → Cod_addParts_r_2 n (A.length : Int) pr rc K := by
    intro n
    induction n with
    | zero => intro C A pr _ h; omega
    | succ n ih =>
      intro C A pr hA hn hP
      have hlen : Qs.length = A.length + C.length := by rw [hA, List.length_append]
      show wp_Cod_partCount_r rc _
      refine ⟨fun z => ?_, fun z => ?_⟩
      · have : C = [] := by
          cases C with
          | nil => rfl
          | cons c C => rw [List.length_cons] at hlen; omega
        subst this
        rw [List.append_nil] at hA
        rw [← hA] at hP
        exact hK pr hP
      · cases C with
        | nil => rw [List.length_nil] at hlen; omega
        | cons p C =>
          rw [List.length_cons] at hlen hn
          have hp := hrc A p C hA
          have hpc := hQ p (by rw [hA]; exact List.mem_append_right _ List.mem_cons_self)
          have hps : (psL Qs).length = (psL A).length + ((pL p).length + (psL C).length) := by rw [hA, psL_app, psL_cons, List.length_append, List.length_append]
          obtain ⟨g0, g1, g2, g3, g4⟩ := hP
          have hlA : (Cs ++ A).length = Cs.length + A.length := List.length_append
          have b40 := psL_40 (fun q hq => (g4 q hq).2.1)
          have bp := ov_40 hpc.2.1
          have copy : ∀ (k : Nat) (j : Nat) (pr' : Ob), j ≤ (pL p).length → (pL p).length < k + j → pr'.1 1 = ((Cs ++ A).length : Int) → pr'.1 0 = ((psL (Cs ++ A)).length : Int) + (j : Int) → PtAll NL (Cs ++ A) pr' → (∀ i : Nat, i < j → pr'.2.1 0 (((psL (Cs ++ A)).length : Int) + (i : Int)) = sC NL (vN (pL p)) ((pL p).getD i (0, 0))) → Cod_addParts_r_16 (fun x2 pr' => Cod_addParts_r_2 n x2 pr' rc K) k (A.length : Int) (((psL A).length : Int) + (j : Int)) pr' rc K := by
            intro k
            induction k with
            | zero => intro j pr' j1 j2; omega
            | succ k ihk =>
              intro j pr' j1 j2 e1 e0 hP' hsy
              refine ⟨fun z => by omega, fun _ => ⟨fun _ => ⟨⟨by omega, by omega⟩, ?_⟩, fun z => by omega⟩⟩
              rw [hp.1]
              refine ⟨fun z => ?_, fun z => ?_⟩
              · have : j = (pL p).length := by omega
                subst this
                refine sp_endPart_p hP' g4 hpc e0 e1 (by omega) hsy (fun pr2 h2 => ⟨⟨by omega, by omega⟩, ?_⟩)
                have := ih C (A ++ [p]) pr2 (by rw [hA, List.append_assoc]; rfl) (by omega) (by rw [← List.append_assoc]; exact h2)
                rw [List.length_append, List.length_singleton] at this
                exact this
              · have hj : j < (pL p).length := by omega
                refine ⟨fun z => by omega, fun _ => ⟨fun z => by omega, fun _ => ⟨⟨by omega, by omega⟩, ?_⟩⟩⟩
                rw [hp.2.1 j hj]
                refine ⟨fun z => by omega, fun _ => ⟨⟨by omega, by omega⟩, ⟨by omega, by omega⟩, ⟨?_, ?_⟩, ⟨by omega, by omega⟩, ?_⟩⟩
                · show _ ≤ pr'.1 0 + 1 - 1; omega
                · show pr'.1 0 + 1 - 1 ≤ _; omega
                · rw [show ((psL A).length : Int) + (j : Int) + 1 = ((psL A).length : Int) + ((j + 1 : Nat) : Int) by omega]
                  refine ihk (j + 1) _ (by omega) (by omega) e1 ?_ ?_ (fun i hi => ?_)
                  · show pr'.1 0 + 1 = _; omega
                  · have := PtAll_mono (rc' := sI (sA pr' 0 (pr'.1 0) (sC NL (vN (pL p)) ((pL p).getD j (0, 0)))) 0 (pr'.1 0 + 1)) [] hP' g4 (fun _ _ => rfl) (fun x x0 x1 => ⟨if_neg (by omega), rfl⟩)
                    rw [List.append_nil] at this
                    exact this
                  · show (if _ = pr'.1 0 then _ else _) = _
                    by_cases q : i = j
                    · subst q
                      rw [if_pos e0.symm]
                    · rw [if_neg (by omega)]
                      exact hsy i (by omega)
          have fin : ∃ n16, Cod_addParts_r_16 (fun x2 pr' => Cod_addParts_r_2 n x2 pr' rc K) n16 (A.length : Int) ((psL A).length : Int) pr rc K := by
            refine ⟨(pL p).length + 1, ?_⟩
            have := copy ((pL p).length + 1) 0 pr (Nat.zero_le _) (by omega) g1 (by rw [g0]; simp) g3 (fun i hi => absurd hi (Nat.not_lt_zero _))
            rw [show ((psL A).length : Int) + ((0 : Nat) : Int) = ((psL A).length : Int) by omega] at this
            exact this
          refine ⟨fun z2 => ?_, fun z2 => ⟨fun _ => ⟨⟨by omega, by omega⟩, ⟨by omega, by omega⟩, ?_⟩, fun z3 => by omega⟩⟩
          · have : A = [] := by
              cases A with
              | nil => rfl
              | cons a A => rw [List.length_cons] at z2; omega
            subst this
            exact fin
          · have hPA : PtAll NL A rc := fun A' q C' h' => hrc A' q (C' ++ p :: C) (by rw [hA, h', List.append_assoc]; rfl)
            rw [start_of hPA (by omega)]
            exact fin
  exact ⟨Qs.length + 1, loop (Qs.length + 1) Qs [] pr rfl (by omega) (by rw [List.append_nil]; exact hpr)⟩
