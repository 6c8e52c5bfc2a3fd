/-! the pure part: the reference keeps what it has read -/
theorem DP_at {Ps A C : List Part} {p : Part} {m : Ob} (h : RDn Ps m) (hA : Ps = A ++ p :: C) : (psL Ps).length = (psL A).length + (pL p).length + (psL C).length ∧ A.length < Ps.length ∧ Ps.length = A.length + 1 + C.length ∧ MPt (m.2.1 1) (m.2.2.2 0) (m.2.1 2) (m.2.1 3) (m.2.1 4) (m.2.1 5) A.length ((psL A).length : Int) (gN A : Int) p := by
  refine ⟨?_, ?_, ?_, h.2.2.1 A p C hA⟩
  · rw [hA, psL_app, psL_cons, List.length_append, List.length_append]; omega
  · rw [hA, List.length_append, List.length_cons]; omega
  · rw [hA, List.length_append, List.length_cons]; omega
theorem sp_endOf {Ps A C : List Part} {p : Part} {m : Ob} {K : Int → Prop} (h : RDn Ps m) (hA : Ps = A ++ p :: C) (hK : K (((psL A).length : Int) + ((pL p).length : Int))) : wp_M_endOf (A.length : Int) m K := by
  obtain ⟨q1, q2, q3, q4⟩ := DP_at h hA
  obtain ⟨h4, h5, hD, b1, b2, b3⟩ := h
  refine ⟨⟨by omega, by omega⟩, fun z => ?_, fun z => ⟨⟨by omega, by omega⟩, ⟨by omega, by omega⟩, ?_⟩⟩
  · have hC : C = [] := by
      cases C with
      | nil => rfl
      | cons c C => rw [List.length_cons] at q3; omega
    subst hC
    rw [h4, q1]
    have e : (psL ([] : List Part)).length = 0 := rfl
    rw [e, show (((psL A).length + (pL p).length + 0 : Nat) : Int) = ((psL A).length : Int) + ((pL p).length : Int) by omega]
    exact hK
  · cases C with
    | nil => rw [List.length_nil] at q3; omega
    | cons c C =>
      have := (hD (A ++ [p]) c C (by rw [hA, List.append_assoc]; rfl)).1
      rw [List.length_append, List.length_singleton, psL_snoc, List.length_append] at this
      rw [show (A.length : Int) + 1 = ((A.length + 1 : Nat) : Int) by omega, this, show (((psL A).length + (pL p).length : Nat) : Int) = ((psL A).length : Int) + ((pL p).length : Int) by omega]
      exact hK
theorem sp_tooMuch {Ps A C : List Part} {p : Part} {m : Ob} {K : Int → Prop} (h : RDn Ps m) (hA : Ps = A ++ p :: C) (h1 : ovP p → K 1) (h0 : ¬ ovP p → K 0) : wp_M_tooMuch (A.length : Int) m K := by
  obtain ⟨q1, q2, q3, q4⟩ := DP_at h hA
  have hb1 := h.2.2.2.1
  have hb2 := h.2.2.2.2.1
  obtain ⟨p2, p3, p4, p5, p6⟩ := q4
  have loop : ∀ (n : Nat) (x2 : Int) (j : Nat), j ≤ (pL p).length → (pL p).length < n + j → (x2 = 0 ∨ x2 = 1) → ((x2 = 1 ∨ ∃ i, j ≤ i ∧ i < (pL p).length ∧ 4 < ((pL p).getD i (0, 0)).1) → K 1) → (x2 = 0 → (∀ i, j ≤ i → i < (pL p).length → ¬ 4 < ((pL p).getD i (0, 0)).1) → K 0) → M_tooMuch_52 n (A.length : Int) x2 (((psL A).length : Int) + (j : Int)) m K := by
    intro n
    induction n with
    | zero => intro x2 j j1 j2; omega
    | succ n ih =>
      intro x2 j j1 j2 hx k1 k0
      refine sp_endOf h hA ⟨fun z => ⟨hx, ?_⟩, fun z => ?_⟩
      · rcases hx with e | e
        · subst e
          exact k0 rfl (fun i i1 i2 => by omega)
        · subst e
          exact k1 (Or.inl rfl)
      · have hj : j < (pL p).length := by omega
        have nx : ∀ y : Int, (y = 0 ∨ y = 1) → (y = 1 → x2 = 1 ∨ 4 < ((pL p).getD j (0, 0)).1) → (y = 0 → x2 = 0 ∧ ¬ 4 < ((pL p).getD j (0, 0)).1) → M_tooMuch_80 (fun x1 x2 x3 => M_tooMuch_52 n x1 x2 x3 m K) (A.length : Int) (((psL A).length : Int) + (j : Int)) y m K := fun y hy y1 y0 => by
          refine ⟨⟨by omega, by omega⟩, ?_⟩
          rw [show ((psL A).length : Int) + (j : Int) + 1 = ((psL A).length : Int) + ((j + 1 : Nat) : Int) by omega]
          refine ih y (j + 1) (by omega) (by omega) hy (fun z => k1 ?_) (fun z1 z2 => k0 (y0 z1).1 (fun i i1 i2 => ?_))
          · rcases z with z | ⟨i, i1, i2, i3⟩
            · rcases y1 z with w | w
              · exact Or.inl w
              · exact Or.inr ⟨j, Nat.le_refl _, hj, w⟩
            · exact Or.inr ⟨i, by omega, i2, i3⟩
          · by_cases e : i = j
            · subst e; exact (y0 z1).2
            · exact z2 i (by omega) i2
        refine ⟨fun w => nx 1 (Or.inr rfl) (fun _ => Or.inl (hx.resolve_left w)) (fun z => absurd z (by decide)), fun w => ⟨⟨by omega, by omega⟩, fun v => nx 0 (Or.inl rfl) (fun z => absurd z (by decide)) (fun _ => ⟨w, ?_⟩), fun v => nx 1 (Or.inr rfl) (fun _ => Or.inr ?_) (fun z => absurd z (by decide))⟩⟩
        · rw [(p5 j hj).1] at v; omega
        · rw [(p5 j hj).1] at v; omega
  have fin : ∀ x2 : Int, (x2 = 0 ∨ x2 = 1) → (x2 = 1 → ovP p) → (x2 = 0 → ¬ 40 < (pL p).length ∧ ¬ 8 < (vM (pL p)).length ∧ ¬ 8 < p.2.length) → M_tooMuch_44 (A.length : Int) x2 m K := fun x2 hx y1 y0 => by
    refine ⟨⟨by omega, by omega⟩, (pL p).length + 1, ?_⟩
    rw [p2]
    have := loop ((pL p).length + 1) x2 0 (Nat.zero_le _) (by omega) hx (fun z => h1 ?_) (fun z1 z2 => h0 (fun z => ?_))
    · rw [show ((psL A).length : Int) + ((0 : Nat) : Int) = ((psL A).length : Int) by omega] at this
      exact this
    · rcases z with z | ⟨i, i1, i2, i3⟩
      · exact y1 z
      · exact Or.inr (Or.inr (Or.inr ⟨_, gD_mem i2, i3⟩))
    · have y := y0 z1
      rcases z with z | z | z | ⟨x, hx, z⟩
      · exact y.1 z
      · exact y.2.1 z
      · exact y.2.2 z
      · obtain ⟨i, hi, e⟩ := List.mem_iff_getElem.mp hx
        refine z2 i (Nat.zero_le _) hi ?_
        rw [List.getD_eq_getElem?_getD, List.getElem?_eq_getElem hi, e]
        exact z
  refine sp_endOf h hA ⟨⟨by omega, by omega⟩, ⟨by rw [p2]; omega, by rw [p2]; omega⟩, fun z => fin 1 (Or.inr rfl) (fun _ => Or.inl (by rw [p2] at z; omega)) (fun z => absurd z (by decide)), fun z => ⟨⟨by omega, by omega⟩, fun z2 => fin 1 (Or.inr rfl) (fun _ => Or.inr (Or.inl (by rw [p4] at z2; omega))) (fun z => absurd z (by decide)), fun z2 => ⟨⟨by omega, by omega⟩, fun z3 => fin 0 (Or.inl rfl) (fun z => absurd z (by decide)) (fun _ => ⟨by rw [p2] at z; omega, by rw [p4] at z2; omega, by rw [p3] at z3; omega⟩), fun z3 => fin 1 (Or.inr rfl) (fun _ => Or.inr (Or.inr (Or.inl (by rw [p3] at z3; omega)))) (fun z => absurd z (by decide))⟩⟩⟩
/-- all symbols of the text, one by one -/
theorem DP_flat {Ps : List Part} {a1 : Int → Int} {l0 : Int → Nat} {a2 a3 a4 a5 : Int → Int} (h : DP Ps a1 l0 a2 a3 a4 a5) : ∀ j : Nat, j < (psL Ps).length → a1 (j : Int) = ((psL Ps).getD j (0, 0)).1 ∧ (((psL Ps).getD j (0, 0)).1 ≠ -1 → l0 (j : Int) = ((psL Ps).getD j (0, 0)).2) := by
  have key : ∀ (C A : List Part), Ps = A ++ C → ∀ j : Nat, (psL A).length ≤ j → j < (psL Ps).length → a1 (j : Int) = ((psL Ps).getD j (0, 0)).1 ∧ (((psL Ps).getD j (0, 0)).1 ≠ -1 → l0 (j : Int) = ((psL Ps).getD j (0, 0)).2) := by
    intro C
    induction C with
    | nil =>
      intro A hA j j1 j2
      rw [List.append_nil] at hA
      rw [hA] at j2
      omega
    | cons p C ih =>
      intro A hA j j1 j2
      by_cases q : j < (psL A).length + (pL p).length
      · obtain ⟨-, -, -, p5, -⟩ := h A p C hA
        have e : (psL Ps).getD j (0, 0) = (pL p).getD (j - (psL A).length) (0, 0) := by
          rw [hA, psL_app, psL_cons, show j = (psL A).length + (j - (psL A).length) by omega, gD_app_r, gD_app_l (by omega)]
          congr 1
          omega
        have := p5 (j - (psL A).length) (by omega)
        rw [show ((psL A).length : Int) + ((j - (psL A).length : Nat) : Int) = (j : Int) by omega] at this
        rw [e]
        refine ⟨this.1, fun z => ?_⟩
        rw [this.2]
        unfold cM
        rw [if_neg z]
      · exact ih (A ++ [p]) (by rw [hA, List.append_assoc]; rfl) j (by rw [psL_snoc, List.length_append]; omega) j2
  exact fun j hj => key Ps [] rfl j (Nat.zero_le _) hj
theorem nmS_len (l : List Nat) (x : Sy) : (nmS l x).length ≤ l.length + 1 := by
  unfold nmS
  split
  · rw [List.length_append, List.length_singleton]; omega
  · omega
theorem nmL_len (l : List Nat) (E : List Sy) : (nmL l E).length ≤ l.length + E.length := by
  induction E generalizing l with
  | nil => exact Nat.le_refl _
  | cons x E ih =>
    have h1 := ih (nmS l x)
    have h2 := nmS_len l x
    show (nmL (nmS l x) E).length ≤ l.length + (E.length + 1)
    omega
theorem arN_snoc {f : Int → Nat} {l : List Nat} {w : Nat} (h : arN f l) : arN (updN f (l.length : Int) w) (l ++ [w]) := by
  intro i hi
  rw [List.length_append, List.length_singleton] at hi
  unfold updN
  by_cases q : i < l.length
  · rw [if_neg (by omega), List.getD_eq_getElem?_getD, List.getElem?_append_left q, ← List.getD_eq_getElem?_getD]
    exact h i q
  · have : i = l.length := by omega
    subst this
    rw [if_pos rfl, List.getD_eq_getElem?_getD, List.getElem?_append_right (Nat.le_refl _), Nat.sub_self]
    rfl
theorem getD_ex {l : List Nat} {w : Nat} (h : w ∈ l) : ∃ j, j < l.length ∧ l.getD j 0 = w := ⟨idx l w, idx_lt h⟩
/-- names of a text, in the reference -/
theorem sp_addNames {m : Ob} {K : Int → Ob → Prop} {E : List Sy} {NL0 : List Nat} (hE : m.1 4 = (E.length : Int)) (hl : E.length ≤ 240) (h11 : m.1 11 = (NL0.length : Int)) (h32 : NL0.length ≤ 32) (hN : arN (m.2.2.2 3) NL0) (hs : ∀ x ∈ E, okS x) (hA : ∀ j : Nat, j < E.length → m.2.1 1 (j : Int) = (E.getD j (0, 0)).1 ∧ ((E.getD j (0, 0)).1 ≠ -1 → m.2.2.2 0 (j : Int) = (E.getD j (0, 0)).2)) (hK : ∀ m', m'.1 = m.1 → m'.2.1 = m.2.1 → m'.2.2.1 = m.2.2.1 → (∀ j, j ≠ 3 → m'.2.2.2 j = m.2.2.2 j) → arN (m'.2.2.2 3) (nmL NL0 E) → K ((nmL NL0 E).length : Int) m') : wp_M_addNames m K := by
  have inner : ∀ (L7 : Int → Int → Ob → Prop) (l : List Nat) (w : Nat) (x2 : Int) (m' : Ob), 0 ≤ x2 → x2 < 500 → l.length < 300 → arN (m'.2.2.2 3) l → m'.2.2.2 0 x2 = w → (w ∈ l → M_addNames_116 L7 (l.length : Int) x2 m' K) → (w ∉ l → M_addNames_116 L7 ((l.length : Int) + 1) x2 (sL m' 3 (l.length : Int) w) K) → ∀ (n j : Nat), j ≤ l.length → l.length < n + j → (∀ i, i < j → l.getD i 0 ≠ w) → M_addNames_57 L7 n (l.length : Int) x2 0 (j : Int) m' K := by
    intro L7 l w x2 m' a1 a2 a3 a4 a5 a6 a7 n
    induction n with
    | zero => intro j j1 j2; omega
    | succ n ih =>
      intro j j1 j2 hno
      refine ⟨fun z => ⟨fun z2 => absurd rfl z2, fun _ => ⟨⟨a1, a2⟩, ⟨by omega, by omega⟩, ⟨by omega, by omega⟩, ?_⟩⟩, fun z => ⟨fun z2 => absurd rfl z2, fun _ => ⟨⟨by omega, by omega⟩, ⟨a1, a2⟩, fun e => ⟨⟨by omega, by omega⟩, ?_⟩, fun e => ⟨⟨by omega, by omega⟩, ?_⟩⟩⟩⟩
      · rw [a5]
        refine a7 (fun hm => ?_)
        obtain ⟨i, i1, i2⟩ := getD_ex hm
        exact hno i (by omega) i2
      · have hj : j < l.length := by omega
        rw [a4 j hj, a5] at e
        exact ih (j + 1) (by omega) (by omega) (fun i hi => by
          by_cases q : i = j
          · subst q; exact e
          · exact hno i (by omega))
      · have hj : j < l.length := by omega
        rw [a4 j hj, a5] at e
        have hm := a6 (by rw [← e]; exact getD_mem hj)
        cases n with
        | zero => omega
        | succ n => exact ⟨fun _ => ⟨fun _ => hm, fun z => absurd z (by decide)⟩, fun _ => ⟨fun _ => ⟨fun _ => hm, fun z => absurd z (by decide)⟩, fun z => absurd z (by decide)⟩⟩
  have one : ∀ (L7 : Int → Int → Ob → Prop) (x1 x2 : Int) (m' : Ob), M_addNames_116 L7 x1 x2 m' K → M_addNames_48 L7 x1 x2 m' K := fun L7 x1 x2 m' h => ⟨1, fun _ => ⟨fun _ => h, fun z => absurd z (by decide)⟩, fun _ => ⟨fun _ => ⟨fun _ => h, fun z => absurd z (by decide)⟩, fun z => absurd z (by decide)⟩⟩
  have loop : ∀ (n j : Nat) (m' : Ob), j ≤ E.length → E.length < n + j → m'.1 = m.1 → m'.2.1 = m.2.1 → m'.2.2.1 = m.2.2.1 → (∀ i, i ≠ 3 → m'.2.2.2 i = m.2.2.2 i) → arN (m'.2.2.2 3) (nmL NL0 (E.take j)) → M_addNames_7 n ((nmL NL0 (E.take j)).length : Int) (j : Int) m' K := by
    intro n
    induction n with
    | zero => intro j m' j1 j2; omega
    | succ n ih =>
      intro j m' j1 j2 e1 e2 e3 e4 hN'
      refine ⟨fun z => ?_, fun z => ?_⟩
      · rw [e1, hE] at z
        have : j = E.length := by omega
        subst this
        rw [List.take_length] at hN' ⊢
        exact hK m' e1 e2 e3 e4 hN'
      · rw [e1, hE] at z
        have hj : j < E.length := by omega
        have hlen := nmL_len NL0 (E.take j)
        rw [List.length_take] at hlen
        have et : E.take (j + 1) = E.take j ++ [E.getD j (0, 0)] := by
          rw [List.take_add_one, List.getD_eq_getElem?_getD, List.getElem?_eq_getElem hj]; rfl
        have en : nmL NL0 (E.take (j + 1)) = nmS (nmL NL0 (E.take j)) (E.getD j (0, 0)) := by rw [et, nmL_snoc]
        have a1 : m'.2.1 1 (j : Int) = (E.getD j (0, 0)).1 := by rw [e2]; exact (hA j hj).1
        have same : nmS (nmL NL0 (E.take j)) (E.getD j (0, 0)) = nmL NL0 (E.take j) → M_addNames_116 (fun x1 x2 m' => M_addNames_7 n x1 x2 m' K) ((nmL NL0 (E.take j)).length : Int) (j : Int) m' K := fun h => by
          refine ⟨⟨by omega, by omega⟩, ?_⟩
          have := ih (j + 1) m' (by omega) (by omega) e1 e2 e3 e4 (by rw [en, h]; exact hN')
          rw [en, h] at this
          exact this
        have hok := hs _ (gD_mem hj)
        refine ⟨⟨by omega, by omega⟩, fun z1 => one _ _ _ _ (same (if_neg (fun q => by rw [a1] at z1; omega))), fun z1 => ⟨⟨by omega, by omega⟩, fun z2 => one _ _ _ _ (same ?_), fun z2 => ⟨⟨by omega, by omega⟩, fun z3 => ?_, fun z3 => one _ _ _ _ (same ?_)⟩⟩⟩
        · rw [a1] at z1
          have c0 : m'.2.2.2 0 (j : Int) = (E.getD j (0, 0)).2 := by rw [e4 0 (by decide)]; exact (hA j hj).2 (by omega)
          rw [c0] at z2
          exact if_neg (fun q => q.2.1 z2)
        · rw [a1] at z1
          have c0 : m'.2.2.2 0 (j : Int) = (E.getD j (0, 0)).2 := by rw [e4 0 (by decide)]; exact (hA j hj).2 (by omega)
          rw [c0] at z2 z3
          refine ⟨(nmL NL0 (E.take j)).length + 1, ?_⟩
          refine inner _ (nmL NL0 (E.take j)) (E.getD j (0, 0)).2 (j : Int) m' (by omega) (by omega) (by omega) hN' c0 (fun hm => same (if_neg (fun q => q.2.2.2 hm))) (fun hm => ?_) _ 0 (Nat.zero_le _) (by omega) (fun i hi => absurd hi (Nat.not_lt_zero _))
          refine ⟨⟨by omega, by omega⟩, ?_⟩
          have ea : nmS (nmL NL0 (E.take j)) (E.getD j (0, 0)) = nmL NL0 (E.take j) ++ [(E.getD j (0, 0)).2] := if_pos ⟨by omega, z2, z3, hm⟩
          have := ih (j + 1) (sL m' 3 ((nmL NL0 (E.take j)).length : Int) (E.getD j (0, 0)).2) (by omega) (by omega) e1 e2 e3 (fun i hi => (if_neg hi).trans (e4 i hi)) (by rw [en, ea]; exact arN_snoc hN')
          rw [en, ea, List.length_append, List.length_singleton] at this
          exact this
        · rw [a1] at z1
          have c0 : m'.2.2.2 0 (j : Int) = (E.getD j (0, 0)).2 := by rw [e4 0 (by decide)]; exact (hA j hj).2 (by omega)
          rw [c0] at z3
          exact if_neg (fun q => q.2.2.1 z3)
  refine ⟨E.length + 1, ?_⟩
  rw [h11]
  exact loop (E.length + 1) 0 m (Nat.zero_le _) (by omega) rfl rfl rfl (fun _ _ => rfl) hN
/-- a clause that the reference holds -/
def MCl (m : Ob) (c : Int) (p : Part) : Prop := m.2.1 11 c = ((pL p).length : Int) ∧ (∀ j : Nat, j < (pL p).length → m.2.1 10 (40 * c + (j : Int)) = ((pL p).getD j (0, 0)).1 ∧ m.2.2.2 2 (40 * c + (j : Int)) = cM (pL p) j) ∧ m.2.1 12 c = (p.2.length : Int) ∧ RGo (m.2.1 13) (8 * c) (40 * c + (p.1.length : Int)) p.2
def kfr (c : Int) (m m' : Ob) : Prop := m'.1 = m.1 ∧ (∀ j, j ≠ 10 → j ≠ 11 → j ≠ 12 → j ≠ 13 → m'.2.1 j = m.2.1 j) ∧ m'.2.2.1 = m.2.2.1 ∧ (∀ j, j ≠ 2 → m'.2.2.2 j = m.2.2.2 j) ∧ (∀ i, i ≠ c → m'.2.1 11 i = m.2.1 11 i ∧ m'.2.1 12 i = m.2.1 12 i) ∧ (∀ x, x < 40 * c ∨ 40 * c + 40 ≤ x → m'.2.1 10 x = m.2.1 10 x ∧ m'.2.2.2 2 x = m.2.2.2 2 x) ∧ (∀ x, x < 8 * c ∨ 8 * c + 8 ≤ x → m'.2.1 13 x = m.2.1 13 x)
theorem MCl_kfr {m m' : Ob} {c i : Int} {p : Part} (h : MCl m i p) (f : kfr c m m') (hi : i ≠ c) (hp : ¬ ovP p) : MCl m' i p := by
  obtain ⟨h1, h2, h3, h4⟩ := h
  obtain ⟨f1, f2, f3, f4, f5, f6, f7⟩ := f
  have b1 : (pL p).length ≤ 40 := by
    by_cases q : 40 < (pL p).length
    · exact absurd (Or.inl q) hp
    · omega
  have b2 : p.2.length ≤ 8 := by
    by_cases q : 8 < p.2.length
    · exact absurd (Or.inr (Or.inr (Or.inl q))) hp
    · omega
  refine ⟨(f5 i hi).1.trans h1, fun j hj => ?_, (f5 i hi).2.trans h3, fun q hq => ?_⟩
  · have := f6 (40 * i + (j : Int)) (by omega)
    rw [this.1, this.2]
    exact h2 j hj
  · rw [f7 (8 * i + (q : Int)) (by omega)]
    exact h4 q hq
theorem sp_keep {Ps A C : List Part} {p : Part} {m : Ob} {K : Ob → Prop} {c : Int} (h : RDn Ps m) (hA : Ps = A ++ p :: C) (hp : ¬ ovP p) (hc : 0 ≤ c ∧ c ≤ 24) (hK : ∀ m', kfr c m m' → MCl m' c p → K m') : wp_M_keep (A.length : Int) (gN A : Int) c m K := by
  obtain ⟨q1, q2, q3, q4⟩ := DP_at h hA
  have hb1 := h.2.2.2.1
  have hb2 := h.2.2.2.2.1
  have hb3 := h.2.2.2.2.2
  obtain ⟨p2, p3, p4, p5, p6⟩ := q4
  have b1 : (pL p).length ≤ 40 := by
    by_cases q : 40 < (pL p).length
    · exact absurd (Or.inl q) hp
    · omega
  have b2 : p.2.length ≤ 8 := by
    by_cases q : 8 < p.2.length
    · exact absurd (Or.inr (Or.inr (Or.inl q))) hp
    · omega
  have hg : gN A + p.2.length ≤ gN Ps := by
    rw [hA]
    unfold gN
    rw [List.map_append, List.sum_append, List.map_cons, List.sum_cons]
    omega
  -- the goals
  have loop2 : ∀ (n j : Nat) (m' : Ob), j ≤ p.2.length → p.2.length < n + j → kfr c m m' → m'.2.1 12 c = (p.2.length : Int) → m'.2.1 11 c = ((pL p).length : Int) → (∀ i : Nat, i < (pL p).length → m'.2.1 10 (40 * c + (i : Int)) = ((pL p).getD i (0, 0)).1 ∧ m'.2.2.2 2 (40 * c + (i : Int)) = cM (pL p) i) → (∀ i : Nat, i < j → m'.2.1 13 (8 * c + (i : Int)) = 40 * c + (p.1.length : Int) + ((p.2.take i).flatten.length : Int)) → M_keep_105 n (A.length : Int) (gN A : Int) c (j : Int) m' K := by
    intro n
    induction n with
    | zero => intro j m' j1 j2; omega
    | succ n ih =>
      intro j m' j1 j2 f e12 e11 hcp hgo
      refine ⟨⟨by omega, by omega⟩, fun z => ?_, fun z => ?_⟩
      · have : j = p.2.length := by omega
        subst this
        exact hK m' f ⟨e11, hcp, e12, hgo⟩
      · have hj : j < p.2.length := by omega
        have e5 : m'.2.1 5 ((gN A : Int) + (j : Int)) = ((psL A).length : Int) + (p.1.length : Int) + ((p.2.take j).flatten.length : Int) := by
          rw [f.2.1 5 (by decide) (by decide) (by decide) (by decide)]
          exact p6 j hj
        have e2 : m'.2.1 2 (A.length : Int) = ((psL A).length : Int) := by
          rw [f.2.1 2 (by decide) (by decide) (by decide) (by decide)]
          exact p2
        have hfl : p.1.length + (p.2.take j).flatten.length ≤ (pL p).length := by
          unfold pL
          rw [List.length_append]
          have : (p.2.take j).flatten.length ≤ p.2.flatten.length := by
            have e := congrArg (fun l => (List.flatten l).length) (List.take_append_drop j p.2)
            simp only [List.flatten_append, List.length_append] at e
            omega
          omega
        rw [e5, e2]
        refine ⟨⟨by omega, by omega⟩, ⟨by omega, by omega⟩, ⟨by omega, by omega⟩, ⟨by omega, by omega⟩, ⟨by omega, by omega⟩, ⟨by omega, by omega⟩, ⟨by omega, by omega⟩, ⟨by omega, by omega⟩, ⟨by omega, by omega⟩, ⟨by omega, by omega⟩, ?_⟩
        rw [show (j : Int) + 1 = ((j + 1 : Nat) : Int) by omega]
        obtain ⟨f1, f2, f3, f4, f5, f6, f7⟩ := f
        refine ih (j + 1) _ (by omega) (by omega) ⟨f1, fun i i1 i2 i3 i4 => (if_neg i4).trans (f2 i i1 i2 i3 i4), f3, f4, f5, f6, fun x hx => (if_neg (by omega)).trans (f7 x hx)⟩ e12 e11 hcp (fun i hi => ?_)
        show (if 8 * c + (i : Int) = 8 * c + (j : Int) then _ else _) = _
        by_cases q : i = j
        · subst q
          rw [if_pos rfl]
          omega
        · rw [if_neg (by omega)]
          exact hgo i (by omega)
  -- the symbols
  have loop1 : ∀ (n j : Nat) (m' : Ob), j ≤ (pL p).length → (pL p).length < n + j → kfr c m m' → m'.2.1 11 c = ((pL p).length : Int) → (∀ i : Nat, i < j → m'.2.1 10 (40 * c + (i : Int)) = ((pL p).getD i (0, 0)).1 ∧ m'.2.2.2 2 (40 * c + (i : Int)) = cM (pL p) i) → M_keep_21 n (A.length : Int) (gN A : Int) c (j : Int) m' K := by
    intro n
    induction n with
    | zero => intro j m' j1 j2; omega
    | succ n ih =>
      intro j m' j1 j2 f e11 hcp
      refine ⟨⟨by omega, by omega⟩, fun z => ?_, fun z => ?_⟩
      · have : j = (pL p).length := by omega
        subst this
        have e3 : m'.2.1 3 (A.length : Int) = (p.2.length : Int) := by
          rw [f.2.1 3 (by decide) (by decide) (by decide) (by decide)]
          exact p3
        refine ⟨⟨by omega, by omega⟩, ⟨by omega, by omega⟩, p.2.length + 1, ?_⟩
        rw [e3]
        obtain ⟨f1, f2, f3, f4, f5, f6, f7⟩ := f
        refine loop2 (p.2.length + 1) 0 _ (Nat.zero_le _) (by omega) ⟨f1, fun i i1 i2 i3 i4 => (if_neg i3).trans (f2 i i1 i2 i3 i4), f3, f4, fun i hi => ⟨(f5 i hi).1, (if_neg hi).trans (f5 i hi).2⟩, f6, f7⟩ (if_pos rfl) e11 hcp (fun i hi => absurd hi (Nat.not_lt_zero _))
      · have hj : j < (pL p).length := by omega
        have e2 : m'.2.1 2 (A.length : Int) = ((psL A).length : Int) := by
          rw [f.2.1 2 (by decide) (by decide) (by decide) (by decide)]
          exact p2
        have e1 : m'.2.1 1 (((psL A).length : Int) + (j : Int)) = ((pL p).getD j (0, 0)).1 := by
          rw [f.2.1 1 (by decide) (by decide) (by decide) (by decide)]
          exact (p5 j hj).1
        have e0 : m'.2.2.2 0 (((psL A).length : Int) + (j : Int)) = cM (pL p) j := by
          rw [f.2.2.2.1 0 (by decide)]
          exact (p5 j hj).2
        rw [e2, e1, e0]
        refine ⟨⟨by omega, by omega⟩, ⟨by omega, by omega⟩, ⟨by omega, by omega⟩, ⟨by omega, by omega⟩, ⟨by omega, by omega⟩, ⟨by omega, by omega⟩, ⟨by omega, by omega⟩, ⟨by omega, by omega⟩, ⟨by omega, by omega⟩, ⟨by omega, by omega⟩, ⟨by omega, by omega⟩, ⟨by omega, by omega⟩, ⟨by omega, by omega⟩, ?_⟩
        rw [show (j : Int) + 1 = ((j + 1 : Nat) : Int) by omega]
        obtain ⟨f1, f2, f3, f4, f5, f6, f7⟩ := f
        refine ih (j + 1) _ (by omega) (by omega) ⟨f1, fun i i1 i2 i3 i4 => (if_neg i1).trans (f2 i i1 i2 i3 i4), f3, fun i hi => (if_neg hi).trans (f4 i hi), f5, fun x hx => ⟨(if_neg (by omega)).trans (f6 x hx).1, (if_neg (by omega)).trans (f6 x hx).2⟩, f7⟩ e11 (fun i hi => ?_)
        show (if 40 * c + (i : Int) = 40 * c + (j : Int) then _ else _) = _ ∧ (if 40 * c + (i : Int) = 40 * c + (j : Int) then _ else _) = _
        by_cases q : i = j
        · subst q
          rw [if_pos rfl, if_pos rfl]
          exact ⟨rfl, rfl⟩
        · rw [if_neg (by omega), if_neg (by omega)]
          exact hcp i (by omega)
  refine sp_endOf h hA ⟨⟨by omega, by omega⟩, ⟨by rw [p2]; omega, by rw [p2]; omega⟩, ⟨by omega, by omega⟩, (pL p).length + 1, ?_⟩
  rw [p2, show ((psL A).length : Int) + ((pL p).length : Int) - ((psL A).length : Int) = ((pL p).length : Int) by omega]
  exact loop1 ((pL p).length + 1) 0 _ (Nat.zero_le _) (by omega) ⟨rfl, fun j j1 j2 j3 j4 => if_neg j2, rfl, fun _ _ => rfl, fun i hi => ⟨if_neg hi, rfl⟩, fun _ _ => ⟨rfl, rfl⟩, fun _ _ => rfl⟩ (if_pos rfl) (fun i hi => absurd hi (Nat.not_lt_zero _))
