/-! the pure part: consult -/
/-- the reference's program -/
def MPr (NL : List Nat) (Cs : List Part) (m : Ob) : Prop := m.1 10 = (Cs.length : Int) ∧ m.1 11 = (NL.length : Int) ∧ arN (m.2.2.2 3) NL ∧ (∀ (A : List Part) (p : Part) (C : List Part), Cs = A ++ p :: C → MCl m (A.length : Int) p) ∧ ∀ p ∈ Cs, p.1 ≠ []
/-- what the class's terms always keep -/
def TeB (i : Nat) (te : Ob) : Prop := 0 ≤ te.1 1 ∧ te.1 1 ≤ 2440 ∧ (∀ j, 0 ≤ j → j < te.1 1 → 0 ≤ te.2.1 4 j ∧ te.2.1 4 j < 2440) ∧ 0 ≤ te.1 3 ∧ te.1 3 ≤ 200 * (i : Int) ∧ ∀ c, 0 ≤ c → c < 2440 → te.2.1 3 c ≤ te.1 3
/-- no search -/
def SN (te go ch se wr m : Ob) : Prop := se.1 1 = -1 ∧ se.1 2 = 0 ∧ se.1 3 = 0 ∧ se.1 4 = 0 ∧ se.1 0 = 0 ∧ ch.1 0 = 0 ∧ go.1 0 = 0 ∧ go.1 1 = -1 ∧ te.1 0 = 0 ∧ te.1 1 = 0 ∧ wr.1 0 = 0 ∧ wr.1 1 = 0 ∧ wr.1 3 = 0 ∧ m.1 13 = 0 ∧ m.1 15 = 0 ∧ m.1 16 = 0 ∧ m.1 17 = 0 ∧ m.1 18 = 0
theorem sp_Sea_end {i : Nat} {te go ch se wr : Ob} {K : Ob → Ob → Ob → Ob → Ob → Prop} (hT : TeB i te) (hc : 0 ≤ ch.1 0) (hK : ∀ te' go' ch' se' wr', TeB i te' → (∀ m : Ob, m.1 13 = 0 → m.1 15 = 0 → m.1 16 = 0 → m.1 17 = 0 → m.1 18 = 0 → SN te' go' ch' se' wr' m) → K te' go' ch' se' wr') : wp_Sea_end te go ch se wr K := by
  have loop : ∀ (n : Nat) (te' : Ob) (Q : Ob → Prop), te'.1 1 < (n : Int) → TeB i te' → (∀ te2, TeB i te2 → te2.1 1 = 0 → te2.1 0 = 0 → Q te2) → Ter_goBack_0 n 0 0 te' Q := by
    intro n
    induction n with
    | zero => intro te' Q h1 h2; have := h2.1; omega
    | succ n ih =>
      intro te' Q h1 h2 hQ
      obtain ⟨a1, a2, a3, a4, a5, a6⟩ := h2
      refine ⟨fun z => hQ _ ⟨a1, a2, a3, a4, a5, a6⟩ (by show te'.1 1 = 0; omega) rfl, fun z => ⟨fun z2 => by omega, fun _ => ⟨⟨by omega, by omega⟩, ⟨by omega, by omega⟩, a3 _ (by omega) (by omega), ?_⟩⟩⟩
      refine ih _ Q (by show te'.1 1 - 1 < _; omega) ⟨by show 0 ≤ te'.1 1 - 1; omega, by show te'.1 1 - 1 ≤ _; omega, fun j j0 j1 => ?_, a4, a5, a6⟩ hQ
      have j1 : j < te'.1 1 - 1 := j1
      exact a3 j j0 (by omega)
  refine ⟨(te.1 1).toNat + 1, loop _ te _ (by have := hT.1; omega) hT (fun te2 t1 t2 t3 => hK _ _ _ _ _ t1 (fun m e13 e15 e16 e17 e18 => ⟨rfl, rfl, rfl, rfl, rfl, ?_, rfl, rfl, t3, t2, rfl, rfl, rfl, e13, e15, e16, e17, e18⟩))⟩
  show min (ch.1 0) (max 0 0) = 0
  omega
/-- clauses begin with a head -/
theorem PCs_hd {kE : Int → Int} {wE : Int → Nat} : ∀ (n : Nat) (k k' : Int) (Qs : List Part), PCs kE wE n k k' true Qs → ∀ p ∈ Qs, p.1 ≠ [] := by
  intro n
  induction n with
  | zero => intro k k' Qs z; exact absurd z id
  | succ n ih =>
    intro k k' Qs hp q hq
    rcases hp with ⟨-, -, -, rfl⟩ | ⟨-, p, -, z, -⟩ | ⟨-, k1, p, Qs', hp1, hp2, rfl⟩
    · exact absurd hq (List.not_mem_nil)
    · exact absurd z (by decide)
    · rcases List.mem_cons.mp hq with e | e
      · subst e
        rcases hp1 with ⟨-, z, -⟩ | ⟨-, S, -, z⟩ | ⟨-, k2, H, -, -, m, G, -, z⟩ | ⟨e97, k2, k3, H, m, G, h1, -, -, z⟩ | ⟨e97, k2, H, h1, -, z⟩
        · exact absurd z (by decide)
        · exact absurd z (by decide)
        · exact absurd z (by decide)
        · rcases z with ⟨-, -, -, rfl⟩ | ⟨-, z, -⟩
          · obtain ⟨a, T, e⟩ := PT_name h1 e97
            intro z
            have z : H = [] := z
            rw [e] at z; cases z
          · exact absurd z (by decide)
        · rcases z with ⟨-, -, -, rfl⟩ | ⟨-, z, -⟩
          · obtain ⟨a, T, e⟩ := PT_name h1 e97
            intro z
            have z : H = [] := z
            rw [e] at z; cases z
          · exact absurd z (by decide)
      · exact ih k1 k' Qs' hp2 q e
theorem RDn_eq {Qs : List Part} {m m' : Ob} (h : RDn Qs m) (e4 : m'.1 4 = m.1 4) (e5 : m'.1 5 = m.1 5) (a1 : m'.2.1 1 = m.2.1 1) (a2 : m'.2.1 2 = m.2.1 2) (a3 : m'.2.1 3 = m.2.1 3) (a4 : m'.2.1 4 = m.2.1 4) (a5 : m'.2.1 5 = m.2.1 5) (l0 : m'.2.2.2 0 = m.2.2.2 0) : RDn Qs m' := by
  unfold RDn
  rw [e4, e5, a1, a2, a3, a4, a5, l0]
  exact h
/-- the reference's consult behind its read -/
theorem sp_M_keepAll {Cs Qs : List Part} {NL : List Nat} {K : Int → Ob → Prop} (hQ : ∀ p ∈ Qs, ¬ ovP p) (hC : ∀ p ∈ Cs, ¬ ovP p) (h24 : Cs.length + Qs.length ≤ 24) : ∀ (n : Nat) (C A : List Part) (m : Ob), Qs = A ++ C → C.length < n → RDn Qs m → m.1 10 = ((Cs ++ A).length : Int) → (∀ (A' : List Part) (p : Part) (C' : List Part), Cs ++ A = A' ++ p :: C' → MCl m (A'.length : Int) p) → (∀ m', RDn Qs m' → m'.1 10 = ((Cs ++ Qs).length : Int) → (∀ (A' : List Part) (p : Part) (C' : List Part), Cs ++ Qs = A' ++ p :: C' → MCl m' (A'.length : Int) p) → (∀ j, j ≠ 10 → m'.1 j = m.1 j) → m'.2.1 0 = m.2.1 0 → (∀ j, j ≠ 2 → m'.2.2.2 j = m.2.2.2 j) → K (Qs.length : Int) m') → M_consult_107 n (gN A : Int) (A.length : Int) m K := by
  intro n
  induction n with
  | zero => intro C A m _ h; omega
  | succ n ih =>
    intro C A m hA hn hR h10 hM hK
    have hlen : Qs.length = A.length + C.length := by rw [hA, List.length_append]
    have h5 := hR.2.1
    have hb := hR.2.2.2.2.2
    refine ⟨fun z => ?_, fun z => ?_⟩
    · have : C = [] := by
        cases C with
        | nil => rfl
        | cons c C => rw [List.length_cons] at hlen; omega
      subst this
      rw [List.append_nil] at hA
      subst hA
      show K (m.1 5) m
      rw [h5]
      exact hK m hR h10 hM (fun _ _ => rfl) rfl (fun _ _ => rfl)
    · cases C with
      | nil => rw [List.length_nil] at hlen; omega
      | cons p C =>
        rw [List.length_cons] at hlen hn
        rw [h10]
        have hl2 : (Cs ++ A).length = Cs.length + A.length := List.length_append
        have hpo := hQ p (by rw [hA]; exact List.mem_append_right _ List.mem_cons_self)
        refine sp_keep hR hA hpo ⟨by omega, by omega⟩ (fun m' f hcl => ?_)
        have e3 : m'.2.1 3 (A.length : Int) = (p.2.length : Int) := by
          rw [f.2.1 3 (by decide) (by decide) (by decide) (by decide)]
          exact (DP_at hR hA).2.2.2.2.1
        have hg : gN A + p.2.length ≤ gN Qs := by
          rw [hA]
          unfold gN
          rw [List.map_append, List.sum_append, List.map_cons, List.sum_cons]
          omega
        have e10 : m'.1 10 = ((Cs ++ A).length : Int) := by rw [f.1]; exact h10
        rw [e3, e10]
        refine ⟨⟨by omega, by omega⟩, ⟨by omega, by omega⟩, ⟨by omega, by omega⟩, ⟨by omega, by omega⟩, ?_⟩
        have := ih C (A ++ [p]) (sI m' 10 (((Cs ++ A).length : Int) + 1)) (by rw [hA, List.append_assoc]; rfl) (by omega) (RDn_eq (m := m) hR (by show m'.1 4 = _; rw [f.1]) (by show m'.1 5 = _; rw [f.1]) (f.2.1 1 (by decide) (by decide) (by decide) (by decide)) (f.2.1 2 (by decide) (by decide) (by decide) (by decide)) (f.2.1 3 (by decide) (by decide) (by decide) (by decide)) (f.2.1 4 (by decide) (by decide) (by decide) (by decide)) (f.2.1 5 (by decide) (by decide) (by decide) (by decide)) (f.2.2.2.1 0 (by decide))) (by
          show ((Cs ++ A).length : Int) + 1 = _
          rw [← List.append_assoc, List.length_append (as := Cs ++ A), List.length_singleton]; omega) (fun A' q C' h' => ?_) (fun m2 r1 r2 r3 r4 r5 r6 => hK m2 r1 r2 r3 (fun j hj => ?_) ?_ (fun j hj => ?_))
        · rw [List.length_append, List.length_singleton, gN_snoc] at this
          rw [show (gN A : Int) + (p.2.length : Int) = ((gN A + p.2.length : Nat) : Int) by omega, show (A.length : Int) + 1 = ((A.length + 1 : Nat) : Int) by omega]
          exact this
        · have key : MCl m' (A'.length : Int) q := by
            rw [← List.append_assoc] at h'
            rcases List.eq_nil_or_concat C' with hC' | ⟨D, d, hC'⟩
            · subst hC'
              have := List.append_inj' h' rfl
              have e2 : p = q := by have := this.2; injection this
              rw [← this.1, ← e2]
              exact hcl
            · subst hC'
              rw [List.concat_eq_append, ← List.cons_append, ← List.append_assoc] at h'
              have := (List.append_inj' h' rfl).1
              have hq : q ∈ Cs ++ A := by rw [this]; exact List.mem_append_right _ List.mem_cons_self
              have hlt : A'.length < (Cs ++ A).length := by rw [this, List.length_append, List.length_cons]; omega
              refine MCl_kfr (hM A' q D this) f (by omega) ?_
              rcases List.mem_append.mp hq with w | w
              · exact hC q w
              · exact hQ q (by rw [hA]; exact List.mem_append_left _ w)
          exact key
        · rw [r4 j hj]
          show (if j = 10 then _ else m'.1 j) = _
          rw [if_neg hj, f.1]
        · rw [r5]
          exact f.2.1 0 (by decide) (by decide) (by decide) (by decide)
        · rw [r6 j hj]
          exact f.2.2.2.1 j hj
