/-! answer: the class writes a variable, finds an argument -/
theorem idx_before : ∀ {l : List Nat} {w k : Nat}, k < idx l w → k < l.length → l.getD k 0 ≠ w
  | [], _, _, _, h => absurd h (Nat.not_lt_zero _)
  | a :: l, w, k, h, hl => by
    by_cases q : a = w
    · have : idx (a :: l) w = 0 := if_pos q
      omega
    · have e : idx (a :: l) w = idx l w + 1 := if_neg q
      cases k with
      | zero => exact q
      | succ k => exact idx_before (l := l) (by omega) (Nat.lt_of_succ_lt_succ hl)
theorem nuN_mem (N : List Nat) (c : Nat) : c ∈ nuN N c := by
  unfold nuN
  split
  · next h => exact h
  · exact List.mem_append_right _ (List.mem_singleton.mpr rfl)
theorem sp_cvar {c : Nat} {wr : Ob} {N : List Nat} {out : List Int} {st : List It} {K : Ob → Prop} (h : CWr wr N out st) (h99 : (nuN N c).length ≤ 100) (hl : out.length + 3 ≤ 1200) (hK : ∀ wr', CWr wr' (nuN N c) (out ++ vtx (idx (nuN N c) c)) st → wfr wr wr' → K wr') : wp_Wri_writeVariable (c : Int) wr K := by
  have ht := idx_lt (nuN_mem N c)
  have hcase : (c ∈ N ∧ nuN N c = N) ∨ (c ∉ N ∧ nuN N c = N ++ [c] ∧ idx (nuN N c) c = N.length) := by
    by_cases q : c ∈ N
    · exact Or.inl ⟨q, if_pos q⟩
    · have e : nuN N c = N ++ [c] := if_neg q
      exact Or.inr ⟨q, e, by rw [e]; exact idx_new q⟩
  generalize et : idx (nuN N c) c = t at *
  have h1 := h
  obtain ⟨g0, g1, g2, g3, g4, g5⟩ := h1
  have f87 : ∀ (o : List Int) (wr1 : Ob), CWr wr1 (nuN N c) o st → wfr wr wr1 → o.length < 1200 → o ++ [48 + (t : Int) % 10] = out ++ vtx t → Wri_writeVariable_87 (t : Int) wr1 K := fun o wr1 c1 f1 l1 e1 => by
    refine ⟨by omega, ⟨by omega, by omega⟩, ⟨by omega, by omega⟩, sp_cput c1 l1 ⟨by omega, by omega⟩ (fun wr2 c2 f2 => hK wr2 ?_ (wfr_trans f1 f2))⟩
    rw [← e1]; exact c2
  have f63 : ∀ wr1 : Ob, CWr wr1 (nuN N c) out st → wfr wr wr1 → Wri_writeVariable_63 (t : Int) wr1 K := fun wr1 c1 f1 => by
    refine sp_cput c1 (by omega) ⟨by decide, by decide⟩ (fun wr2 c2 f2 => ⟨fun z => ?_, fun z => ⟨by omega, ⟨by omega, by omega⟩, ⟨by omega, by omega⟩, ?_⟩⟩)
    · refine f87 _ wr2 c2 (wfr_trans f1 f2) (by rw [List.length_append, List.length_singleton]; omega) ?_
      unfold vtx
      rw [if_pos (by omega), List.append_assoc]; rfl
    · refine sp_cput c2 (by rw [List.length_append, List.length_singleton]; omega) ⟨by omega, by omega⟩ (fun wr3 c3 f3 => ?_)
      refine f87 _ wr3 c3 (wfr_trans f1 (wfr_trans f2 f3)) (by rw [List.length_append, List.length_append, List.length_singleton, List.length_singleton]; omega) ?_
      unfold vtx
      rw [if_neg (by omega), List.append_assoc, List.append_assoc]; rfl
  have f26 : Wri_writeVariable_26 (c : Int) (t : Int) wr K := by
    refine ⟨fun z => ?_, fun z => ?_⟩
    · rcases hcase with ⟨q, e⟩ | ⟨q, e, e2⟩
      · exact f63 wr (by rw [e]; exact h) (wfr_refl wr)
      · omega
    · rcases hcase with ⟨q, e⟩ | ⟨q, e, e2⟩
      · rw [e] at ht; omega
      · rw [e, List.length_append, List.length_singleton] at h99
        refine ⟨fun w => by omega, fun _ => ⟨⟨by omega, by omega⟩, ⟨by omega, by omega⟩, f63 _ ?_ ⟨rfl, rfl⟩⟩⟩
        rw [e]
        refine ⟨g0, g1, ?_, fun j hj => ?_, g4, g5⟩
        · show wr.1 1 + 1 = _
          rw [List.length_append, List.length_singleton]; omega
        · show updI (wr.2.1 2) (wr.1 1) (c : Int) (j : Int) = _
          unfold updI
          rw [List.length_append, List.length_singleton] at hj
          by_cases w : j = N.length
          · rw [if_pos (by omega), w, List.getD_eq_getElem?_getD, List.getElem?_append_right (Nat.le_refl _), Nat.sub_self]
            rfl
          · rw [if_neg (by omega), g3 j (by omega), List.getD_eq_getElem?_getD, List.getD_eq_getElem?_getD, List.getElem?_append_left (by omega)]
  have htl : t ≤ N.length := by
    rcases hcase with ⟨q, e⟩ | ⟨q, e, e2⟩
    · rw [e] at ht; omega
    · omega
  have hN : N.length ≤ 100 := by
    rcases hcase with ⟨q, e⟩ | ⟨q, e, e2⟩
    · rw [e] at h99; exact h99
    · rw [e, List.length_append] at h99; omega
  have hbef : ∀ k, k < t → k < N.length → N.getD k 0 ≠ c := fun k k1 k2 => by
    rcases hcase with ⟨q, e⟩ | ⟨q, e, e2⟩
    · rw [e] at et
      exact idx_before (by omega) k2
    · intro e3
      refine q ?_
      rw [← e3, List.getD_eq_getElem?_getD, List.getElem?_eq_getElem k2]
      exact List.getElem_mem k2
  have loop : ∀ (n k : Nat), k ≤ t → t < n + k → Wri_writeVariable_2 n (c : Int) (k : Int) wr K := by
    intro n
    induction n with
    | zero => intro k h1 h2; omega
    | succ n ih =>
      intro k hk hn
      refine ⟨fun z => ?_, fun z => ⟨⟨by omega, by omega⟩, fun e => ?_, fun e => ⟨⟨by omega, by omega⟩, ih (k + 1) ?_ (by omega)⟩⟩⟩
      · have : k = t := by omega
        subst this
        exact f26
      · rw [g3 k (by omega)] at e
        by_cases w : k = t
        · subst w; exact f26
        · exact absurd (by omega) (hbef k (by omega) (by omega))
      · by_cases w : k = t
        · exfalso
          rw [g3 k (by omega)] at e
          rcases hcase with ⟨q, e1⟩ | ⟨q, e1, e2⟩
          · rw [e1] at ht
            rw [w, ht.2] at e
            exact e rfl
          · omega
        · omega
  exact ⟨t + 1, loop (t + 1) 0 (Nat.zero_le _) (by omega)⟩
/-- the k-th argument's cell -/
theorem sp_arg {NL : List Nat} {E : List Sy} {te : Ob} {x k : Nat} {K : Int → Prop} (hW : WE E) (hC : CW NL E te) (hx : x < E.length) (hk : k < nA E x) (hk4 : k ≤ 4) (hK : K (ch E x k : Int)) : wp_Ter_argument (x : Int) (k : Int) te K := by
  have hE := hC.2.1
  have loop : ∀ (n j : Nat), j ≤ k → k < n + j → Ter_argument_7 n (k : Int) (ch E x j : Int) (j : Int) te K := by
    intro n
    induction n with
    | zero => intro j h1 h2; omega
    | succ n ih =>
      intro j hj hn
      refine ⟨fun z => ?_, fun z => ?_⟩
      · have : j = k := by omega
        subst this
        exact hK
      · have hl := ch_lt hW hx (show j < nA E x by omega)
        have hs := (hC.2.2 _ hl).2
        have ht := tsz_le hW hl
        have h0 := hC.1
        refine sp_sizT (CW_ix hC hl) ?_
        rw [hs]
        refine ⟨⟨by omega, by omega⟩, ⟨by omega, by omega⟩, ?_⟩
        have := ih (j + 1) (by omega) (by omega)
        rw [ch_succ] at this
        rw [show ((ch E x j : Int) + (tsz E (ch E x j) : Int)) = ((ch E x j + tsz E (ch E x j) : Nat) : Int) by omega]
        exact this
  refine ⟨⟨by omega, by omega⟩, k + 1, ?_⟩
  have := loop (k + 1) 0 (Nat.zero_le _) (by omega)
  rw [ch_0] at this
  exact this
