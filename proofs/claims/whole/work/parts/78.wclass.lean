/-! answer: the class's writer -/
def WSt (a3 : Int → Int) : List It → Prop
  | [] => True
  | i :: st => a3 (st.length : Int) = (i.2 : Int) * 4 + (i.1 : Int) ∧ WSt a3 st
theorem WSt_eq {a b : Int → Int} : ∀ {st : List It}, WSt a st → (∀ j, 0 ≤ j → j < (st.length : Int) → b j = a j) → WSt b st
  | [], _, _ => trivial
  | i :: st, h, e => by
    rw [List.length_cons] at e
    exact ⟨by rw [e _ (by omega) (by omega)]; exact h.1, WSt_eq h.2 (fun j j0 j1 => e j j0 (by omega))⟩
/-- the class's writer: numbered variables, letters, entries -/
def CWr (wr : Ob) (N : List Nat) (out : List Int) (st : List It) : Prop := wr.1 0 = (out.length : Int) ∧ (∀ j : Nat, j < out.length → wr.2.1 0 (j : Int) = out.getD j 0) ∧ wr.1 1 = (N.length : Int) ∧ (∀ j : Nat, j < N.length → wr.2.1 2 (j : Int) = (N.getD j 0 : Int)) ∧ wr.1 2 = (st.length : Int) ∧ WSt (wr.2.1 3) st
def wfr (wr wr' : Ob) : Prop := wr'.1 3 = wr.1 3 ∧ wr'.2.1 1 = wr.2.1 1
theorem wfr_refl (wr : Ob) : wfr wr wr := ⟨rfl, rfl⟩
theorem wfr_trans {a b c : Ob} (h : wfr a b) (g : wfr b c) : wfr a c := ⟨g.1.trans h.1, g.2.trans h.2⟩
theorem sp_cput {wr : Ob} {N : List Nat} {out : List Int} {st : List It} {k : Int} {K : Ob → Prop} (h : CWr wr N out st) (hl : out.length < 1200) (hk : 0 ≤ k ∧ k < 65536) (hK : ∀ wr', CWr wr' N (out ++ [k]) st → wfr wr wr' → K wr') : wp_Wri_put k wr K := by
  obtain ⟨h0, h1, h2, h3, h4, h5⟩ := h
  refine ⟨fun z => by omega, fun _ => ⟨⟨by omega, by omega⟩, hk, ⟨by omega, by omega⟩, hK _ ⟨?_, fun j hj => ?_, h2, h3, h4, h5⟩ ⟨rfl, rfl⟩⟩⟩
  · show wr.1 0 + 1 = _
    rw [List.length_append, List.length_singleton]; omega
  · show updI (wr.2.1 0) (wr.1 0) k (j : Int) = _
    unfold updI
    rw [List.length_append, List.length_singleton] at hj
    by_cases q : j = out.length
    · rw [if_pos (by omega), q, List.getD_eq_getElem?_getD, List.getElem?_append_right (Nat.le_refl _), Nat.sub_self]
      rfl
    · rw [if_neg (by omega), h1 j (by omega), List.getD_eq_getElem?_getD, List.getD_eq_getElem?_getD, List.getElem?_append_left (by omega)]
theorem sp_cpush {wr : Ob} {N : List Nat} {out : List Int} {st : List It} {i : It} {K : Ob → Prop} (h : CWr wr N out st) (hl : st.length < 512) (hi : i.1 < 4 ∧ i.2 < 3000) (hK : ∀ wr', CWr wr' N out (i :: st) → wfr wr wr' → K wr') : wp_Wri_push (i.1 : Int) (i.2 : Int) wr K := by
  obtain ⟨h0, h1, h2, h3, h4, h5⟩ := h
  refine ⟨fun z => by omega, fun _ => ⟨⟨by omega, by omega⟩, ⟨by omega, by omega⟩, ⟨by omega, by omega⟩, ⟨by omega, by omega⟩, hK _ ⟨h0, h1, h2, h3, ?_, ?_, ?_⟩ ⟨rfl, rfl⟩⟩⟩
  · show wr.1 2 + 1 = ((st.length + 1 : Nat) : Int)
    omega
  · show updI (wr.2.1 3) (wr.1 2) ((i.2 : Int) * 4 + (i.1 : Int)) (st.length : Int) = _
    unfold updI
    rw [if_pos h4.symm]
  · refine WSt_eq h5 (fun j j0 j1 => ?_)
    show updI (wr.2.1 3) (wr.1 2) ((i.2 : Int) * 4 + (i.1 : Int)) j = _
    unfold updI
    rw [if_neg (by omega)]
/-- a word's letters from the k-th on -/
def wdF (w k : Nat) : List Int := ((List.range' k (8 - k)).map (fun j => (((w / 2 ^ (8 * j)) &&& 255 : Nat) : Int))).filter (fun x => decide (x ≠ 0))
theorem wdF_0 (w : Nat) : wdF w 0 = wdL w := by
  unfold wdF wdL
  rw [List.range_eq_range']
theorem wdF_8 (w : Nat) : wdF w 8 = [] := rfl
theorem wdF_s (w k : Nat) (hk : k < 8) : wdF w k = if (((w / 2 ^ (8 * k)) &&& 255 : Nat) : Int) = 0 then wdF w (k + 1) else (((w / 2 ^ (8 * k)) &&& 255 : Nat) : Int) :: wdF w (k + 1) := by
  unfold wdF
  rw [show 8 - k = (8 - (k + 1)) + 1 by omega, List.range'_succ, List.map_cons]
  split
  · next h => rw [List.filter_cons_of_neg (by simpa using h)]
  · next h => rw [List.filter_cons_of_pos (by simpa using h)]
theorem wdF_len (w k : Nat) : (wdF w k).length ≤ 8 - k := by
  unfold wdF
  refine Nat.le_trans (List.length_filter_le _ _) ?_
  rw [List.length_map, List.length_range']
  exact Nat.le_refl _
theorem sp_cword {w : Nat} {wr : Ob} {N : List Nat} {out : List Int} {st : List It} {K : Ob → Prop} (h : CWr wr N out st) (hl : out.length + (wdL w).length ≤ 1200) (hK : ∀ wr', CWr wr' N (out ++ wdL w) st → wfr wr wr' → K wr') : wp_Wri_writeWord w wr K := by
  have loop : ∀ (n k : Nat) (o : List Int) (wr' : Ob), k ≤ 8 → 8 < n + k → o ++ wdF w k = out ++ wdL w → CWr wr' N o st → wfr wr wr' → Wri_writeWord_2 n w (k : Int) wr' K := by
    intro n
    induction n with
    | zero => intro k o wr' h1 h2; omega
    | succ n ih =>
      intro k o wr' hk hn ho hc hf
      refine ⟨fun z => ?_, fun z => ?_⟩
      · have : k = 8 := by omega
        subst this
        rw [wdF_8, List.append_nil] at ho
        subst ho
        exact hK wr' hc hf
      · have hk8 : k < 8 := by omega
        have e8 : (8 * (k : Int)).toNat = 8 * k := by omega
        have hb : (w / 2 ^ (8 * k)) &&& 255 < 256 := by
          have := Nat.and_le_right (n := w / 2 ^ (8 * k)) (m := 255)
          omega
        have es := wdF_s w k hk8
        rw [e8]
        refine ⟨⟨by omega, by omega⟩, ⟨by omega, by omega⟩, by omega, ⟨by omega, by omega⟩, fun w0 => ?_, fun w0 => ?_⟩
        · rw [if_pos w0] at es
          exact ⟨⟨by omega, by omega⟩, ih (k + 1) o wr' (by omega) (by omega) (by rw [← es]; exact ho) hc hf⟩
        · rw [if_neg w0] at es
          have hlen : o.length + (wdF w k).length = out.length + (wdL w).length := by rw [← List.length_append, ho, List.length_append]
          rw [es, List.length_cons] at hlen
          refine sp_cput hc (by omega) ⟨by omega, by omega⟩ (fun wr2 c2 f2 => ⟨⟨by omega, by omega⟩, ?_⟩)
          exact ih (k + 1) _ wr2 (by omega) (by omega) (by rw [List.append_assoc, List.singleton_append, ← es]; exact ho) c2 (wfr_trans hf f2)
  exact ⟨9, loop 9 0 out wr (by omega) (by omega) (by rw [wdF_0]) h (wfr_refl wr)⟩
