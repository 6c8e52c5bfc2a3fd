/-! answer: the numbers of a step -/
theorem nuN_len (N : List Nat) (c : Nat) : (nuN N c).length ≤ N.length + 1 := by
  unfold nuN
  split
  · omega
  · rw [List.length_append, List.length_singleton]; omega
theorem vtx_len (k : Nat) : (vtx k).length ≤ 3 := by
  unfold vtx
  split
  · show 2 ≤ 3; decide
  · show 3 ≤ 3; decide
section SQ
variable {NL : List Nat} {E : List Sy} {g : Nat → Nat} {D : Nat}
theorem stp_q0 (hO : OkE NL E) {x : Nat} {N : List Nat} (hd : Dp E g D x) (hx : g x < E.length) : 3 * Ms E g D 1 0 0 0 (stp E g (0, x) N).2.1 + Ms E g D 0 0 0 1 (stp E g (0, x) N).2.1 + 1 ≤ 3 * (TL E g D x).length + Ms E g D 0 1 0 0 (stp E g (0, x) N).2.1 ∧ 10 * Ms E g D 1 0 0 0 (stp E g (0, x) N).2.1 + Ms E g D 0 0 0 1 (stp E g (0, x) N).2.1 + (stp E g (0, x) N).1.length + 2 ≤ 10 * (TL E g D x).length + 2 * Ms E g D 0 1 0 0 (stp E g (0, x) N).2.1 ∧ 3 * Ms E g D 1 0 0 0 (stp E g (0, x) N).2.1 + Ms E g D 0 1 0 0 (stp E g (0, x) N).2.1 + Ms E g D 0 0 1 0 (stp E g (0, x) N).2.1 + 4 * (stp E g (0, x) N).2.2.length ≤ 3 * (TL E g D x).length + 1 + 4 * N.length ∧ 8 * Ms E g D 1 0 0 0 (stp E g (0, x) N).2.1 + 2 * Ms E g D 0 0 1 0 (stp E g (0, x) N).2.1 + Ms E g D 0 0 0 1 (stp E g (0, x) N).2.1 + 1 ≤ 8 * (TL E g D x).length := by
  have hp := TL_pos hd
  have e00 : stp E g (0, x) N = if (en E (g x)).1 = -1 then (vtx (idx (nuN N (g x)) (g x)), [], nuN N (g x)) else if en E (g x) = (0, 2) then ([91, 93], [], N) else if en E (g x) = (2, 1) then ([91], [(0, ch E (g x) 0), (1, ch E (g x) 1)], N) else (wdL (en E (g x)).2, aIt E (g x) (nA E (g x)), N) := rfl
  rw [e00]
  split
  · have h1 := nuN_len N (g x)
    have h2 := vtx_len (idx (nuN N (g x)) (g x))
    refine ⟨?_, ?_, ?_, ?_⟩ <;> simp only [Ms_nil] <;> omega
  · split
    · refine ⟨?_, ?_, ?_, ?_⟩ <;> simp only [Ms_nil, List.length_cons, List.length_nil] <;> omega
    · split
      · next e =>
        have hn2 : nA E (g x) = 2 := by unfold nA; rw [e]; rfl
        have a1 := Ms_list (a := 1) (b0 := 0) (b1 := 0) (b2 := 0) hd hn2
        have a2 := Ms_list (a := 0) (b0 := 1) (b1 := 0) (b2 := 0) hd hn2
        have a3 := Ms_list (a := 0) (b0 := 0) (b1 := 1) (b2 := 0) hd hn2
        have a4 := Ms_list (a := 0) (b0 := 0) (b1 := 0) (b2 := 1) hd hn2
        refine ⟨?_, ?_, ?_, ?_⟩ <;> simp only [List.length_cons, List.length_nil] <;> omega
      · have h4 : nA E (g x) ≤ 4 := by have := (hO _ hx).2.1; unfold nA; omega
        have hw : (wdL (en E (g x)).2).length ≤ 8 := by rw [← wdF_0]; exact wdF_len _ 0
        have a1 := Ms_aIt (a := 1) (b0 := 0) (b1 := 0) (b2 := 0) hd
        have a2 := Ms_aIt (a := 0) (b0 := 1) (b1 := 0) (b2 := 0) hd
        have a3 := Ms_aIt (a := 0) (b0 := 0) (b1 := 1) (b2 := 0) hd
        have a4 := Ms_aIt (a := 0) (b0 := 0) (b1 := 0) (b2 := 1) hd
        by_cases q : nA E (g x) = 0
        · rw [if_pos q] at a1 a2 a3 a4
          refine ⟨?_, ?_, ?_, ?_⟩ <;> simp only [] <;> omega
        · rw [if_neg q] at a1 a2 a3 a4
          refine ⟨?_, ?_, ?_, ?_⟩ <;> simp only [] <;> omega
theorem stp_q1 {x : Nat} {N : List Nat} (hd : Dp E g D x) (hgg : (TL E g D (g x)).length = (TL E g D x).length) : 3 * Ms E g D 1 0 0 0 (stp E g (1, x) N).2.1 + Ms E g D 0 0 0 1 (stp E g (1, x) N).2.1 ≤ 3 * (TL E g D x).length + Ms E g D 0 1 0 0 (stp E g (1, x) N).2.1 ∧ 10 * Ms E g D 1 0 0 0 (stp E g (1, x) N).2.1 + Ms E g D 0 0 0 1 (stp E g (1, x) N).2.1 + (stp E g (1, x) N).1.length ≤ 10 * (TL E g D x).length + 2 * Ms E g D 0 1 0 0 (stp E g (1, x) N).2.1 ∧ 3 * Ms E g D 1 0 0 0 (stp E g (1, x) N).2.1 + Ms E g D 0 1 0 0 (stp E g (1, x) N).2.1 + Ms E g D 0 0 1 0 (stp E g (1, x) N).2.1 + 4 * (stp E g (1, x) N).2.2.length ≤ 3 * (TL E g D x).length + 1 + 4 * N.length ∧ 8 * Ms E g D 1 0 0 0 (stp E g (1, x) N).2.1 + 2 * Ms E g D 0 0 1 0 (stp E g (1, x) N).2.1 + Ms E g D 0 0 0 1 (stp E g (1, x) N).2.1 + 1 ≤ 8 * (TL E g D x).length + 2 := by
  have hp := TL_pos hd
  have e00 : stp E g (1, x) N = if en E (g x) = (0, 2) then ([93], [], N) else if en E (g x) = (2, 1) then ([44], [(0, ch E (g x) 0), (1, ch E (g x) 1)], N) else ([124], [(0, g x), (2, 93)], N) := rfl
  rw [e00]
  split
  · refine ⟨?_, ?_, ?_, ?_⟩ <;> simp only [Ms_nil, List.length_cons, List.length_nil] <;> omega
  · split
    · next e =>
      have hn2 : nA E (g x) = 2 := by unfold nA; rw [e]; rfl
      have a1 := Ms_list (a := 1) (b0 := 0) (b1 := 0) (b2 := 0) hd hn2
      have a2 := Ms_list (a := 0) (b0 := 1) (b1 := 0) (b2 := 0) hd hn2
      have a3 := Ms_list (a := 0) (b0 := 0) (b1 := 1) (b2 := 0) hd hn2
      have a4 := Ms_list (a := 0) (b0 := 0) (b1 := 0) (b2 := 1) hd hn2
      refine ⟨?_, ?_, ?_, ?_⟩ <;> simp only [List.length_cons, List.length_nil] <;> omega
    · refine ⟨?_, ?_, ?_, ?_⟩ <;> simp only [Ms_cons, Ms_nil, ms_0, ms_2, hgg, List.length_cons, List.length_nil] <;> omega
end SQ
