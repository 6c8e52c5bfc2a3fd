/-! answer: good entries stay good -/
section GD
variable {E : List Sy} {g : Nat → Nat} {D : Nat}
theorem Ms_ge (hD : ∀ x, x < E.length → Dp E g D x) : ∀ {st : List It}, (∀ i ∈ st, goodI E g i) → Ms E g D 0 1 0 0 st + Ms E g D 0 0 1 0 st ≤ Ms E g D 1 0 0 0 st
  | [], _ => Nat.le_refl _
  | i :: st, h => by
    have ih := Ms_ge hD (st := st) (fun j hj => h j (List.mem_cons_of_mem _ hj))
    rw [Ms_cons, Ms_cons, Ms_cons]
    rcases h i List.mem_cons_self with ⟨q, -⟩ | ⟨q, q1, -⟩
    · unfold ms
      rw [if_neg (by omega), if_neg (by omega), if_neg (by omega), if_neg (by omega), if_neg (by omega), if_neg (by omega)]
      omega
    · have hp := TL_pos (hD _ q1)
      unfold ms
      by_cases w : i.1 = 0
      · rw [if_pos w, if_pos w, if_pos w]
        omega
      · rw [if_neg w, if_neg w, if_neg w, if_pos (by omega), if_pos (by omega), if_pos (by omega)]
        omega
theorem aTo_mem {c : Nat} {j : It} : ∀ {k : Nat}, j ∈ aTo E c k → (j.1 = 2 ∧ j.2 < 3000) ∨ ∃ l, l < k ∧ j = (0, ch E c l)
  | 0, h => absurd h (List.not_mem_nil)
  | k + 1, h => by
    rw [aTo_s] at h
    rcases List.mem_append.mp h with q | q
    · rcases aTo_mem q with w | ⟨l, w1, w2⟩
      · exact Or.inl w
      · exact Or.inr ⟨l, by omega, w2⟩
    · rcases List.mem_cons.mp q with w | w
      · rw [w]
        exact Or.inl ⟨rfl, by show (if k = 0 then 40 else 44) < 3000; split <;> omega⟩
      · exact Or.inr ⟨k, by omega, List.mem_singleton.mp w⟩
theorem stp_good (hW : WE E) (hr : ∀ x, x < E.length → g x < E.length ∧ g (g x) = g x) (hcut : ∀ x, x < E.length → ∀ k, k < nA E x → en E (g (ch E x k)) ≠ (-2, 0)) {i : It} {N : List Nat} (hi : goodI E g i) : ∀ j ∈ (stp E g i N).2.1, goodI E g j := by
  have hch : ∀ c k kd, c < E.length → k < nA E c → kd < 2 → goodI E g (kd, ch E c k) := fun c k kd h1 h2 h3 => Or.inr ⟨h3, ch_lt hW h1 h2, (hr _ (ch_lt hW h1 h2)).1, hcut c h1 k h2⟩
  intro j hj
  rcases hi with ⟨q, -⟩ | ⟨q, q1, q2, q3⟩
  · unfold stp at hj
    rw [if_neg (by omega), if_neg (by omega)] at hj
    exact absurd hj (List.not_mem_nil)
  · have lst : en E (g i.2) = (2, 1) → j ∈ ([(0, ch E (g i.2) 0), (1, ch E (g i.2) 1)] : List It) → goodI E g j := fun e h => by
      have hn2 : nA E (g i.2) = 2 := by unfold nA; rw [e]; rfl
      rcases List.mem_cons.mp h with w | w
      · rw [w]; exact hch _ 0 0 q2 (by omega) (by decide)
      · rw [List.mem_singleton.mp w]; exact hch _ 1 1 q2 (by omega) (by decide)
    unfold stp at hj
    by_cases w : i.1 = 0
    · rw [if_pos w] at hj
      split at hj
      · exact absurd hj (List.not_mem_nil)
      · split at hj
        · exact absurd hj (List.not_mem_nil)
        · split at hj
          · next e => exact lst e hj
          · have hj : j ∈ aIt E (g i.2) (nA E (g i.2)) := hj
            by_cases z : nA E (g i.2) = 0
            · unfold aIt at hj
              rw [if_pos z] at hj
              exact absurd hj (List.not_mem_nil)
            · rw [aIt_eq E _ _ z] at hj
              rcases List.mem_append.mp hj with y | y
              · rcases aTo_mem y with v | ⟨l, v1, v2⟩
                · exact Or.inl v
                · rw [v2]; exact hch _ l 0 q2 v1 (by decide)
              · rw [List.mem_singleton.mp y]; exact Or.inl ⟨rfl, by decide⟩
    · rw [if_neg w, if_pos (by omega)] at hj
      split at hj
      · exact absurd hj (List.not_mem_nil)
      · split at hj
        · next e => exact lst e hj
        · rcases List.mem_cons.mp hj with y | y
          · rw [y]
            exact Or.inr ⟨by show 0 < 2; decide, q2, by show g (g i.2) < _; rw [(hr _ q1).2]; exact q2, by show en E (g (g i.2)) ≠ _; rw [(hr _ q1).2]; exact q3⟩
          · rw [List.mem_singleton.mp y]; exact Or.inl ⟨rfl, by decide⟩
end GD
