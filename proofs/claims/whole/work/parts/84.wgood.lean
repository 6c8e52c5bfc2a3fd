/-! answer: good entries stay good -/
section GD
variable {E : List Sy} {g : Nat → Nat} {D : Nat}
theorem Ms_ge (hD : ∀ x, x < E.length → Dp E g D x) : ∀ {st : List It}, (∀ i ∈ st, goodI E g i) → Ms E g D 0 1 0 0 st + Ms E g D 0 0 1 0 st ≤ Ms E g D 1 0 0 0 st
  | [], _ => Nat.le_refl _
  | i :: st, h => by
    have ih := Ms_ge hD (st := st) (fun j hj => h j (List.mem_cons_of_mem _ hj))
    rw [Ms_cons, Ms_cons, Ms_cons]
    rcases h i List.mem_cons_self with ⟨q, -⟩ | ⟨q, q1, -⟩
    · unfold ms
      rw [if_neg (by omega), if_neg (by omega), if_neg (by omega), if_neg (by omega), if_neg (by omega), if_neg (by omega)]
      omega
    · have hp := TL_pos (hD _ q1)
      unfold ms
      by_cases w : i.1 = 0
      · rw [if_pos w, if_pos w, if_pos w]
        omega
      · rw [if_neg w, if_neg w, if_neg w, if_pos (by omega), if_pos (by omega), if_pos (by omega)]
        omega
end GD
