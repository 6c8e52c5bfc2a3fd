/-! answer: the measures of the entries -/
def Ms (E : List Sy) (g : Nat → Nat) (D a b0 b1 b2 : Nat) (st : List It) : Nat := (st.map (ms E g D a b0 b1 b2)).sum
section MS
variable {E : List Sy} {g : Nat → Nat} {D a b0 b1 b2 : Nat}
theorem Ms_app (s t : List It) : Ms E g D a b0 b1 b2 (s ++ t) = Ms E g D a b0 b1 b2 s + Ms E g D a b0 b1 b2 t := by
  unfold Ms
  rw [List.map_append, List.sum_append]
theorem Ms_cons (i : It) (t : List It) : Ms E g D a b0 b1 b2 (i :: t) = ms E g D a b0 b1 b2 i + Ms E g D a b0 b1 b2 t := by
  unfold Ms
  rw [List.map_cons, List.sum_cons]
theorem Ms_nil : Ms E g D a b0 b1 b2 [] = 0 := rfl
theorem ms_0 (x : Nat) : ms E g D a b0 b1 b2 (0, x) = a * (TL E g D x).length + b0 := rfl
theorem ms_1 (x : Nat) : ms E g D a b0 b1 b2 (1, x) = a * (TL E g D x).length + b1 := rfl
theorem ms_2 (x : Nat) : ms E g D a b0 b1 b2 (2, x) = b2 := rfl
theorem Ms_aTo (c : Nat) : ∀ k, Ms E g D a b0 b1 b2 (aTo E c k) = k * (b2 + b0) + a * ((List.range k).map (fun j => (TL E g D (ch E c j)).length)).sum
  | 0 => by
    show Ms E g D a b0 b1 b2 [] = _
    rw [Ms_nil, Nat.zero_mul, List.range_zero, List.map_nil, List.sum_nil, Nat.mul_zero]
  | k + 1 => by
    rw [aTo_s, Ms_app, Ms_aTo c k, Ms_cons, Ms_cons, Ms_nil, ms_2, ms_0, List.range_succ, List.map_append, List.sum_append, List.map_cons, List.map_nil, List.sum_cons, List.sum_nil]
    simp only [Nat.mul_add, Nat.add_mul, Nat.one_mul, Nat.add_zero, Nat.mul_zero]
    omega
/-- what a name puts by -/
theorem Ms_aIt {x : Nat} (h : Dp E g D x) : Ms E g D a b0 b1 b2 (aIt E (g x) (nA E (g x))) + a = a * (TL E g D x).length + (if nA E (g x) = 0 then 0 else nA E (g x) * (b2 + b0) + b2) := by
  have hs := TL_step h
  by_cases q : nA E (g x) = 0
  · rw [if_pos q, q]
    rw [q, List.range_zero, List.map_nil, List.sum_nil] at hs
    rw [hs]
    show 0 + a = a * 1 + 0
    omega
  · rw [if_neg q, aIt_eq E _ _ q, Ms_app, Ms_aTo, Ms_cons, Ms_nil, ms_2, hs]
    simp only [Nat.mul_add, Nat.mul_one, Nat.add_zero]
    omega
theorem Ms_list {x : Nat} (h : Dp E g D x) (h2 : nA E (g x) = 2) : Ms E g D a b0 b1 b2 [(0, ch E (g x) 0), (1, ch E (g x) 1)] + a = a * (TL E g D x).length + (b0 + b1) := by
  have hs := TL_step h
  rw [h2] at hs
  have e : ((List.range 2).map (fun k => (TL E g D (ch E (g x) k)).length)).sum = (TL E g D (ch E (g x) 0)).length + (TL E g D (ch E (g x) 1)).length := rfl
  rw [e] at hs
  rw [Ms_cons, Ms_cons, Ms_nil, ms_0, ms_1, hs]
  simp only [Nat.mul_add, Nat.mul_one, Nat.add_zero]
  omega
end MS
