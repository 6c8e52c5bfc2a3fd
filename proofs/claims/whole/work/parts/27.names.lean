/-! the pure part: the class's table of names, its variables -/
/-- the array holds the list -/
def arN (f : Int → Nat) (l : List Nat) : Prop := ∀ i : Nat, i < l.length → f (i : Int) = l.getD i 0
theorem arN_add {f : Int → Nat} {l : List Nat} (h : arN f l) (w : Nat) : arN (updN f (l.length : Int) w) (l ++ [w]) := fun i hi => by
  simp only [List.length_append, List.length_singleton] at hi
  by_cases he : i = l.length
  · subst he
    rw [updN_s]
    simp [List.getD_eq_getElem?_getD]
  · rw [updN_n (by omega), h i (by omega)]
    simp only [List.getD_eq_getElem?_getD]
    rw [List.getElem?_append_left (by omega)]
def nmOk (nm : Ob) (NL : List Nat) : Prop := nm.1 1 = (NL.length : Int) ∧ NL.length ≤ 32 ∧ arN (nm.2.2.2 0) NL
/-- the place of the first w in a list, if there is one -/
def firstAt (l : List Nat) (w j : Nat) : Prop := j < l.length ∧ l.getD j 0 = w ∧ ∀ i, i < j → l.getD i 0 ≠ w
def notIn (l : List Nat) (w : Nat) : Prop := ∀ i, i < l.length → l.getD i 0 ≠ w
theorem first_or (l : List Nat) (w : Nat) : (∃ j, firstAt l w j) ∨ notIn l w := by
  by_cases h : ∃ j, j < l.length ∧ l.getD j 0 = w
  · obtain ⟨j, ⟨h1, h2⟩, h3⟩ := pk_least _ h
    exact Or.inl ⟨j, h1, h2, fun i hi z => h3 i hi ⟨by omega, z⟩⟩
  · exact Or.inr (fun i hi z => h ⟨i, hi, z⟩)
theorem first_uniq {l : List Nat} {w i j : Nat} (h : firstAt l w i) (g : firstAt l w j) : i = j := by
  rcases Nat.lt_trichotomy i j with q | q | q
  · exact absurd h.2.1 (g.2.2 i q)
  · exact q
  · exact absurd g.2.1 (h.2.2 j q)
theorem sp_Nam_symbolOf {w : Nat} {nm : Ob} {NL : List Nat} {K : Int → Ob → Prop} (h : nmOk nm NL) (hin : ∀ j, firstAt NL w j → K ((3 + (j : Int)) * 8) nm) (hnew : notIn NL w → NL.length < 32 → K ((3 + (NL.length : Int)) * 8) (sI (sL nm 0 (NL.length : Int) w) 1 ((NL.length : Int) + 1))) (hfull : notIn NL w → NL.length = 32 → K 24 (sI nm 2 1)) : wp_Nam_symbolOf w nm K := by
  obtain ⟨h1, h2, h3⟩ := h
  have loop : ∀ (n k : Nat), k ≤ NL.length → NL.length + 1 ≤ n + k → (∀ i, i < k → NL.getD i 0 ≠ w) → Nam_symbolOf_2 n w (k : Int) nm K := by
    intro n
    induction n with
    | zero => intro k a b; omega
    | succ n ih =>
      intro k a b c
      refine ⟨fun q => ?_, fun q => ⟨⟨by omega, by omega⟩, fun e => ?_, fun e => ⟨⟨by omega, by omega⟩, ?_⟩⟩⟩
      · have hk : k = NL.length := by omega
        subst hk
        refine ⟨fun z => ⟨fun z2 => absurd h1.symm z2, fun _ => ⟨⟨by omega, by omega⟩, ⟨by omega, by omega⟩, ⟨by omega, by omega⟩, ⟨by omega, by omega⟩, ?_⟩⟩, fun z => ?_⟩
        · rw [h1]
          exact hnew c (by omega)
        · exact ⟨⟨by decide, by decide⟩, ⟨by decide, by decide⟩, hfull c (by omega)⟩
      · have hk : k < NL.length := by omega
        have hf : firstAt NL w k := ⟨hk, by rw [← h3 k hk]; exact e, c⟩
        refine ⟨fun z => ⟨fun z2 => ⟨⟨by omega, by omega⟩, ⟨by omega, by omega⟩, hin k hf⟩, fun z2 => by omega⟩, fun z => by omega⟩
      · have hk : k < NL.length := by omega
        have := ih (k + 1) (by omega) (by omega) (fun i hi => by
          by_cases hik : i = k
          · subst hik
            rw [← h3 i hk]; exact e
          · exact c i (by omega))
        exact this
  exact ⟨NL.length + 1, loop _ 0 (by omega) (by omega) (fun i hi => by omega)⟩
/-- the named variables of a part, as long as they are not too many -/
def vrOk (rd : Ob) (VL : List Nat) : Prop := rd.1 0 = (VL.length : Int) ∧ VL.length ≤ 8 ∧ arN (rd.2.2.2 0) VL
theorem or01 {a b : Int} (ha : a = 0 ∨ a = 1) (hb : b = 0 ∨ b = 1) : (0 : Int) ≤ a ∧ (0 : Int) ≤ b ∧ (((Int.toNat a ||| Int.toNat b : Nat) : Int) = 0 ∨ ((Int.toNat a ||| Int.toNat b : Nat) : Int) = 1) := by
  rcases ha with rfl | rfl <;> rcases hb with rfl | rfl <;> decide
/-- a bit that is set stays so -/
def orI (a b : Int) : Int := ((Int.toNat a ||| Int.toNat b : Nat) : Int)
theorem orI_01 {a b : Int} (ha : a = 0 ∨ a = 1) (hb : b = 0 ∨ b = 1) : (orI a b = 0 ∨ orI a b = 1) ∧ (orI a b = 0 ↔ a = 0 ∧ b = 0) := by
  rcases ha with rfl | rfl <;> rcases hb with rfl | rfl <;> decide
/-- variableSymbol of a word that isn't _ -/
theorem sp_variable {w : Nat} {rd : Ob} {VL : List Nat} {K : Int → Ob → Prop} (hw : w ≠ 95) (h : vrOk rd VL) (hl : 0 ≤ rd.1 1 ∧ rd.1 1 ≤ 100000) (hm : rd.1 5 = 0 ∨ rd.1 5 = 1) (hin : ∀ j, firstAt VL w j → K (-2 - (j : Int)) rd) (hnew : notIn VL w → ∀ bb : Int, (bb = 0 ∨ bb = 1) → (bb = 1 ↔ 8 < (VL.length : Int) + 1 + rd.1 1) → K (-2 - (VL.length : Int)) (if VL.length < 8 then sI (sL (sI rd 5 (orI (rd.1 5) bb)) 0 (VL.length : Int) w) 0 ((VL.length : Int) + 1) else sI rd 5 (orI (rd.1 5) bb))) : wp_Rd_variableSymbol w rd K := by
  obtain ⟨h1, h2, h3⟩ := h
  have loop : ∀ (n k : Nat), k ≤ VL.length → VL.length + 1 ≤ n + k → (∀ i, i < k → VL.getD i 0 ≠ w) → Rd_variableSymbol_50 n w (k : Int) rd K := by
    intro n
    induction n with
    | zero => intro k a b; omega
    | succ n ih =>
      intro k a b c
      refine ⟨fun q => ?_, fun q => ⟨⟨by omega, by omega⟩, fun e => ?_, fun e => ⟨⟨by omega, by omega⟩, ?_⟩⟩⟩
      · have hk : k = VL.length := by omega
        subst hk
        have fin : ∀ bb : Int, (bb = 0 ∨ bb = 1) → (bb = 1 ↔ 8 < (VL.length : Int) + 1 + rd.1 1) → Rd_variableSymbol_106 w (VL.length : Int) bb (rd.1 5) rd K := fun bb hb hbb => by
          have ho := or01 hm hb
          have hK := hnew c bb hb hbb
          refine ⟨ho.1, ho.2.1, ho.2.2, fun z => ⟨⟨by omega, by omega⟩, ?_⟩, fun z => ⟨⟨by omega, by omega⟩, ⟨by omega, by omega⟩, ⟨by omega, by omega⟩, ?_⟩⟩
          · rw [if_neg (by omega)] at hK
            exact hK
          · rw [if_pos (by omega)] at hK
            rw [h1]
            exact hK
        refine ⟨fun z => absurd h1.symm z, fun _ => ⟨⟨by omega, by omega⟩, ⟨by omega, by omega⟩, fun z => fin 0 (Or.inl rfl) (by omega), fun z => fin 1 (Or.inr rfl) (by omega)⟩⟩
      · have hk : k < VL.length := by omega
        have hf : firstAt VL w k := ⟨hk, by rw [← h3 k hk]; exact e, c⟩
        exact ⟨fun _ => ⟨⟨by omega, by omega⟩, hin k hf⟩, fun z => by omega⟩
      · have hk : k < VL.length := by omega
        exact ih (k + 1) (by omega) (by omega) (fun i hi => by
          by_cases hik : i = k
          · subst hik
            rw [← h3 i hk]; exact e
          · exact c i (by omega))
  exact ⟨fun _ => ⟨VL.length + 1, loop _ 0 (by omega) (by omega) (fun i hi => by omega)⟩, fun z => absurd z hw⟩
/-- variableSymbol of _ -/
theorem sp_lone {rd : Ob} {K : Int → Ob → Prop} (h0 : 0 ≤ rd.1 0 ∧ rd.1 0 ≤ 8) (hl : 0 ≤ rd.1 1 ∧ rd.1 1 ≤ 100000) (hm : rd.1 5 = 0 ∨ rd.1 5 = 1) (hK : ∀ bb : Int, (bb = 0 ∨ bb = 1) → (bb = 1 ↔ 8 < rd.1 0 + (rd.1 1 + 1)) → K (-1) (sI (sI rd 1 (rd.1 1 + 1)) 5 (orI (rd.1 5) bb))) : wp_Rd_variableSymbol 95 rd K := by
  refine ⟨fun z => absurd rfl z, fun _ => ⟨⟨by omega, by omega⟩, ⟨by omega, by omega⟩, fun z => ?_, fun z => ?_⟩⟩
  · have ho := or01 hm (Or.inl rfl : (0 : Int) = 0 ∨ (0 : Int) = 1)
    exact ⟨ho.1, ho.2.1, ho.2.2, hK 0 (Or.inl rfl) (by omega)⟩
  · have ho := or01 hm (Or.inr rfl : (1 : Int) = 0 ∨ (1 : Int) = 1)
    exact ⟨ho.1, ho.2.1, ho.2.2, hK 1 (Or.inr rfl) (by omega)⟩
