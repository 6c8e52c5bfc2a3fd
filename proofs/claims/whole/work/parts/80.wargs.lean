/-! answer: the class puts the arguments by -/
/-- the arguments from the first to the k-th, each behind its letter -/
def aTo (E : List Sy) (c k : Nat) : List It := ((List.range k).map (fun j => [((2, if j = 0 then 40 else 44) : It), (0, ch E c j)])).flatten
theorem aTo_s (E : List Sy) (c k : Nat) : aTo E c (k + 1) = aTo E c k ++ [(2, if k = 0 then 40 else 44), (0, ch E c k)] := by
  unfold aTo
  rw [List.range_succ, List.map_append, List.flatten_append]
  rfl
theorem aTo_len (E : List Sy) (c : Nat) : ∀ k, (aTo E c k).length = 2 * k
  | 0 => rfl
  | k + 1 => by rw [aTo_s, List.length_append, aTo_len E c k]; show 2 * k + 2 = _; omega
theorem aIt_eq (E : List Sy) (c n : Nat) (h : n ≠ 0) : aIt E c n = aTo E c n ++ [(2, 41)] := if_neg h
theorem sp_cargs {NL : List Nat} {E : List Sy} {te wr : Ob} {N : List Nat} {out : List Int} {st : List It} {c : Nat} {K : Ob → Prop} (hW : WE E) (hC : CW NL E te) (hx : c < E.length) (h4 : nA E c ≤ 4) (h : CWr wr N out st) (hs : st.length + 2 * nA E c + 1 ≤ 512) (hK : ∀ wr', CWr wr' N out (aIt E c (nA E c) ++ st) → wfr wr wr' → K wr') : wp_Wri_pushArguments (c : Int) (nA E c : Int) te wr K := by
  have hE := hC.2.1
  have loop : ∀ (k : Nat) (st' : List It) (wr' : Ob), k ≤ nA E c → st'.length + 2 * k ≤ 512 → CWr wr' N out st' → wfr wr wr' → (∀ wr2, CWr wr2 N out (aTo E c k ++ st') → wfr wr wr2 → K wr2) → Wri_pushArguments_15 (k + 1) (c : Int) ((k : Int) - 1) te wr' K := by
    intro k
    induction k with
    | zero =>
      intro st' wr' _ _ h1 h2 h3
      exact ⟨fun _ => h3 wr' h1 h2, fun z => by omega⟩
    | succ k ih =>
      intro st' wr' hk hl h1 h2 h3
      rw [show ((k + 1 : Nat) : Int) - 1 = (k : Int) by omega]
      have hch := ch_lt hW hx (show k < nA E c by omega)
      refine ⟨fun z => by omega, fun _ => sp_arg hW hC hx (by omega) (by omega) ?_⟩
      refine sp_cpush (i := (0, ch E c k)) h1 (by omega) ⟨by show 0 < 4; decide, by show ch E c k < 3000; omega⟩ (fun wr3 c3 f3 => ?_)
      have nx : ∀ v : Nat, v < 3000 → v = (if k = 0 then 40 else 44) → wp_Wri_push 2 (v : Int) wr3 (fun wr_3 => R32 ((k : Int) + (-1)) ∧ Wri_pushArguments_15 (k + 1) (c : Int) ((k : Int) + (-1)) te wr_3 K) := fun v hv e => by
        refine sp_cpush (i := (2, v)) c3 (by rw [List.length_cons]; omega) ⟨by show 2 < 4; decide, hv⟩ (fun wr4 c4 f4 => ⟨⟨by omega, by omega⟩, ?_⟩)
        refine ih _ wr4 (by omega) (by rw [List.length_cons, List.length_cons]; omega) c4 (wfr_trans h2 (wfr_trans f3 f4)) (fun wr5 c5 f5 => h3 wr5 ?_ f5)
        rw [aTo_s, List.append_assoc]
        rw [e] at c5
        exact c5
      exact ⟨fun z => nx 44 (by decide) (by rw [if_neg (by omega)]), fun z => nx 40 (by decide) (by rw [if_pos (by omega)])⟩
  refine ⟨fun z => ?_, fun z => ?_⟩
  · have e0 : nA E c = 0 := by omega
    rw [e0] at hK ⊢
    refine ⟨⟨by decide, by decide⟩, 1, ?_⟩
    exact loop 0 st wr (Nat.zero_le _) (by omega) h (wfr_refl wr) (fun wr2 c2 f2 => hK wr2 c2 f2)
  · refine sp_cpush (i := (2, 41)) h (by omega) ⟨by decide, by decide⟩ (fun wr3 c3 f3 => ⟨⟨by omega, by omega⟩, nA E c + 1, ?_⟩)
    refine loop (nA E c) _ wr3 (Nat.le_refl _) (by rw [List.length_cons]; omega) c3 f3 (fun wr4 c4 f4 => hK wr4 ?_ f4)
    rw [aIt_eq E c _ (by omega), List.append_assoc]
    exact c4
theorem sp_clist {NL : List Nat} {E : List Sy} {te wr : Ob} {N : List Nat} {out : List Int} {st : List It} {c : Nat} {K : Ob → Prop} (hW : WE E) (hC : CW NL E te) (hx : c < E.length) (h2 : nA E c = 2) (h : CWr wr N out st) (hs : st.length + 2 ≤ 512) (hK : ∀ wr', CWr wr' N out ((0, ch E c 0) :: (1, ch E c 1) :: st) → wfr wr wr' → K wr') : wp_Wri_pushList (c : Int) te wr K := by
  have hE := hC.2.1
  have h0 := ch_lt hW hx (show 0 < nA E c by omega)
  have h1 := ch_lt hW hx (show 1 < nA E c by omega)
  refine sp_arg (k := 1) hW hC hx (by omega) (by decide) ?_
  refine sp_cpush (i := (1, ch E c 1)) h (by omega) ⟨by show 1 < 4; decide, by show ch E c 1 < 3000; omega⟩ (fun wr3 c3 f3 => ?_)
  refine sp_arg (k := 0) hW hC hx (by omega) (by decide) ?_
  exact sp_cpush (i := (0, ch E c 0)) c3 (by rw [List.length_cons]; omega) ⟨by show 0 < 4; decide, by show ch E c 0 < 3000; omega⟩ (fun wr4 c4 f4 => hK wr4 c4 (wfr_trans f3 f4))
