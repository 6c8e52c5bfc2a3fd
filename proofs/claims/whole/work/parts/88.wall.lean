/-! answer: all terms, the class -/
def ltr (l : List Int) : Prop := ∀ c ∈ l, 0 ≤ c ∧ c < 65536
theorem ltr_app {a b : List Int} (h : ltr a) (k : ltr b) : ltr (a ++ b) := fun c hc => by
  rcases List.mem_append.mp hc with w | w
  · exact h c w
  · exact k c w
theorem ltr_1 {k : Int} (h1 : 0 ≤ k) (h2 : k < 65536) : ltr [k] := fun c hc => by rw [List.mem_singleton.mp hc]; exact ⟨h1, h2⟩
theorem ltr_2 {k : Int} {l : List Int} (h1 : 0 ≤ k) (h2 : k < 65536) (h : ltr l) : ltr (k :: l) := fun c hc => by
  rcases List.mem_cons.mp hc with e | e
  · rw [e]; exact ⟨h1, h2⟩
  · exact h c e
section WA
variable {NL : List Nat} {E : List Sy} {g : Nat → Nat} {D : Nat}
theorem stp_ltr {i : It} {N : List Nat} (hi : goodI E g i) (hN : (stp E g i N).2.2.length ≤ 100) : ltr (stp E g i N).1 := by
  rcases hi with ⟨q, q1⟩ | ⟨q, -⟩
  · unfold stp
    rw [if_neg (by omega), if_neg (by omega)]
    exact ltr_1 (by omega) (by omega)
  · unfold stp at hN ⊢
    by_cases w : i.1 = 0
    · rw [if_pos w] at hN ⊢
      by_cases w1 : (en E (g i.2)).1 = -1
      · rw [if_pos w1] at hN ⊢
        have hN : (nuN N (g i.2)).length ≤ 100 := hN
        have hlt := (idx_lt (nuN_mem N (g i.2))).1
        show ltr (vtx (idx (nuN N (g i.2)) (g i.2)))
        generalize idx (nuN N (g i.2)) (g i.2) = t at hlt
        have ht : t < 100 := by omega
        unfold vtx
        split
        · exact ltr_2 (by decide) (by decide) (ltr_1 (by omega) (by omega))
        · exact ltr_2 (by decide) (by decide) (ltr_2 (by omega) (by omega) (ltr_1 (by omega) (by omega)))
      · rw [if_neg w1]
        split
        · exact ltr_2 (by decide) (by decide) (ltr_1 (by decide) (by decide))
        · split
          · exact ltr_1 (by decide) (by decide)
          · show ltr (wdL (en E (g i.2)).2)
            intro c hc
            unfold wdL at hc
            obtain ⟨h1, -⟩ := List.mem_filter.mp hc
            obtain ⟨j, -, e⟩ := List.mem_map.mp h1
            rw [← e]
            have := Nat.and_le_right (n := (en E (g i.2)).2 / 2 ^ (8 * j)) (m := 255)
            omega
    · rw [if_neg w, if_pos (by omega)]
      split
      · exact ltr_1 (by decide) (by decide)
      · split
        · exact ltr_1 (by decide) (by decide)
        · exact ltr_1 (by decide) (by decide)
theorem runC_ltr : ∀ (n : Nat) (st : List It) (N : List Nat) (out out' : List Int) (N' : List Nat), runC E g n st N out out' N' → ltr out → ltr out'
  | 0, _, _, _, _, _, h, _ => absurd h id
  | n + 1, [], _, _, _, _, h, k => by rw [h.1]; exact k
  | n + 1, i :: st, N, out, out', N', h, k => by
    obtain ⟨a1, -, -, -, -, -, -, a8, a9⟩ := h
    exact runC_ltr n _ _ _ _ _ a9 (ltr_app k (stp_ltr a1 a8))
theorem runC_shift : ∀ (n : Nat) (st : List It) (N : List Nat) (o1 o2 out' : List Int) (N' : List Nat), runC E g n st N (o1 ++ o2) out' N' → ∃ o3, out' = o1 ++ o3 ∧ runC E g n st N o2 o3 N'
  | 0, _, _, _, _, _, _, h => absurd h id
  | n + 1, [], _, o1, o2, _, _, h => ⟨o2, h.1, rfl, h.2⟩
  | n + 1, i :: st, N, o1, o2, out', N', h => by
    obtain ⟨a1, a2, a3, a4, a5, a6, a7, a8, a9⟩ := h
    rw [List.append_assoc] at a9
    obtain ⟨o3, e, r⟩ := runC_shift n _ _ o1 _ _ _ a9
    rw [List.length_append] at a2 a3 a4 a5
    exact ⟨o3, e, a1, by omega, fun w => by have := a3 w; omega, by omega, by omega, a6, a7, a8, r⟩
def allC (E : List Sy) (g : Nat → Nat) : List Nat → List Nat → List Int → List (List Int) → List Nat → Prop
  | [], N, _, ts, N' => ts = [] ∧ N' = N
  | x :: xs, N, out, ts, N' => ∃ t N1 ts', ts = t :: ts' ∧ runC E g 1000 [(0, x)] N out (out ++ t) N1 ∧ runC E g 1000 [(0, x)] N [] t N1 ∧ allC E g xs N1 (out ++ t) ts' N'
theorem allC_len : ∀ {xs N : List Nat} {out : List Int} {ts : List (List Int)} {N' : List Nat}, allC E g xs N out ts N' → ts.length = xs.length
  | [], _, _, _, _, h => by rw [h.1]; rfl
  | x :: xs, N, out, ts, N', h => by
    obtain ⟨t, N1, ts', rfl, -, -, h⟩ := h
    rw [List.length_cons, List.length_cons, allC_len h]
theorem allC_ltr : ∀ {xs N : List Nat} {out : List Int} {ts : List (List Int)} {N' : List Nat}, allC E g xs N out ts N' → ltr ts.flatten
  | [], _, _, _, _, h => by rw [h.1]; exact fun c hc => absurd hc (List.not_mem_nil)
  | x :: xs, N, out, ts, N', h => by
    obtain ⟨t, N1, ts', rfl, -, h1, h⟩ := h
    rw [List.flatten_cons]
    exact ltr_app (runC_ltr _ _ _ _ _ _ h1 (fun c hc => absurd hc (List.not_mem_nil))) (allC_ltr h)
theorem allC_of (hW : WE E) (hO : OkE NL E) (hr : ∀ x, x < E.length → g x < E.length ∧ g (g x) = g x) (hD : ∀ x, x < E.length → Dp E g D x) (hcut : ∀ x, x < E.length → ∀ k, k < nA E x → en E (g (ch E x k)) ≠ (-2, 0)) (hgg : ∀ x, x < E.length → (TL E g D (g x)).length = (TL E g D x).length) : ∀ (xs N : List Nat) (out : List Int), (∀ x ∈ xs, x < E.length ∧ en E (g x) ≠ (-2, 0)) → 10 * tot E g D xs + out.length ≤ 1200 → 3 * tot E g D xs + xs.length + 4 * N.length ≤ 368 → ∃ ts N', allC E g xs N out ts N' ∧ ts.flatten.length + out.length ≤ 1200
  | [], N, out, _, h1, _ => ⟨[], N, ⟨rfl, rfl⟩, by show 0 + out.length ≤ 1200; omega⟩
  | x :: xs, N, out, hx, h1, h2 => by
    obtain ⟨x1, x2⟩ := hx x List.mem_cons_self
    have et : tot E g D (x :: xs) = (TL E g D x).length + tot E g D xs := by unfold tot; rw [List.map_cons, List.sum_cons]
    rw [et] at h1 h2
    rw [List.length_cons] at h2
    have m1 : Ms E g D 1 0 0 0 [(0, x)] = (TL E g D x).length := by rw [Ms_cons, Ms_nil, ms_0]; omega
    have m2 : Ms E g D 0 1 0 0 [(0, x)] = 1 := by rw [Ms_cons, Ms_nil, ms_0]; omega
    have m3 : Ms E g D 0 0 1 0 [(0, x)] = 0 := by rw [Ms_cons, Ms_nil, ms_0]; omega
    have m4 : Ms E g D 0 0 0 1 [(0, x)] = 0 := by rw [Ms_cons, Ms_nil, ms_0]; omega
    have key := runC_of hW hO hr hD hcut hgg 1000 [(0, x)] N out (fun i hi => by
      rw [List.mem_singleton.mp hi]
      exact Or.inr ⟨by show 0 < 2; decide, x1, (hr x x1).1, x2⟩)
    rw [m1, m2, m3, m4] at key
    obtain ⟨out', N1, r1, r2, r3⟩ := key (by omega) (by omega) (by omega) (by omega)
    have r1' := r1
    rw [← List.append_nil out] at r1'
    obtain ⟨t, e, r4⟩ := runC_shift 1000 _ _ out [] _ _ r1'
    rw [e] at r1 r2
    rw [List.length_append] at r2
    obtain ⟨ts, N', s1, s2⟩ := allC_of hW hO hr hD hcut hgg xs N1 (out ++ t) (fun y hy => hx y (List.mem_cons_of_mem _ hy)) (by rw [List.length_append]; omega) (by omega)
    rw [List.length_append] at s2
    exact ⟨t :: ts, N', ⟨t, N1, ts, rfl, r1, r4, s1⟩, by rw [List.flatten_cons, List.length_append]; omega⟩
end WA
/-- the class's rows hold these texts -/
def WOk (ts : List (List Int)) (wr : Ob) : Prop := (∀ u : Nat, u < ts.length → wr.2.1 1 (u : Int) = ((ts.take (u + 1)).flatten.length : Int)) ∧ ∀ j : Nat, j < ts.flatten.length → wr.2.1 0 (j : Int) = ts.flatten.getD j 0
def CWo (wr : Ob) (N : List Nat) (out : List Int) : Prop := wr.1 0 = (out.length : Int) ∧ (∀ j : Nat, j < out.length → wr.2.1 0 (j : Int) = out.getD j 0) ∧ wr.1 1 = (N.length : Int) ∧ ∀ j : Nat, j < N.length → wr.2.1 2 (j : Int) = (N.getD j 0 : Int)
theorem sp_wall {NL : List Nat} {E : List Sy} {rp dp : Nat → Nat} {chl AL : List Nat} {nm te se : Ob} {K : Ob → Prop} (hn : nmKp nm NL) (hW : WE E) (hO : OkE NL E) (hT : TeS NL E te rp dp chl) (hcl : chl.length + 1 ≤ 2440) (h8 : AL.length ≤ 8) (hse : ∀ v : Nat, v < AL.length → se.2.1 0 (v : Int) = (AL.getD v 0 : Int)) (hlt : ∀ x ∈ AL, x < E.length) : ∀ (xs A : List Nat) (ts0 ts : List (List Int)) (N N' : List Nat) (wr : Ob), AL = A ++ xs → A.length = ts0.length → CWo wr N ts0.flatten → (∀ u : Nat, u < ts0.length → wr.2.1 1 (u : Int) = ((ts0.take (u + 1)).flatten.length : Int)) → allC E rp xs N ts0.flatten ts N' → (∀ wr', WOk (ts0 ++ ts) wr' → wr'.1 3 = 1 → K wr') → Wri_writeAll_6 (xs.length + 1) (AL.length : Int) (A.length : Int) nm te se wr K
  | [], A, ts0, ts, N, N', wr, e, el, hc, hu, ha, hK => by
    rw [List.append_nil] at e
    subst e
    obtain ⟨rfl, -⟩ := ha
    rw [List.append_nil] at hK
    exact ⟨fun _ => hK _ ⟨hu, hc.2.1⟩ rfl, fun z => absurd (Int.le_refl _) z⟩
  | x :: xs, A, ts0, ts, N, N', wr, e, el, hc, hu, ha, hK => by
    obtain ⟨t, N1, ts', rfl, r1, r2, r3⟩ := ha
    have hl : AL.length = A.length + (xs.length + 1) := by rw [e, List.length_append, List.length_cons]
    have hx : AL.getD A.length 0 = x := by
      rw [e, List.getD_eq_getElem?_getD, List.getElem?_append_right (Nat.le_refl _), Nat.sub_self]
      rfl
    have hxE : x < E.length := hlt x (by rw [e]; exact List.mem_append_right _ List.mem_cons_self)
    have hE := hT.1.2.1
    refine ⟨fun z => by omega, fun _ => ⟨fun z => by omega, fun _ => ⟨⟨by omega, by omega⟩, ?_⟩⟩⟩
    rw [hse A.length (by omega), hx]
    obtain ⟨g0, g1, g2, g3⟩ := hc
    have hc0 : CWr (sI wr 2 0) N ts0.flatten [] := ⟨g0, g1, g2, g3, rfl, trivial⟩
    refine sp_cpush (i := (0, x)) hc0 (by decide) ⟨by show 0 < 4; decide, by show x < 3000; omega⟩ (fun wr1 c1 f1 => ⟨1000, ?_⟩)
    refine sp_cloop (wr0 := wr1) hn hW hO hT hcl (fun wr2 c2 f2 => ?_) 1000 0 [(0, x)] N ts0.flatten wr1 r1 (by decide) c1 (wfr_refl wr1)
    refine ⟨⟨by omega, by omega⟩, ⟨by omega, by omega⟩, ?_⟩
    have ef : wr2.2.1 1 = wr.2.1 1 := (wfr_trans f1 f2).2
    have efl : (ts0 ++ [t]).flatten = ts0.flatten ++ t := by rw [List.flatten_append, List.flatten_singleton]
    obtain ⟨k0, k1, k2, k3, k4, k5⟩ := c2
    have key := sp_wall hn hW hO hT hcl h8 hse hlt xs (A ++ [x]) (ts0 ++ [t]) ts' N1 N' (sA wr2 1 (A.length : Int) (wr2.1 0)) (by rw [e, List.append_assoc]; rfl) (by rw [List.length_append, List.length_append, el]; rfl) (by rw [efl]; exact ⟨k0, k1, k2, k3⟩) (fun u hu' => ?_) (by rw [efl]; exact r3) (fun wr' w1 w2 => hK wr' (by rw [List.append_assoc] at w1; exact w1) w2)
    · rw [List.length_append, List.length_singleton] at key
      rw [show (A.length : Int) + 1 = ((A.length + 1 : Nat) : Int) by omega]
      exact key
    · show updI (wr2.2.1 1) (A.length : Int) (wr2.1 0) (u : Int) = _
      unfold updI
      rw [List.length_append, List.length_singleton] at hu'
      by_cases q : u = A.length
      · rw [if_pos (by omega), List.take_of_length_le (by rw [List.length_append, List.length_singleton]; omega), efl]
        exact k0
      · rw [if_neg (by omega), ef, List.take_append_of_le_length (by omega)]
        exact hu u (by omega)
/-- what a letter's place holds -/
def ansL (t : List Int) (z : Int) : Int := if z < 0 ∨ (t.length : Int) ≤ z then 0 else t.getD z.toNat 0
theorem sp_letter {ts : List (List Int)} {wr : Ob} {v : Nat} {z : Int} {K : Int → Prop} (hw : WOk ts wr) (hv : v < ts.length) (h8 : ts.length ≤ 8) (hl : ts.flatten.length ≤ 1200) (hlt : ltr ts.flatten) (hz : R32 z) (hK : 0 ≤ ansL (ts.getD v []) z → ansL (ts.getD v []) z < 65536 → K (ansL (ts.getD v []) z)) : wp_Wri_letter (v : Int) z wr (fun r => (0 ≤ r ∧ r < 65536) ∧ K r) := by
  obtain ⟨w1, w2⟩ := hw
  have eg : ts.getD v [] = ts[v] := by rw [List.getD_eq_getElem?_getD, List.getElem?_eq_getElem hv]; rfl
  have es : ts = ts.take v ++ ts.getD v [] :: ts.drop (v + 1) := by
    rw [eg, ← List.drop_eq_getElem_cons hv, List.take_append_drop]
  have et : (ts.take (v + 1)).flatten.length = (ts.take v).flatten.length + (ts.getD v []).length := by
    rw [List.take_add_one, List.getElem?_eq_getElem hv, eg, List.flatten_append, List.length_append]
    show _ + ([ts[v]].flatten).length = _
    rw [List.flatten_singleton]
  generalize ts.getD v [] = t at *
  have ef : ts.flatten = (ts.take v).flatten ++ (t ++ (ts.drop (v + 1)).flatten) := by
    have := congrArg List.flatten es
    rw [List.flatten_append, List.flatten_cons] at this
    exact this
  have efl : (ts.take v).flatten.length + (t.length + (ts.drop (v + 1)).flatten.length) = ts.flatten.length := by
    have := congrArg List.length ef
    rw [List.length_append, List.length_append] at this
    exact this.symm
  have e1 := w1 v hv
  rw [et] at e1
  have z0 : ansL t z = 0 → (0 ≤ (0 : Int) ∧ (0 : Int) < 65536) ∧ K 0 := fun e => by rw [e] at hK; exact ⟨⟨by decide, by decide⟩, hK (by decide) (by decide)⟩
  have k28 : Wri_letter_28 (v : Int) z ((ts.take v).flatten.length : Int) wr (fun r => (0 ≤ r ∧ r < 65536) ∧ K r) := by
    refine ⟨fun q => z0 (if_pos (Or.inl q)), fun q => ⟨⟨by omega, by omega⟩, ?_, fun q2 => z0 (if_pos (Or.inr ?_)), fun q2 => ?_⟩⟩
    · rw [e1]; exact ⟨by omega, by omega⟩
    · rw [e1] at q2; omega
    · rw [e1] at q2
      have hzn : z.toNat < t.length := by omega
      have ez : ((ts.take v).flatten.length : Int) + z = (((ts.take v).flatten.length + z.toNat : Nat) : Int) := by omega
      have e3 : wr.2.1 0 (((ts.take v).flatten.length : Int) + z) = ansL t z := by
        rw [ez, w2 _ (by omega)]
        unfold ansL
        rw [if_neg (by omega)]
        conv => lhs; rw [ef]
        rw [List.getD_eq_getElem?_getD, List.getElem?_append_right (by omega), Nat.add_sub_cancel_left, List.getElem?_append_left hzn, ← List.getD_eq_getElem?_getD]
      have e4 : 0 ≤ ansL t z ∧ ansL t z < 65536 := by
        unfold ansL
        rw [if_neg (by omega)]
        refine hlt _ ?_
        rw [ef]
        refine List.mem_append_right _ (List.mem_append_left _ ?_)
        rw [List.getD_eq_getElem?_getD, List.getElem?_eq_getElem hzn]
        exact List.getElem_mem hzn
      refine ⟨⟨by omega, by omega⟩, ⟨by omega, by omega⟩, ?_, ?_, ?_⟩
      · rw [e3]; exact e4
      · rw [e3]; exact e4
      · rw [e3]; exact hK e4.1 e4.2
  refine ⟨fun q => by omega, fun _ => ⟨fun _ => ⟨fun q => ⟨⟨by omega, by omega⟩, ⟨by omega, by omega⟩, ?_⟩, fun q => ?_⟩, fun q => by omega⟩⟩
  · have e5 := w1 (v - 1) (by omega)
    rw [show v - 1 + 1 = v by omega, show ((v - 1 : Nat) : Int) = (v : Int) - 1 by omega] at e5
    rw [e5]
    exact k28
  · have : v = 0 := by omega
    subst this
    rw [List.take_zero] at k28
    exact k28
