/-! answer: the class writes a term, the rest of a list -/
theorem cs_name {NL : List Nat} {e : Sy} (h0 : 0 ≤ e.1) (h1 : e.2 ≠ 1) (h2 : e.2 ≠ 2) : cs NL e = (3 + (idx NL e.2 : Int)) * 8 + e.1 := by
  unfold cs sC
  rw [if_neg (by omega), if_neg (by omega), if_neg (by omega), if_neg h1, if_neg h2]
theorem sp_word {NL : List Nat} {nm : Ob} {e : Sy} {K : Nat → Prop} (hn : nmKp nm NL) (h0 : 0 ≤ e.1) (h4 : e.1 ≤ 4) (h1 : e.2 ≠ 1) (h2 : e.2 ≠ 2) (hm : e.2 ∈ NL) (hK : K e.2) : wp_Nam_wordOf (cs NL e) nm K := by
  have hi := idx_lt hm
  obtain ⟨⟨n1, n2, n3⟩, -⟩ := hn
  rw [cs_name h0 h1 h2]
  have ed : ((3 + (idx NL e.2 : Int)) * 8 + e.1) / 8 - 3 = (idx NL e.2 : Int) := by omega
  unfold wp_Nam_wordOf
  rw [ed]
  refine ⟨by omega, ⟨by omega, by omega⟩, fun z => by omega, fun _ => ⟨fun z => by omega, fun _ => ⟨⟨by omega, by omega⟩, ?_⟩⟩⟩
  rw [n3 _ hi.1, hi.2]
  exact hK
section WT
variable {NL : List Nat} {E : List Sy} {g : Nat → Nat} {nm te wr : Ob} {N : List Nat} {out : List Int} {st : List It} {x : Nat} {K : Ob → Prop}
theorem sp_cterm (hn : nmKp nm NL) (hW : WE E) (hO : OkE NL E) (hC : CW NL E te) (hx : g x < E.length) (hc : en E (g x) ≠ (-2, 0)) (h : CWr wr N out st) (hl : out.length + (stp E g (0, x) N).1.length ≤ 1200) (hs : st.length + (stp E g (0, x) N).2.1.length ≤ 512) (hN : (stp E g (0, x) N).2.2.length ≤ 100) (hl3 : out.length + 3 ≤ 1200) (hs1 : st.length + 1 ≤ 512) (hK : ∀ wr', CWr wr' (stp E g (0, x) N).2.2 (out ++ (stp E g (0, x) N).1) ((stp E g (0, x) N).2.1 ++ st) → wfr wr wr' → K wr') : wp_Wri_writeTerm (g x : Int) nm te wr K := by
  have hE := hC.2.1
  have h0 := hC.1
  obtain ⟨ok, o4, om⟩ := hO _ hx
  have es : te.2.1 0 (g x : Int) = cs NL (en E (g x)) := (hC.2.2 _ hx).1
  unfold wp_Wri_writeTerm
  refine ⟨fun z => by omega, fun _ => ⟨fun z => by omega, fun _ => ⟨⟨by omega, by omega⟩, ?_⟩⟩⟩
  rw [es]
  have e00 : stp E g (0, x) N = if (en E (g x)).1 = -1 then (vtx (idx (nuN N (g x)) (g x)), [], nuN N (g x)) else if en E (g x) = (0, 2) then ([91, 93], [], N) else if en E (g x) = (2, 1) then ([91], [(0, ch E (g x) 0), (1, ch E (g x) 1)], N) else (wdL (en E (g x)).2, aIt E (g x) (nA E (g x)), N) := rfl
  rcases ok with ok | ok
  · rcases ok with w | w | w | ⟨w1, w2, w3⟩
    · -- a variable
      have ec : cs NL (en E (g x)) = -1 := (cs_var (Or.inl (Or.inl w))).mpr w
      rw [if_pos w] at e00
      rw [e00] at hK hN
      rw [ec]
      refine ⟨fun z => absurd z (by decide), fun _ => sp_cvar h hN hl3 (fun wr' c' f' => hK wr' c' f')⟩
    · -- a list
      have ec : cs NL (en E (g x)) = 10 := by rw [w]; exact sC_l NL
      have hn2 : nA E (g x) = 2 := by unfold nA; rw [w]; rfl
      rw [w, if_neg (by decide), if_neg (by decide), if_pos rfl] at e00
      rw [e00] at hK hl hs
      rw [ec]
      refine ⟨fun _ => ⟨fun _ => ⟨fun z => absurd rfl z, fun _ => ?_⟩, fun z => absurd z (by decide)⟩, fun z => absurd (by decide) z⟩
      refine sp_cput h (by omega) ⟨by decide, by decide⟩ (fun wr1 c1 f1 => ?_)
      exact sp_clist hW hC hx hn2 c1 hs (fun wr2 c2 f2 => hK wr2 c2 (wfr_trans f1 f2))
    · -- nothing
      have ec : cs NL (en E (g x)) = 0 := by rw [w]; exact sC_n NL
      rw [w, if_neg (by decide), if_pos rfl] at e00
      rw [e00] at hK hl hs
      rw [ec]
      refine ⟨fun _ => ⟨fun z => absurd rfl z, fun _ => ?_⟩, fun z => absurd (by decide) z⟩
      refine sp_cput h (by omega) ⟨by decide, by decide⟩ (fun wr1 c1 f1 => ?_)
      refine sp_cput c1 (by rw [List.length_append, List.length_singleton]; omega) ⟨by decide, by decide⟩ (fun wr2 c2 f2 => hK wr2 ?_ (wfr_trans f1 f2))
      rw [List.append_assoc] at c2
      exact c2
    · -- a name
      have ec := cs_name (NL := NL) w1 w2 w3
      have n1 : en E (g x) ≠ (0, 2) := fun e => w3 (by rw [e])
      have n2 : en E (g x) ≠ (2, 1) := fun e => w2 (by rw [e])
      rw [if_neg (by omega), if_neg n1, if_neg n2] at e00
      rw [e00] at hK hl hs
      refine ⟨fun _ => ⟨fun _ => ⟨fun _ => ?_, fun z => by omega⟩, fun z => by omega⟩, fun z => by omega⟩
      refine sp_word hn w1 o4 w2 w3 (om w1 w2 w3) ?_
      refine sp_cword h hl (fun wr1 c1 f1 => sp_argumentsOf ?_)
      rw [cs_ar (Or.inl (Or.inr (Or.inr (Or.inr ⟨w1, w2, w3⟩)))) o4]
      show wp_Wri_pushArguments (g x : Int) (nA E (g x) : Int) te wr1 _
      have h4 : nA E (g x) ≤ 4 := by unfold nA; omega
      refine sp_cargs hW hC hx h4 c1 ?_ (fun wr2 c2 f2 => hK wr2 c2 (wfr_trans f1 f2))
      by_cases q : nA E (g x) = 0
      · omega
      · have hs : st.length + (aIt E (g x) (nA E (g x))).length ≤ 512 := hs
        rw [aIt_eq E _ _ q, List.length_append, aTo_len] at hs
        have : ([(2, 41)] : List It).length = 1 := rfl
        omega
  · exact absurd ok hc
theorem sp_crest (hW : WE E) (hO : OkE NL E) (hC : CW NL E te) (hx : g x < E.length) (h : CWr wr N out st) (hl : out.length < 1200) (hs : st.length + 2 ≤ 512) (hK : ∀ wr', CWr wr' (stp E g (1, x) N).2.2 (out ++ (stp E g (1, x) N).1) ((stp E g (1, x) N).2.1 ++ st) → wfr wr wr' → K wr') : wp_Wri_writeRest (g x : Int) te wr K := by
  have hE := hC.2.1
  have h0 := hC.1
  obtain ⟨ok, o4, om⟩ := hO _ hx
  have es : te.2.1 0 (g x : Int) = cs NL (en E (g x)) := (hC.2.2 _ hx).1
  unfold wp_Wri_writeRest
  refine ⟨fun z => by omega, fun _ => ⟨fun z => by omega, fun _ => ⟨⟨by omega, by omega⟩, ?_⟩⟩⟩
  rw [es]
  have e00 : stp E g (1, x) N = if en E (g x) = (0, 2) then ([93], [], N) else if en E (g x) = (2, 1) then ([44], [(0, ch E (g x) 0), (1, ch E (g x) 1)], N) else ([124], [(0, g x), (2, 93)], N) := rfl
  by_cases w : en E (g x) = (0, 2)
  · have ec : cs NL (en E (g x)) = 0 := by rw [w]; exact sC_n NL
    rw [if_pos w] at e00
    rw [e00] at hK
    rw [ec]
    exact ⟨fun z => absurd rfl z, fun _ => sp_cput h hl ⟨by decide, by decide⟩ (fun wr1 c1 f1 => hK wr1 c1 f1)⟩
  · by_cases w2 : en E (g x) = (2, 1)
    · have ec : cs NL (en E (g x)) = 10 := by rw [w2]; exact sC_l NL
      have hn2 : nA E (g x) = 2 := by unfold nA; rw [w2]; rfl
      rw [if_neg w, if_pos w2] at e00
      rw [e00] at hK
      rw [ec]
      refine ⟨fun _ => ⟨fun z => absurd rfl z, fun _ => ?_⟩, fun z => absurd z (by decide)⟩
      refine sp_cput h hl ⟨by decide, by decide⟩ (fun wr1 c1 f1 => ?_)
      exact sp_clist hW hC hx hn2 c1 hs (fun wr2 c2 f2 => hK wr2 c2 (wfr_trans f1 f2))
    · have ec : cs NL (en E (g x)) ≠ 0 ∧ cs NL (en E (g x)) ≠ 10 := by
        rcases ok with (q | q | q | ⟨q1, q2, q3⟩) | q
        · rw [(cs_var (Or.inl (Or.inl q))).mpr q]; exact ⟨by decide, by decide⟩
        · exact absurd q w2
        · exact absurd q w
        · rw [cs_name q1 q2 q3]; exact ⟨by omega, by omega⟩
        · rw [q]
          have : cs NL (-2, 0) = 16 := sC_c NL
          omega
      rw [if_neg w, if_neg w2] at e00
      rw [e00] at hK
      refine ⟨fun _ => ⟨fun _ => ?_, fun z => absurd z ec.2⟩, fun z => absurd z ec.1⟩
      refine sp_cput h hl ⟨by decide, by decide⟩ (fun wr1 c1 f1 => ?_)
      refine sp_cpush (i := (2, 93)) c1 (by omega) ⟨by decide, by decide⟩ (fun wr2 c2 f2 => ?_)
      exact sp_cpush (i := (0, g x)) c2 (by rw [List.length_cons]; omega) ⟨by show 0 < 4; decide, by show g x < 3000; omega⟩ (fun wr3 c3 f3 => hK wr3 c3 (wfr_trans f1 (wfr_trans f2 f3)))
end WT
