/-! the pure part: the class's ways to emit -/
section EMC
variable {NL0 : List Nat} {P : List Sy} {symF szF endsF : Int → Int} {pc g : Int} {ov q5 qn : Prop}
theorem nmL_le (E : List Sy) (x : Sy) : (nmL NL0 E).length ≤ (nmL NL0 (E ++ [x])).length := by
  rw [nmL_snoc]
  obtain ⟨t, ht⟩ := nmS_ext (nmL NL0 E) x
  rw [ht, List.length_append]; omega
theorem IC_name {E : List Sy} {nm rc rd : Ob} {w : Nat} {Q : Int → Ob → Ob → Prop} (h : IC NL0 P symF szF endsF pc g ov q5 qn E nm rc rd) (hl : (E.length : Int) < 240) (w1 : w ≠ 1) (w2 : w ≠ 2) (hQ : ∀ nm' rc', IC NL0 P symF szF endsF pc g ov q5 qn (E ++ [(0, w)]) nm' rc' rd → ∀ r, PosC P E w r → Q r nm' rc') : wp_Nam_symbolOf w nm (fun r nm' => wp_Cod_add_r r rc (fun r2 rc' => Q r2 nm' rc')) := by
  obtain ⟨L, NL, VL, rfl, hn, hc, hr, ho, hxx, h2, h5, h6⟩ := h
  have eN : vN (L ++ [(0, w)]) = vN L := by rw [vN_snoc]; exact if_neg (fun z => absurd (show (0 : Int) = -1 from z.1) (by decide))
  have eL : lone (L ++ [(0, w)]) = lone L := by rw [lone_snoc]; exact if_neg (fun z => absurd (show (0 : Int) = -1 from z.1) (by decide))
  have hr' : ICr (L ++ [(0, w)]) (VL ++ []) g rd := by
    obtain ⟨r1, r2, r3, r4, r5⟩ := hr
    rw [List.append_nil]
    refine ⟨r1, r2, r3, ?_, r5⟩
    rw [List.length_append, List.length_singleton]; omega
  have gen : ∀ (nm' : Ob) (t : List Nat) (s : Int), ICn NL0 (P ++ L ++ [(0, w)]) (NL ++ t) nm' → 0 ≤ s ∧ s ≤ 300 → (nm'.1 2 = 0 → nm.1 2 = 0 ∧ s = (3 + (idx (NL ++ t) w : Int)) * 8) → wp_Cod_add_r s rc (fun r2 rc' => Q r2 nm' rc') := fun nm' t s g1 g2 g3 => by
    refine IC_put (t := t) (u := []) (x := (0, w)) (rd' := rd) hn hc hxx h2 h5 h6 (fun z => (g3 z).1) g1 hr' (ICo_more ho) (fun _ => g2) (show (-2 : Int) ≤ 0 by decide) (fun hz => ?_) (fun r rc' hI hp => hQ nm' rc' hI r ⟨w1, w2, hp hl⟩)
    obtain ⟨b1, b2, b3, b4, b5⟩ := hxx hz
    rw [List.append_nil, eN, eL]
    refine ⟨hz, b1, b2, b3, by show (0 : Int) ≤ 4; decide, fun hm => ⟨(g3 hm).1, ?_⟩⟩
    rw [(g3 hm).2]
    show _ = (if ((0 : Int) = -1) then _ else if ((0 : Int) = -2) then _ else if w = 1 then _ else if w = 2 then _ else (3 + (idx (NL ++ t) w : Int)) * 8 + 0)
    rw [if_neg (by decide), if_neg (by decide), if_neg w1, if_neg w2, Int.add_zero]
  have hn0 := hn
  obtain ⟨n1, n2, n3, ⟨t0, n4⟩, n5, n6⟩ := hn
  have h32 := n3.2.1
  refine sp_Nam_symbolOf n3 (fun j hj => ?_) (fun hni hlt => ?_) (fun hni he => ?_)
  · refine gen nm [] _ ?_ ?_ ?_
    · rw [List.append_nil]
      refine ⟨n1, n2, n3, ⟨t0, n4⟩, fun z => ?_, fun z => ?_⟩
      · rw [nmL_snoc, ← n5 z]
        exact (if_neg (fun q => q.2.2.2 (first_mem hj))).symm
      · exact Nat.lt_of_lt_of_le (n6 z) (nmL_le _ _)
    · have := hj.1; omega
    · intro z
      rw [List.append_nil, idx_first hj]
      exact ⟨z, rfl⟩
  · refine gen _ [w] _ ?_ ?_ ?_
    · refine ⟨n1, n2, ⟨?_, ?_, ?_⟩, ⟨t0 ++ [w], by rw [n4, List.append_assoc]⟩, fun z => ?_, fun z => ?_⟩
      · show (NL.length : Int) + 1 = _
        rw [List.length_append, List.length_singleton]; omega
      · rw [List.length_append, List.length_singleton]; omega
      · exact arN_add n3.2.2 w
      · rw [nmL_snoc, ← n5 z]
        exact (if_pos ⟨by show (0 : Int) ≤ 0; decide, w1, w2, notIn_mem hni⟩).symm
      · exact Nat.lt_of_lt_of_le (n6 z) (nmL_le _ _)
    · omega
    · intro z
      rw [idx_new (notIn_mem hni)]
      exact ⟨z, rfl⟩
  · refine gen _ [] _ ?_ (by decide) ?_
    · rw [List.append_nil]
      refine ⟨n1, Or.inr rfl, n3, ⟨t0, n4⟩, fun z => absurd (show (1 : Int) = 0 from z) (by decide), fun _ => ?_⟩
      rcases n2 with q | q
      · rw [nmL_snoc, ← n5 q]
        have : nmS NL (0, w) = NL ++ [w] := if_pos ⟨by show (0 : Int) ≤ 0; decide, w1, w2, notIn_mem hni⟩
        rw [this, List.length_append, List.length_singleton]; omega
      · exact Nat.lt_of_lt_of_le (n6 q) (nmL_le _ _)
    · intro z
      exact absurd (show (1 : Int) = 0 from z) (by decide)
theorem IC_var {E : List Sy} {nm rc rd : Ob} {w : Nat} {Q : Ob → Ob → Prop} (h : IC NL0 P symF szF endsF pc g ov q5 qn E nm rc rd) (hl : (E.length : Int) < 240) (hQ : ∀ rc' rd', IC NL0 P symF szF endsF pc g ov q5 qn (E ++ [(-1, w)]) nm rc' rd' → rd'.1 3 = rd.1 3 → rd'.1 4 = rd.1 4 → Q rc' rd') : wp_Rd_variableSymbol w rd (fun r rd' => wp_Cod_add_r r rc (fun _ rc' => Q rc' rd')) := by
  obtain ⟨L, NL, VL, rfl, hn, hc, hr, ho, hxx, h2, h5, h6⟩ := h
  rw [List.length_append] at hl
  have hn' : ICn NL0 (P ++ L ++ [(-1, w)]) (NL ++ []) nm := ICn_same hn (Or.inl (by show (-1 : Int) < 0; decide))
  obtain ⟨r1, r2, r3, r4, r5⟩ := hr
  have gen : ∀ (rd' : Ob) (u : List Nat) (s : Int), ICr (L ++ [(-1, w)]) (VL ++ u) g rd' → ICo ov (L ++ [(-1, w)]) rd' → (rd'.1 5 = 0 → rd.1 5 = 0 ∧ VL ++ u = vN (L ++ [(-1, w)]) ∧ rd'.1 1 = (lone (L ++ [(-1, w)]) : Int) ∧ (VL ++ u).length + lone (L ++ [(-1, w)]) ≤ 8 ∧ s = (if w = 95 then -1 else -2 - (idx (VL ++ u) w : Int))) → rd'.1 3 = rd.1 3 → rd'.1 4 = rd.1 4 → wp_Cod_add_r s rc (fun _ rc' => Q rc' rd') := fun rd' u s g1 g2 g3 g4 g5 => by
    refine IC_put (t := []) (u := u) (x := (-1, w)) (rd' := rd') hn hc hxx h2 h5 h6 id hn' g1 g2 (fun z => absurd (show (-1 : Int) = 0 from z) (by decide)) (show (-2 : Int) ≤ -1 by decide) (fun hz => ?_) (fun r rc' hI hp => hQ rc' rd' hI g4 g5)
    obtain ⟨q1, q2, q3, q4, q5⟩ := g3 hz
    refine ⟨q1, q2, q3, q4, by show (-1 : Int) ≤ 4; decide, fun hm => ⟨hm, ?_⟩⟩
    rw [q5]; rfl
  by_cases h95 : w = 95
  · subst h95
    have eN : vN (L ++ [(-1, 95)]) = vN L := by rw [vN_snoc]; exact if_neg (fun z => z.2.1 rfl)
    have eL : lone (L ++ [(-1, 95)]) = lone L + 1 := by rw [lone_snoc]; exact if_pos ⟨rfl, rfl⟩
    have e0 := r5.1
    have e8 := r5.2.1
    refine sp_lone ⟨by omega, by omega⟩ ⟨r3, by omega⟩ r2 (fun bb hb hbb => ?_)
    have ho1 := orI_01 r2 hb
    refine gen _ [] _ ?_ ?_ ?_ rfl rfl
    · rw [List.append_nil]
      refine ⟨r1, ho1.1, ?_, ?_, r5⟩
      · show 0 ≤ rd.1 1 + 1; omega
      · show rd.1 1 + 1 ≤ _
        rw [List.length_append, List.length_singleton]; omega
    · intro z
      have z : orI (rd.1 5) bb = 1 := z
      rcases r2 with q | q
      · have hb1 : bb = 1 := by
          rcases hb with b | b
          · have := ho1.2.mpr ⟨q, b⟩; omega
          · exact b
        obtain ⟨b1, b2, b3, b4, b5⟩ := hxx q
        refine Or.inr (Or.inl ?_)
        rw [vM_len, eN, eL, ← b1]
        have := hbb.mp hb1
        omega
      · exact ICo_more ho q
    · intro z
      have z : orI (rd.1 5) bb = 0 := z
      obtain ⟨z1, z2⟩ := ho1.2.mp z
      obtain ⟨b1, b2, b3, b4, b5⟩ := hxx z1
      rw [List.append_nil, eN, eL]
      refine ⟨z1, b1, ?_, ?_, by rw [if_pos rfl]⟩
      · show rd.1 1 + 1 = _; omega
      · have : ¬ 8 < rd.1 0 + (rd.1 1 + 1) := fun q => by have := hbb.mpr q; omega
        omega
  · have eL : lone (L ++ [(-1, w)]) = lone L := by rw [lone_snoc]; exact if_neg (fun z => h95 z.2)
    refine sp_variable h95 r5 ⟨r3, by omega⟩ r2 (fun j hj => ?_) (fun hni bb hb hbb => ?_)
    · refine gen rd [] _ ?_ (ICo_more ho) ?_ rfl rfl
      · rw [List.append_nil]
        refine ⟨r1, r2, r3, ?_, r5⟩
        rw [List.length_append, List.length_singleton]; omega
      · intro z
        obtain ⟨b1, b2, b3, b4, b5⟩ := hxx z
        have eN : vN (L ++ [(-1, w)]) = vN L := by rw [vN_snoc, ← b1]; exact if_neg (fun q => q.2.2 (first_mem hj))
        rw [List.append_nil, eN, eL, if_neg h95, idx_first hj]
        exact ⟨z, b1, b2, b3, rfl⟩
    · have ho1 := orI_01 r2 hb
      have mo : orI (rd.1 5) bb = 1 → ov ∨ 8 < (vM (L ++ [(-1, w)])).length ∨ ∃ x ∈ L ++ [(-1, w)], 4 < x.1 := fun z => by
        rcases r2 with q | q
        · have hb1 : bb = 1 := by
            rcases hb with b | b
            · have := ho1.2.mpr ⟨q, b⟩; omega
            · exact b
          obtain ⟨b1, b2, b3, b4, b5⟩ := hxx q
          refine Or.inr (Or.inl ?_)
          have eN : vN (L ++ [(-1, w)]) = VL ++ [w] := by rw [vN_snoc, ← b1]; exact if_pos ⟨rfl, h95, notIn_mem hni⟩
          rw [vM_len, eN, eL, List.length_append, List.length_singleton]
          have := hbb.mp hb1
          omega
        · exact ICo_more ho q
      by_cases h8 : VL.length < 8
      · rw [if_pos h8]
        refine gen _ [w] _ ?_ mo ?_ rfl rfl
        · refine ⟨r1, ho1.1, r3, ?_, ?_, ?_, ?_⟩
          · rw [List.length_append, List.length_singleton]; show rd.1 1 ≤ _; omega
          · show (VL.length : Int) + 1 = _
            rw [List.length_append, List.length_singleton]; omega
          · rw [List.length_append, List.length_singleton]; omega
          · exact arN_add r5.2.2 w
        · intro z
          have z : orI (rd.1 5) bb = 0 := z
          obtain ⟨z1, z2⟩ := ho1.2.mp z
          obtain ⟨b1, b2, b3, b4, b5⟩ := hxx z1
          have eN : vN (L ++ [(-1, w)]) = VL ++ [w] := by rw [vN_snoc, ← b1]; exact if_pos ⟨rfl, h95, notIn_mem hni⟩
          rw [eN, eL, if_neg h95, idx_new (notIn_mem hni), List.length_append, List.length_singleton]
          refine ⟨z1, rfl, b2, ?_, rfl⟩
          have : ¬ 8 < (VL.length : Int) + 1 + rd.1 1 := fun q => by have := hbb.mpr q; omega
          omega
      · rw [if_neg h8]
        refine gen _ [] _ ?_ mo ?_ rfl rfl
        · rw [List.append_nil]
          refine ⟨r1, ho1.1, r3, ?_, r5⟩
          rw [List.length_append, List.length_singleton]; show rd.1 1 ≤ _; omega
        · intro z
          have z : orI (rd.1 5) bb = 0 := z
          obtain ⟨z1, z2⟩ := ho1.2.mp z
          have := hbb.mpr (by omega)
          omega
theorem IC_args {E S : List Sy} {nm rc rd : Ob} {w a : Nat} {bb r : Int} {Q : Ob → Prop} (h : IC NL0 P symF szF endsF pc g ov q5 qn (E ++ (0, w) :: S) nm rc rd) (hp : PosC P E w r) (hb : bb = 0 ∨ bb = 1) (hbb : bb = 1 ↔ 4 < (a : Int)) (hQ : ∀ rc', IC NL0 P symF szF endsF pc g ov q5 qn (E ++ ((a : Int), w) :: S) nm rc' (sI rd 5 (orI (rd.1 5) bb)) → Q rc') : wp_Cod_setArguments_r r (min (a : Int) 4) rc Q := by
  obtain ⟨w1, w2, hr, hl, hPE⟩ := hp
  obtain ⟨L, NL, VL, hEL, hn, hc, hrr, ho, hxx, h2, h5, h6⟩ := h
  obtain ⟨L1, rfl, rfl⟩ : ∃ L1, E = P ++ L1 ∧ L = L1 ++ (0, w) :: S := by
    rcases List.append_eq_append_iff.mp hEL with ⟨as, e1, e2⟩ | ⟨cs, e1, e2⟩
    · have : as = [] := by
        apply List.eq_nil_of_length_eq_zero
        rw [e1, List.length_append] at hPE
        omega
      subst this
      exact ⟨[], by rw [e1, List.append_nil, List.append_nil], by rw [e2]; rfl⟩
    · exact ⟨cs, e1, e2⟩
  obtain ⟨c1, c2, c3, c4, c5, c6⟩ := hc
  obtain ⟨r1, r2, r3, r4, r5⟩ := hrr
  have ho1 := orI_01 r2 hb
  rw [List.length_append] at hr hl
  have hlen : (P ++ (L1 ++ (0, w) :: S)).length = P.length + L1.length + (S.length + 1) := by rw [List.length_append, List.length_append, List.length_cons]; omega
  rw [hlen] at c1
  have gat : (L1 ++ (0, w) :: S).getD L1.length (0, 0) = (0, w) := gD_app_r L1 ((0, w) :: S) 0
  have bd := c6 L1.length (by rw [List.length_append, List.length_cons]; omega) (by omega) (by rw [gat])
  rw [← hr] at bd
  have hlt : r < rc.1 0 := by omega
  refine ⟨fun z => by omega, fun _ => ⟨fun z => by omega, fun _ => ⟨⟨by omega, by omega⟩, ⟨by omega, by omega⟩, ⟨by omega, by omega⟩, ?_⟩⟩⟩
  have gl : ∀ j, j ≠ L1.length → (L1 ++ ((a : Int), w) :: S).getD j (0, 0) = (L1 ++ (0, w) :: S).getD j (0, 0) := fun j hj => by
    by_cases hjl : j < L1.length
    · rw [gD_app_l hjl, gD_app_l hjl]
    · obtain ⟨i, rfl⟩ : ∃ i, j = L1.length + (i + 1) := ⟨j - L1.length - 1, by omega⟩
      rw [gD_app_r, gD_app_r]; rfl
  have gat2 : (L1 ++ ((a : Int), w) :: S).getD L1.length (0, 0) = ((a : Int), w) := gD_app_r L1 (((a : Int), w) :: S) 0
  refine hQ _ ⟨L1 ++ ((a : Int), w) :: S, NL, VL, by rw [List.append_assoc], ?_, ⟨?_, c2, c3, c4, fun j j0 j1 => ?_, fun j j1 j2 j3 => ?_⟩, ⟨r1, ho1.1, r3, ?_, r5⟩, fun z => ?_, fun z => ?_, fun y hy => ?_, fun z => h5 (ho1.2.mp z).1, h6⟩
  · unfold ICn
    rw [nmL_set]
    exact hn
  · show rc.1 0 = _
    rw [List.length_append, List.length_append, List.length_cons]; omega
  · show updI (rc.2.1 0) r _ j = _
    rw [updI_n (by omega)]
    exact c5 j j0 j1
  · show 0 ≤ updI (rc.2.1 0) r _ _ ∧ updI (rc.2.1 0) r _ _ ≤ 300
    by_cases e : j = L1.length
    · subst e
      rw [gat2] at j3
      have j3 : (a : Int) = 0 := j3
      rw [← hr, updI_s, j3]
      have : min (0 : Int) 4 = 0 := by decide
      rw [this]
      omega
    · rw [updI_n (by omega)]
      rw [gl j e] at j3
      exact c6 j (by rw [List.length_append, List.length_cons] at j1 ⊢; exact j1) j2 j3
  · show rd.1 1 ≤ _
    rw [List.length_append, List.length_cons] at r4 ⊢
    exact r4
  · have z : orI (rd.1 5) bb = 1 := z
    rcases r2 with q | q
    · have hb1 : bb = 1 := by
        rcases hb with b | b
        · have := ho1.2.mpr ⟨q, b⟩; omega
        · exact b
      exact Or.inr (Or.inr ⟨((a : Int), w), List.mem_append_right _ List.mem_cons_self, hbb.mp hb1⟩)
    · rcases ho q with q1 | q1 | ⟨y, hy, q1⟩
      · exact Or.inl q1
      · exact Or.inr (Or.inl (by rw [vM_set]; exact q1))
      · refine Or.inr (Or.inr ⟨y, ?_, q1⟩)
        rcases List.mem_append.mp hy with q2 | q2
        · exact List.mem_append_left _ q2
        · rcases List.mem_cons.mp q2 with rfl | q2
          · exact absurd q1 (by show ¬ (4 : Int) < 0; decide)
          · exact List.mem_append_right _ (List.mem_cons_of_mem _ q2)
  · have z : orI (rd.1 5) bb = 0 := z
    obtain ⟨z1, z2⟩ := ho1.2.mp z
    obtain ⟨b1, b2, b3, b4, b5⟩ := hxx z1
    have ha : (a : Int) ≤ 4 := by
      have : ¬ 4 < (a : Int) := fun q => by have := hbb.mpr q; omega
      omega
    refine ⟨by rw [vN_set]; exact b1, by rw [lone_set]; exact b2, by rw [lone_set]; exact b3, fun y hy => ?_, fun hm j j1 j2 => ?_⟩
    · rcases List.mem_append.mp hy with q2 | q2
      · exact b4 y (List.mem_append_left _ q2)
      · rcases List.mem_cons.mp q2 with rfl | q2
        · exact ha
        · exact b4 y (List.mem_append_right _ (List.mem_cons_of_mem _ q2))
    · show updI (rc.2.1 0) r _ _ = _
      have j1' : j < (L1 ++ (0, w) :: S).length := by rw [List.length_append, List.length_cons] at j1 ⊢; exact j1
      have h5 := b5 hm j j1' j2
      by_cases e : j = L1.length
      · subst e
        rw [gat] at h5
        rw [gat2, ← hr, updI_s]
        rw [← hr] at h5
        rw [h5, show min (a : Int) 4 = (a : Int) by omega]
        unfold sC
        rw [if_neg (by show ¬ (0 : Int) = -1; decide), if_neg (by show ¬ (0 : Int) = -2; decide), if_neg w1, if_neg w2, if_neg (by show ¬ (a : Int) = -1; omega), if_neg (by show ¬ (a : Int) = -2; omega), if_neg w1, if_neg w2]
        show (3 + (idx NL w : Int)) * 8 + 0 + (a : Int) = (3 + (idx NL w : Int)) * 8 + (a : Int)
        omega
      · rw [updI_n (by omega), gl j e]
        exact h5
  · rcases List.mem_append.mp hy with q2 | q2
    · exact h2 y (List.mem_append_left _ q2)
    · rcases List.mem_cons.mp q2 with rfl | q2
      · show (-2 : Int) ≤ (a : Int); omega
      · exact h2 y (List.mem_append_right _ (List.mem_cons_of_mem _ q2))
theorem EmC_IC : EmC (IC NL0 P symF szF endsF pc g ov q5 qn) (PosC P) := by
  refine ⟨fun E nm rc rd v h => ⟨IC_rd h (fun j a b => if_neg a) rfl, IC_rd h (fun j a b => if_neg b) rfl⟩, fun E nm rc rd w Q h hl hQ => IC_var h hl hQ, fun E nm rc rd w Q h hl w1 w2 hQ => IC_name h hl w1 w2 hQ, fun E nm rc rd Q h hl hQ => IC_plain h (Or.inl ⟨rfl, rfl⟩) (fun r rc' hI => hQ rc' hI), fun E nm rc rd Q h hl hQ => IC_plain h (Or.inr (Or.inl ⟨rfl, rfl⟩)) (fun r rc' hI => hQ rc' hI), fun E S nm rc rd w a bb r Q h hp hb hbb hQ => IC_args h hp hb hbb hQ, fun E nm rc rd h => ?_⟩
  obtain ⟨L, NL, VL, rfl, hn, hc, hr, ho, hxx, h2, h5, h6⟩ := h
  exact hr.2.1
end EMC
