/-! ask, both sides together -/
theorem MPr_at {NL : List Nat} {Cs : List Part} {m : Ob} (h : MPr NL Cs m) : ∀ c : Nat, c < Cs.length → MCl m (c : Int) (Cs.getD c ([], [])) := fun c hc => by
  have e : Cs = Cs.take c ++ Cs.getD c ([], []) :: Cs.drop (c + 1) := by
    rw [List.getD_eq_getElem?_getD, List.getElem?_eq_getElem hc]
    show Cs = Cs.take c ++ Cs[c] :: Cs.drop (c + 1)
    rw [← List.drop_eq_getElem_cons hc, List.take_append_drop]
  have := h.2.2.2.1 _ _ _ e
  rw [List.length_take, show min c Cs.length = c by omega] at this
  exact this
theorem Base_of {i : Nat} {NL : List Nat} {Cs : List Part} {Q : Part} {AL : List Nat} {tx nm pr te go ch se m : Ob} (hn : nmKp nm NL) (hP : PrOk NL Cs pr) (hne : ∀ p ∈ Cs, p.1 ≠ []) (h : SRel NL Cs Q AL tx (200 * (i : Int)) te go ch se m) : Base i NL Cs tx nm pr te m ∧ 0 ≤ ch.1 0 := by
  obtain ⟨E, chl, rp, dp, chs, ⟨a1, a2, a3, a4, a5, a6, -⟩, -⟩ := h
  obtain ⟨b1, b2, b3, b4, b5, b6, b7, b8, b9, b10, b11, b12, b13⟩ := a5
  obtain ⟨c1, c2, c3, c4⟩ := a1.2.2
  have hl : chl.length ≤ E.length := nd_len E.length chl c3 (fun c hc => (c4 c hc).1)
  have hE := a1.1.2.1
  refine ⟨⟨b11, hn, hP, ⟨b6, b12, b13, fun A p C hA => ?_, hne⟩, ⟨by omega, by omega, fun j j0 j1 => ?_, a6⟩⟩, by omega⟩
  · have := getD_at hA
    have h2 := b1 A.length this.2
    rw [this.1] at h2
    exact h2
  · have e := c2 j.toNat (by omega)
    rw [Int.toNat_of_nonneg j0] at e
    rw [e]
    have hm : chl.getD j.toNat 0 ∈ chl := by
      rw [List.getD_eq_getElem?_getD, List.getElem?_eq_getElem (show j.toNat < chl.length by omega)]
      exact List.getElem_mem _
    have := (c4 _ hm).1
    omega
theorem ask_ok {i : Nat} {NL : List Nat} {Cs : List Part} {tx tk nm pr rc rd te go ch se wr m : Ob} {R : Ob → Ob → Ob → Ob → Ob → Ob → Ob → Ob → Ob → Ob → Ob → Prop} (hRR : ∀ tx' tk' nm' rc' rd' te' go' ch' se' wr' m', ((∃ NL' Cs', Base i NL' Cs' tx' nm' pr te' m' ∧ SN te' go' ch' se' wr' m') ∨ (∃ NL' Q AL, nmKp nm' NL' ∧ PrOk NL' Cs pr ∧ (∀ p ∈ Cs, p.1 ≠ []) ∧ SRel NL' Cs Q AL tx' (200 * (i : Int)) te' go' ch' se' m' ∧ wr'.1 3 = 0)) → R tx' tk' nm' rc' rd' te' go' ch' se' wr' m') (hB : Base i NL Cs tx nm pr te m) (hch : 0 ≤ ch.1 0) : wp_P_ask tx tk nm rc rd te go ch se wr (fun r tx' tk' nm' rc' rd' te' go' ch' se' wr' => wp_M_ask m (fun r' m' => r = r' ∧ R tx' tk' nm' rc' rd' te' go' ch' se' wr' m')) := by
  obtain ⟨hT, hnm, hpr, hm, hte⟩ := hB
  refine sp_Sea_end hte hch (fun te' go' ch' se' wr' hte' hSN => ?_)
  have h24 : Cs.length ≤ 24 := hpr.2.2.1
  have keep0 : ∀ m1, rfr m m1 → MPr NL Cs (mNo m1) := fun m1 f => MPr_eq (MPr_rfr hm f) rfl rfl rfl rfl rfl rfl rfl rfl
  refine sp_readQuestion ⟨hT.2.1, hT.2.2.1⟩ (fun j j0 j1 => by rw [(hT.2.2.2 j j0 j1).1]; exact (hT.2.2.2 j j0 j1).2) hnm (fun kE wE pl en N k' p hF hp tk' nm' rc' rd' hn' => ?_) (fun kE wE pl en N k' p hF hp hsh hl hov tk' nm' rc' rd' hn' => ?_) (fun kE wE pl en N k' p hF hp hsh hl hov tk' nm' rc' rd' hn' hpt r0 => ?_)
  · -- a fault
    have hkN : 0 ≤ k' ∧ k' ≤ N := PQu_N (TKF_kd hF).2.1 (TKF_kd hF).2.2.2.1 hp
    have hpl := TKF_pl hF k' hkN.1 hkN.2
    have hn240 := hF.2.2.2.2
    refine ⟨fun _ => ?_, fun z => by omega⟩
    refine sp_M_read1 (TF_of hT hF) hp (fun z => by cases z) (fun _ m1 f => ?_)
    refine ⟨fun z => by omega, fun _ => ⟨⟨by omega, by omega⟩, rfl, hRR _ _ _ _ _ _ _ _ _ _ _ (Or.inl ⟨NL, Cs, ⟨RText_0 rfl, hn', hpr, keep0 m1 f, hte'⟩, hSN _ rfl rfl rfl rfl rfl⟩)⟩⟩
  · -- too much
    refine ⟨fun _ => ?_, fun z => absurd (by decide) z⟩
    refine sp_M_read1 (TF_of hT hF) hp (fun _ m1 hR hMP f => ?_) (fun z => by cases z)
    have hm3 := keep0 m1 f
    have hR3 : RDn [p] (mNo m1) := RDn_eq hR rfl rfl rfl rfl rfl rfl rfl rfl
    have eps : psL [p] = pL p := List.append_nil _
    have fin : ∀ m4 : Ob, m4.1 = (mNo m1).1 → m4.2.1 = (mNo m1).2.1 → (∀ j, j ≠ 3 → m4.2.2.2 j = (mNo m1).2.2.2 j) → arN (m4.2.2.2 3) (nmL NL (psL [p])) → (-1000 : Int) = -1000 ∧ R (sI tx 0 0) tk' nm' rc' rd' te' go' ch' se' wr' m4 := fun m4 q1 q2 q3 q4 => by
      refine ⟨rfl, hRR _ _ _ _ _ _ _ _ _ _ _ (Or.inl ⟨NL, Cs, ⟨RText_0 (by rw [q1]; rfl), hn', hpr, ?_, hte'⟩, hSN _ (by rw [q1]; rfl) (by rw [q1]; rfl) (by rw [q1]; rfl) (by rw [q1]; rfl) (by rw [q1]; rfl)⟩)⟩
      obtain ⟨v1, v2, v3, v4, v5⟩ := hm3
      refine ⟨by rw [q1]; exact v1, by rw [q1]; exact v2, fun k hk => ?_, ?_, v5⟩
      · obtain ⟨t, ht⟩ := nmL_ext NL (psL [p])
        have := q4 k (by rw [ht, List.length_append]; omega)
        rw [ht, List.getD_eq_getElem?_getD, List.getElem?_append_left hk, ← List.getD_eq_getElem?_getD] at this
        exact this
      · intro A p C hA
        have := v4 A p C hA
        unfold MCl at this ⊢
        rw [q2, q3 2 (by decide)]
        exact this
    refine ⟨fun _ => ?_, fun z => absurd (by decide) z⟩
    refine sp_addNames (E := psL [p]) (NL0 := NL) hR3.1 (by rw [eps]; exact hl) hm3.2.1 hnm.1.2.1 hm3.2.2.1 (psL_ok (fun q hq => by rw [List.mem_singleton.mp hq]; exact hsh)) (DP_flat hR3.2.2.1) (fun m4 q1 q2 q3 q4 q5 => ?_)
    have hR4 : RDn [p] m4 := RDn_eq hR3 (by rw [q1]; rfl) (by rw [q1]; rfl) (by rw [q2]; rfl) (by rw [q2]; rfl) (by rw [q2]; rfl) (by rw [q2]; rfl) (by rw [q2]; rfl) (q4 0 (by decide))
    refine sp_tooMuch (A := []) (C := []) hR4 rfl (fun _ => ⟨fun _ => fin m4 q1 q2 q4 q5, fun z => absurd z (by decide)⟩) (fun hno => ⟨fun z => absurd rfl z, fun _ => ⟨fun z => ?_, fun _ => fin m4 q1 q2 q4 q5⟩⟩)
    rcases hov with w | w
    · exact absurd w hno
    · rw [← eps] at w; omega
  · -- a question
    have hp1 : p.1 = [] ∧ p.2 ≠ [] := by
      obtain ⟨n, hq⟩ := hp
      rcases hq with ⟨G, -, z⟩ | ⟨k2, G, hg, ⟨-, z, -⟩ | ⟨-, -, z, -⟩ | ⟨-, -, -, -, e⟩⟩
      · cases z
      · cases z
      · cases z
      · rw [e]; exact ⟨rfl, (PGo_sh (TKF_kd hF).2.2.1 n 0 k2 G (Int.le_refl _) hg).2⟩
    have hno : ¬ ovP p := fun w => hov (Or.inl w)
    have h32 : (nmL NL (pL p)).length ≤ 32 := by
      by_cases q : 32 < (nmL NL (pL p)).length
      · exact absurd (Or.inr q) hov
      · omega
    obtain ⟨o40, o8, og8, -⟩ := ov_40 hno
    have eps : psL [p] = pL p := List.append_nil _
    have hv8 : (vN (pL p)).length ≤ 8 := by have := vM_len (pL p); omega
    have hAl : ((vN (pL p)).map (fiL (pL p))).length = (vN (pL p)).length := List.length_map _
    have hAg : ∀ v : Nat, v < (vN (pL p)).length → ((vN (pL p)).map (fiL (pL p))).getD v 0 = fiL (pL p) ((vN (pL p)).getD v 0) := fun v hv => by
      rw [List.getD_eq_getElem?_getD, List.getElem?_map, List.getD_eq_getElem?_getD, List.getElem?_eq_getElem hv]
      rfl
    obtain ⟨n1, n2, n3, n4, n5, n6, n7, n8, n9, n10, n11, n12, n13, -⟩ := hSN (mNo m) rfl rfl rfl rfl rfl
    obtain ⟨t, ht⟩ := nmL_ext NL (psL [p])
    rw [eps] at ht
    have hpr2 : PrOk (nmL NL (pL p)) Cs pr := by rw [ht]; exact PrOk_nm t hpr
    have hin : ClOk (nmL NL (pL p)) p := ⟨hsh, hno, by have := inNL_psL (NL := NL) (Qs := [p]) p List.mem_cons_self; rw [eps] at this; exact this⟩
    refine ⟨fun z => by omega, fun _ => ?_⟩
    show wp_Sea_begin ((vN (pL p)).length : Int) rc' te' go' se' _
    have hT0 : TeS (nmL NL (pL p)) [] te' (fun x => x) (fun _ => 0) [] := ⟨⟨n9, Nat.zero_le _, fun x hx => absurd hx (Nat.not_lt_zero _)⟩, fun x hx => absurd hx (Nat.not_lt_zero _), ⟨n10, fun x hx => absurd hx (Nat.not_lt_zero _), List.nodup_nil, fun c hc => absurd hc (List.not_mem_nil)⟩⟩
    have hPtA : PtAll (nmL NL (pL p)) [p] rc' := fun A q C hA => by
      cases A with
      | nil =>
        injection hA with e1 e2
        subst e1
        exact hpt
      | cons a A =>
        injection hA with e1 e2
        cases A <;> cases e2
    refine sp_copy_r (A := []) (C := []) (Cs := [p]) (P := p) hT0 (WE_P hsh) ⟨0, rfl⟩ hPtA rfl (by rw [eps]; exact r0) (by show 1 ≤ 24; decide) (by rw [eps]; exact hl) hsh hno (by show 0 + (pL p).length ≤ 2440; omega) (fun te1 hT1 e3 e3' _ h6 => ?_)
    have e1 : ((([] : List Sy).length : Nat) : Int) + (p.1.length : Int) = 0 := by rw [hp1.1]; rfl
    have key : ∀ K : Ob → Prop, (∀ go1, GoC go1 (bd 0 p 0 ++ []) → go1.1 0 = go'.1 0 + (p.2.length : Int) → K go1) → wp_Goa_putBefore 0 (te1.1 0) 0 te1 go' K := fun K hK => by
      have := sp_putBefore (E0 := []) (P := p) (cut := 0) (te := te1) (go := go') (GL := []) (NL := nmL NL (pL p)) (K := K) hsh hno hT1.1 ⟨n8, by omega⟩ (by omega) (fun go1 g1 g2 _ => hK go1 g1 g2)
      rw [e1, ← hT1.1.1] at this
      exact this
    refine key _ (fun go1 g1 g2 => ⟨((vN (pL p)).map (fiL (pL p))).length + 1, ?_⟩)
    rw [List.append_nil] at g1
    have hc0 := hT1.1
    refine sp_begin42 (A := (vN (pL p)).map (fiL (pL p))) (se := sI se' 0 (min ((vN (pL p)).length : Int) 8)) (fun v hv => ?_) (by omega) (by show min ((vN (pL p)).length : Int) 8 = _; omega) (fun se1 s1 s2 => ?_) (((vN (pL p)).map (fiL (pL p))).length + 1) 0 _ (Nat.zero_le _) (by omega) rfl (fun v hv => absurd hv (Nat.not_lt_zero _))
    · rw [hAg v (by omega), h6 v (by omega)]
      show ((0 + fiL (pL p) ((vN (pL p)).getD v 0) : Nat) : Int) = _
      rw [Nat.zero_add]
    refine sp_M_read1 (TF_of hT hF) hp (fun _ m1 hR hMP f => ?_) (fun z => by cases z)
    have hm3 := keep0 m1 f
    have hR3 : RDn [p] (mNo m1) := RDn_eq hR rfl rfl rfl rfl rfl rfl rfl rfl
    refine ⟨fun _ => ?_, fun z => absurd (by decide) z⟩
    refine sp_addNames (E := psL [p]) (NL0 := NL) hR3.1 (by rw [eps]; exact hl) hm3.2.1 hnm.1.2.1 hm3.2.2.1 (psL_ok (fun q hq => by rw [List.mem_singleton.mp hq]; exact hsh)) (DP_flat hR3.2.2.1) (fun m4 q1 q2 q3 q4 q5 => ?_)
    have hR4 : RDn [p] m4 := RDn_eq hR3 (by rw [q1]; rfl) (by rw [q1]; rfl) (by rw [q2]; rfl) (by rw [q2]; rfl) (by rw [q2]; rfl) (by rw [q2]; rfl) (by rw [q2]; rfl) (q4 0 (by decide))
    rw [eps] at q5 ⊢
    refine sp_tooMuch (A := []) (C := []) hR4 rfl (fun w => absurd w hno) (fun _ => ⟨fun z => absurd rfl z, fun _ => ⟨fun _ => ?_, fun z => by omega⟩⟩)
    have hR5 : RDn [p] (sI m4 11 ((nmL NL (pL p)).length : Int)) := RDn_eq hR4 rfl rfl rfl rfl rfl rfl rfl rfl
    refine sp_keep (A := []) (C := []) (c := 24) hR5 rfl hno ⟨by decide, by decide⟩ (fun m7 k7 c7 => ⟨(vM (pL p)).length + 1, ?_⟩)
    obtain ⟨aF, cF, hMP⟩ := hMP
    have g7 : ∀ j, j ≠ 11 → m7.1 j = (mNo m1).1 j := fun j hj => by
      rw [k7.1]
      show (if j = 11 then _ else m4.1 j) = _
      rw [if_neg hj, q1]; rfl
    refine sp_ask66 (L := pL p) (m0 := sI m7 12 0) ?_ ?_ ?_ o8 o40 (fun m8 u1 u2 u3 u4 u5 => ?_) ((vM (pL p)).length + 1) 0 _ (Nat.zero_le _) (by omega) (fun _ _ => rfl) (fun _ _ => rfl) rfl rfl (fun v hv => absurd hv (Nat.not_lt_zero _))
    · show m7.1 7 = _
      rw [g7 7 (by decide)]
      exact hMP.2.2.2.1
    · show arN (m7.2.2.2 1) _
      rw [k7.2.2.2.1 1 (by decide)]
      show arN (m4.2.2.2 1) _
      rw [q4 1 (by decide)]
      exact hMP.2.2.2.2.1
    · intro k hk
      obtain ⟨p', w1, w2⟩ := hMP.2.2.2.2.2.1 k hk
      refine ⟨p', ?_, w2⟩
      show m7.2.1 6 _ = _
      rw [k7.2.1 6 (by decide) (by decide) (by decide) (by decide)]
      show m4.2.1 6 _ = _
      rw [q2]
      show m1.2.1 6 _ = _
      rw [w1, Int.zero_add]
    have to4 : ∀ (c : Int) (P : Part), MCl (mNo m1) c P → MCl (sI m4 11 ((nmL NL (pL p)).length : Int)) c P := fun c P h => by
      have : MCl m4 c P := by
        unfold MCl at h ⊢
        rw [q2, q4 2 (by decide)]
        exact h
      exact this
    have to8 : ∀ (c : Int) (P : Part), MCl m7 c P → MCl (sI m8 13 1) c P := fun c P h => by
      have : MCl m8 c P := by
        unfold MCl at h ⊢
        rw [u2 10 (by decide), u2 11 (by decide), u2 12 (by decide), u2 13 (by decide), u3]
        exact h
      exact this
    have g8 : ∀ j, j ≠ 11 → j ≠ 12 → m8.1 j = (mNo m1).1 j := fun j h1 h2 => by
      rw [u1 j h2]
      show (if j = 12 then _ else m7.1 j) = _
      rw [if_neg h2, g7 j h1]
    have e811 : m8.1 11 = ((nmL NL (pL p)).length : Int) := by
      rw [u1 11 (by decide)]
      show m7.1 11 = _
      rw [k7.1]; rfl
    have hStc : Stc (nmL NL (pL p)) Cs p ((vN (pL p)).map (fiL (pL p))) (sI tx 0 0) (sI m8 13 1) := by
      refine ⟨fun c hc => to8 _ _ (MCl_kfr (to4 _ _ (MPr_at hm3 c hc)) k7 (by omega) ?_), to8 _ _ c7, h24, fun P hP => ⟨hpr2.2.2.2.2 P hP, ?_⟩, hin, ?_, ?_, by omega, fun v hv => ?_, fun x hx => ?_, RText_0 ?_, e811, ?_⟩
      · exact (hpr2.2.2.2.2 _ (Cs_mem hc)).2.1
      · rcases (hpr2.2.2.2.2 P hP).1.1 with w | w
        · exact absurd w (hm.2.2.2.2 P hP)
        · exact w
      · show m8.1 10 = _
        rw [g8 10 (by decide) (by decide)]; exact hm3.1
      · show m8.1 12 = _
        rw [u4, hAl]
      · have hv' : v < (vN (pL p)).length := by omega
        show Lo [(24, p)] (m8.2.1 14 (v : Int)) 0 _
        rw [u5 v hv', hAg v hv']
        refine ⟨[], 24, p, [], fiL (pL p) ((vN (pL p)).getD v 0), rfl, rfl, ?_, rfl, (Nat.zero_add _).symm⟩
        refine fiL_lt ?_
        rw [List.getD_eq_getElem?_getD, List.getElem?_eq_getElem hv']
        exact List.getElem_mem _
      · obtain ⟨w, hw, e⟩ := List.mem_map.mp hx
        rw [← e]
        exact ⟨fiL_lt hw, fiL_v hw⟩
      · show m8.1 0 = 0
        rw [g8 0 (by decide) (by decide)]; rfl
      · show arN (m8.2.2.2 3) _
        rw [u3]
        show arN (m7.2.2.2 3) _
        rw [k7.2.2.2.1 3 (by decide)]
        exact q5
    refine sp_begin hStc (fun m9 a9 e16 hRef => ⟨?_, hRR _ _ _ _ _ _ _ _ _ _ _ (Or.inr ⟨nmL NL (pL p), p, (vN (pL p)).map (fiL (pL p)), hn', hpr2, hm.2.2.2.2, ?_, n13⟩)⟩)
    · rw [a9.1 12 (by decide) (by decide) (by decide) (by decide)]
      exact u4.symm
    · have i9 : ∀ j, j ≠ 16 → j ≠ 18 → j ≠ 19 → j ≠ 20 → j ≠ 11 → j ≠ 12 → j ≠ 13 → m9.1 j = (mNo m1).1 j := fun j h1 h2 h3 h4 h5 h6 h7 => by
        rw [a9.1 j h1 h2 h3 h4]
        show (if j = 13 then _ else m8.1 j) = _
        rw [if_neg h7, g8 j h5 h6]
      refine ⟨pL p, [], rpN [] (pL p) (fun x => x), dpN [] (pL p) (fun _ => 0), [], ⟨hT1, trivial, n6, ?_, Stc_rmf hStc (rmf_amf a9), ?_, ?_, s2, ?_, ?_, ?_, ?_, by omega, by omega⟩, Or.inl ⟨bd 0 p 0, ⟨?_, [], [(24, p)], bd 0 p 0, [], ⟨rfl, rfl, rfl, Good_0 hsh hno⟩, (fE_one p).symm, rfl, fun q hq => absurd hq (List.not_mem_nil), g1, hRef, ?_, by decide, fun d hd => absurd hd (List.not_mem_nil), ?_, asked_0 hsh hno⟩, Or.inl ⟨fun e => ?_, rfl, ?_⟩⟩⟩
      · rw [i9 17 (by decide) (by decide) (by decide) (by decide) (by decide) (by decide) (by decide)]; rfl
      · unfold TeM
        rw [e3, e3']; exact hte'.2.2.2
      · show se1.1 0 = _
        rw [s1]; show min ((vN (pL p)).length : Int) 8 = _; omega
      · show se1.1 3 = _
        rw [s1, e16]; exact n3
      · show se1.1 4 = _
        rw [s1, i9 15 (by decide) (by decide) (by decide) (by decide) (by decide) (by decide) (by decide)]; exact n4
      · show 0 ≤ se1.1 4
        rw [s1]; show 0 ≤ se'.1 4; omega
      · show se1.1 4 ≤ _
        rw [s1]; show se'.1 4 ≤ _; omega
      · show se1.1 2 = _
        rw [s1]; exact n2
      · show se1.1 3 = _
        rw [s1]; exact n3
      · show go1.1 0 ≤ 8 * (0 + 1); omega
      · have := bd_len 0 p 0
        rw [e] at this
        exact hp1.2 (List.length_eq_zero_iff.mp this.symm)
      · rw [a9.1 13 (by decide) (by decide) (by decide) (by decide)]; rfl
