/-! the search: a choice is taken -/
theorem choice_sim {NL : List Nat} {Cs : List Part} {Q : Part} {AL : List Nat} {tx : Ob} {b : Int} {E : List Sy} {chl : List Nat} {rp dp : Nat → Nat} {d : ChD} {chs : List ChD} {nm pr te go ch se m : Ob} {K : Ob → Ob → Ob → Ob → Prop} (hPr : PrOk NL Cs pr) (hne : ∀ p ∈ Cs, p.1 ≠ []) (hS : SCom NL Cs Q AL tx b E chl rp dp (d :: chs) te go ch se m) (h2 : se.1 2 = 1) (h1 : se.1 1 = 2) (hb : b ≤ 900000)
    (hK : ∀ te1 go1 ch1 se1, (∀ Kr : Ob → Prop, (∀ m2, SRel NL Cs Q AL tx (b + 2) te1 go1 ch1 se1 m2 → Kr m2) → wp_M_back m (fun m1 => M_step_19 m1 Kr)) → K te1 go1 ch1 se1) : wp_Sea_step nm pr te go ch se K := by
  obtain ⟨sT, sCh, sn, sn', sS, sM, sA0, sAs, s3, s4, s40, s41, sg0, sg1⟩ := hS
  obtain ⟨s, FL, GLp, rpk, dpk, chlk, sfk, cl⟩ := d
  obtain ⟨⟨hP, h60, ⟨g, k, rest, last, hstr, g2, g3, g3', g4⟩, ⟨c4, c5, c6⟩, c7, c8, c9, c10, c11, c12, c13, c14, c15, c16, c17, c18⟩, ⟨hold, hheld⟩, hrest⟩ := sCh
  dsimp only at hP h60 hstr g4 c6 c7 c8 c9 c10 c11 c12 c13 c14 c15 c16 c17 c18 hold
  rw [List.length_cons] at sn sn'
  have emax : max (ch.1 0 - 1) (0 : Int) = (chs.length : Int) := by omega
  have e17 : m.1 17 - 1 = (chs.length : Int) := by omega
  have hcl : chs.length ≤ s.length := ChOk_len hrest (fun d' hd' => (hold d' hd').1)
  obtain ⟨f1, f2, f3, ⟨⟨D0, hD0, hGl⟩, gC, gV, gA, gr, g120, gn⟩⟩ := Path_fr hP
  have hM := MW_path sS hP (by omega)
  have hW := fE_WE hM
  have hst := stripG_le (fE FL) GLp
  rw [hstr, List.length_cons] at hst
  have h24 := sS.2.2.1
  have hgm : (g, k) ∈ GLp := by
    have hsub : ∀ l : List (Nat × Nat), ∀ r ∈ stripG (fE FL) l, r ∈ l := by
      intro l
      induction l with
      | nil => intro r hr; exact hr
      | cons y l ih =>
        intro r hr
        rcases sG_dec (fE FL) y.1 with w | w
        · rw [stripG_cut w] at hr; exact List.mem_cons_of_mem _ (ih r hr)
        · rw [stripG_id w] at hr; exact hr
    exact hsub GLp _ (by rw [hstr]; exact List.mem_cons_self)
  have hg : g < (fE FL).length := (hGl _ hgm).1
  cases cl with
  | nil => exact absurd rfl c16
  | cons c t =>
  have hcm : c ∈ (fits (fE FL) rpk Cs g).filter (fun c => decide (last < c)) := by rw [← g4]; exact List.mem_cons_self
  obtain ⟨hcf, hlc⟩ := List.mem_filter.mp hcm
  have hlc : last < c := of_decide_eq_true hlc
  have hc : c < Cs.length := (fits_mem.mp hcf).1
  have hinc : Inc (c :: t) := by rw [g4]; exact List.Pairwise.filter _ (fits_inc _ _ _ _)
  have hlt : bt2 (c :: t) < 2 ^ 24 := by
    have h3' := bt2_lt Cs.length (fun c' => fitB (fE FL) rpk (Cs.getD c' ([], [])) g && decide (last < c'))
    have h4' : (List.range Cs.length).filter (fun c' => fitB (fE FL) rpk (Cs.getD c' ([], [])) g && decide (last < c')) = c :: t := by
      rw [g4]
      unfold fits
      rw [List.filter_filter]
      exact List.filter_congr (fun x _ => Bool.and_comm _ _)
    rw [h4'] at h3'
    have := Nat.pow_le_pow_right (show 0 < 2 by decide) h24
    omega
  -- the clauses left, as a row
  have hleft : ∀ x, x ∈ fits (fE FL) rpk Cs g → last < x → x = c ∨ x ∈ t := fun x hx hl => by
    have : x ∈ c :: t := by rw [g4]; exact List.mem_filter.mpr ⟨hx, decide_eq_true hl⟩
    exact List.mem_cons.mp this
  have hcmin : ∀ x ∈ t, c < x := fun x hx => by
    unfold Inc at hinc
    rw [List.pairwise_cons] at hinc
    exact hinc.1 x hx
  have htm : ∀ x ∈ t, x ∈ fits (fE FL) rpk Cs g := fun x hx => by
    have : x ∈ (fits (fE FL) rpk Cs g).filter (fun c => decide (last < c)) := by rw [← g4]; exact List.mem_cons_of_mem _ hx
    exact (List.mem_filter.mp this).1
  refine ⟨fun z => by omega, fun _ => ?_⟩
  unfold wp_Sea_takeChoice wp_Cho_goBack wp_Goa_first wp_Cho_count wp_Cho_takeCandidate
  rw [emax]
  refine ⟨⟨by omega, by omega⟩, ⟨by omega, by omega⟩, ⟨by omega, by omega⟩, ⟨by omega, by omega⟩, ⟨by omega, by omega⟩, ?_⟩
  rw [c7, c8]
  refine sp_goBackT sT c11 hW c12 c13 c14 c15 (fun te1 hT1 e3 e3' hsf => ⟨⟨by omega, by omega⟩, ?_⟩)
  have sM1 : TeM b te1 := by unfold TeM; rw [e3, e3']; exact sM
  have hGo2 : GoC (sI (sI go 1 (ch.2.1 0 (chs.length : Int))) 0 (ch.2.1 1 (chs.length : Int))) ((g, k) :: rest) := ⟨g2, c4⟩
  refine sp_termOf hGo2.1 (by show ch.2.1 1 (chs.length : Int) ≤ 488; omega) ?_
  refine sp_takeFirst hGo2 (by show ch.2.1 1 (chs.length : Int) ≤ 488; omega) (fun go3 hGo3 e30 e31 => ⟨⟨by omega, by omega⟩, ⟨by omega, by omega⟩, ⟨by omega, by omega⟩, ?_⟩)
  have e30 : go3.1 0 = ch.2.1 1 (chs.length : Int) := e30
  have e31 : go3.2.1 = go.2.1 := e31
  rw [c17, c9]
  have hTr1 : TrU (fE FL).length sfk chlk (te1.2.1 2) chlk := ⟨[], (List.append_nil _).symm, fun _ hx => absurd hx (List.not_mem_nil), fun x hx _ => hsf x hx⟩
  refine sp_first hinc (by omega) ⟨⟨by omega, by omega⟩, sp_without hinc hlt ⟨⟨by omega, by omega⟩, ⟨by omega, by omega⟩, ?_⟩⟩
  -- the older choices
  have older : ∀ (ch' m' : Ob), (∀ i, 0 ≤ i → i < (chs.length : Int) → (∀ j, j < 6 → ch'.2.1 j i = ch.2.1 j i) ∧ m'.2.1 17 i = m.2.1 17 i ∧ m'.2.1 18 i = m.2.1 18 i) → m'.2.1 15 = m.2.1 15 → m'.2.1 16 = m.2.1 16 → ChOk NL Cs Q (fE FL) chlk (te1.2.1 2) go3 ch' m' chs := fun ch' m' hi k15 k16 =>
    ChOk_back e31 k15 k16 (fun d' hd' => ⟨(hold d' hd').2.1, TrU_trans (by obtain ⟨X, hX⟩ := (hold d' hd').2.1; rw [hX, List.length_append]; omega) (hold d' hd').2.2 hTr1⟩) (fun i i0 i1 => ⟨⟨(hi i i0 i1).1, by rw [e30]; exact hheld i i0 i1⟩, (hi i i0 i1).2⟩) hrest
  -- what is left to do
  have go2 : ∀ (ch5 : Ob) (chs5 : List ChD), (∀ d' ∈ chs5, d'.1.length ≤ s.length) → (∀ mm : Ob, (∀ i, 0 ≤ i → i < (chs.length : Int) → mm.2.1 17 i = m.2.1 17 i ∧ mm.2.1 18 i = m.2.1 18 i) → mm.2.1 17 (chs.length : Int) = m.2.1 17 (chs.length : Int) → mm.2.1 18 (chs.length : Int) = (c : Int) → mm.2.1 15 = m.2.1 15 → mm.2.1 16 = m.2.1 16 → (t = [] → mm.1 17 = (chs.length : Int)) → (t ≠ [] → mm.1 17 = (chs.length : Int) + 1) → ChOk NL Cs Q (fE FL) chlk (te1.2.1 2) go3 ch5 mm chs5 ∧ ch5.1 0 = (chs5.length : Int) ∧ mm.1 17 = (chs5.length : Int)) → Sea_step_18 (c : Int) nm pr te1 go3 ch5 (sI (sI (sI (sI se 2 0) 3 (s.length : Int)) 5 (g : Int)) 6 (ch.1 0 - 1)) K := fun ch5 chs5 hcs5 hch5 => by
    refine ⟨fun z => by omega, fun _ => ?_⟩
    refine resolve_sim (ch := ch5) (cut := chs.length) (chs := chs5) (k := k) (s := s) (GLp := GLp) (rest := rest) (g := g) (m := m) (b := b) hPr hne hT1 sS sM1 sA0 sAs s40 s41 (by rw [e30]; exact c4) (by rw [e30]; omega) hP hstr hGo3 hc h60 rfl rfl (by show ch.1 0 - 1 = _; omega) rfl h1 hcs5 (by rw [e30]; exact c6) hb (fun te2 go2 se2 hev => ?_)
    refine fin_sim (REF := fun Kr => wp_M_back m Kr) (fun Kr hKr => ?_) (fun se3 hev2 => hK te2 go2 ch5 se3 hev2)
    unfold wp_M_back
    rw [e17, c10]
    refine ⟨⟨by omega, by omega⟩, ⟨by omega, by omega⟩, ?_⟩
    refine sp_again hP (by omega) sS c18 (fun m1 a1 a16 hR => ?_)
    rw [hstr] at hR
    obtain ⟨BL, hB, hI, hG, hPA⟩ := hR
    obtain ⟨⟨q1, q2, q3⟩, q4⟩ := hG
    rw [List.length_cons] at q4
    have e18 : m1.1 18 - 1 = (rest.length : Int) := by omega
    have hfe : fits (fE FL) rpk Cs g = fits (fE FL) (fo (fE FL) (sl FL) BL) Cs g := fits_eq hW hI gC gV gr hg
    have hnv : ¬ isV (fE FL) g := fun z => by
      unfold isV at z
      have hng : ¬ sG (fE FL) g := fun w => by
        have : ∀ l : List (Nat × Nat), ∀ r rs, stripG (fE FL) l = r :: rs → ¬ sG (fE FL) r.1 := by
          intro l
          induction l with
          | nil => intro r rs h; cases h
          | cons y l ih =>
            intro r rs h
            rcases sG_dec (fE FL) y.1 with w | w
            · rw [stripG_cut w] at h; exact ih r rs h
            · rw [stripG_id w] at h; injection h with h' _; rw [← h']; exact w
        exact this GLp (g, k) rest hstr w
      rcases gn _ hgm with w | w
      · exact hng (Or.inl w)
      · have : 0 ≤ (en (fE FL) g).1 := w.1
        omega
    have r1 : rmf m m1 := rmf_amf a1
    have rI : rmf m1 (sI m1 18 (rest.length : Int)) := rmf_I (Or.inr (Or.inr (Or.inr (Or.inr rfl))))
    have sS1 : Stc NL Cs Q AL tx (sI m1 18 (rest.length : Int)) := Stc_rmf sS (rmf_trans r1 rI)
    have hM1 : MW FL (sI m1 18 (rest.length : Int)) := MW_path sS1 hP (by omega)
    have a18 : m1.2.1 18 = m.2.1 18 := a1.2.1 18 (by decide) (by decide) (by decide) (by decide) (by decide) (by decide)
    have a17 : m1.2.1 17 = m.2.1 17 := a1.2.1 17 (by decide) (by decide) (by decide) (by decide) (by decide) (by decide)
    have b15 : m1.2.1 15 = m.2.1 15 := a1.2.1 15 (by decide) (by decide) (by decide) (by decide) (by decide) (by decide)
    have b16 : m1.2.1 16 = m.2.1 16 := a1.2.1 16 (by decide) (by decide) (by decide) (by decide) (by decide) (by decide)
    have i15 : m1.1 15 = m.1 15 := a1.1 15 (by decide) (by decide) (by decide) (by decide)
    rw [e18, a18, g3]
    refine ⟨⟨by omega, by omega⟩, ⟨by omega, by omega⟩, ⟨by omega, by omega⟩, ⟨by omega, by omega⟩, ?_⟩
    rw [show (last : Int) = ((last + 1 : Nat) : Int) - 1 by omega]
    refine sp_candS (k0 := last + 1) sS1 hM1 hB q1 hnv (by omega) (fun c' m2 s2 j1 j2 j3 => ?_) (fun m2 s2 hno => ?_)
    · rw [← hfe] at j1 j3
      have hcc : c' = c := by
        have h1' := j3 c hcf (by omega)
        rcases hleft c' j1 (by omega) with w | w
        · exact w
        · have := hcmin c' w; omega
      subst hcc
      have e182 : m2.1 18 = (rest.length : Int) := s2.1 18 (by decide) (by decide)
      have e192 : m2.2.1 19 = m1.2.1 19 := s2.2.1 19 (by decide)
      have e202 : m2.2.1 20 = m1.2.1 20 := s2.2.1 20 (by decide)
      rw [e182, e192, e202]
      refine ⟨⟨by omega, by omega⟩, ⟨by omega, by omega⟩, ⟨by omega, by omega⟩, ?_⟩
      have sS2' := Stc_rmf sS1 (rmf_sfr s2)
      have sS2 : Stc NL Cs Q AL tx (sA m2 18 (chs.length : Int) (c' : Int)) := sS2'
      have hM2 : MW FL (sA m2 18 (chs.length : Int) (c' : Int)) := MW_path sS2 hP (by omega)
      have hB2' := BdOk_sfr (m := sI m1 18 (rest.length : Int)) hB s2
      have hB2 : BdOk FL (sA m2 18 (chs.length : Int) (c' : Int)) BL := hB2'
      -- the end, at the two new states
      have fin : ∀ (m4 : Ob) (v : Int), sfr (sA m2 18 (chs.length : Int) (c' : Int)) m4 → (t = [] → v = (chs.length : Int)) → (t ≠ [] → v = (chs.length : Int) + 1) → M_back_97 (chs.length : Int) (c' : Int) v m4 Kr := fun m4 v s4' v0 v1 => by
        have x17 : m4.2.1 17 = m.2.1 17 := (s4'.2.1 17 (by decide)).trans ((s2.2.1 17 (by decide)).trans a17)
        have x18 : m4.2.1 18 = updI (m.2.1 18) (chs.length : Int) (c' : Int) := (s4'.2.1 18 (by decide)).trans (by show updI (m2.2.1 18) _ _ = _; rw [s2.2.1 18 (by decide)]; show updI (m1.2.1 18) _ _ = _; rw [a18])
        have x15 : m4.2.1 15 = m.2.1 15 := (s4'.2.1 15 (by decide)).trans ((s2.2.1 15 (by decide)).trans b15)
        have x16 : m4.2.1 16 = m.2.1 16 := (s4'.2.1 16 (by decide)).trans ((s2.2.1 16 (by decide)).trans b16)
        obtain ⟨k1, k2, k3⟩ := hch5 (sI m4 17 v) (fun i i0 i1 => ⟨by show m4.2.1 17 i = _; rw [x17], by show m4.2.1 18 i = _; rw [x18]; exact if_neg (by omega)⟩) (by show m4.2.1 17 _ = _; rw [x17]) (by show m4.2.1 18 _ = _; rw [x18]; exact if_pos rfl) x15 x16 v0 v1
        have sS4' := Stc_rmf sS2 (rmf_sfr s4')
        have sS4 : Stc NL Cs Q AL tx (sI m4 17 v) := sS4'
        have hB4' := BdOk_sfr hB2 s4'
        have hB4 : BdOk FL (sI m4 17 v) BL := hB4'
        refine hev (sI m4 17 v) Kr k1 k2 k3 sS4 ?_ ?_ ⟨BL, hB4, hI, ⟨?_, ?_⟩, ?_⟩ ?_ (fun m5 hr => hKr m5 (SRes_Pre hr))
        · show (s.length : Int) = m4.1 16
          rw [s4'.1 16 (by decide) (by decide)]
          show (s.length : Int) = m2.1 16
          rw [s2.1 16 (by decide) (by decide)]
          exact a16.symm
        · show se.1 4 = m4.1 15
          rw [s4'.1 15 (by decide) (by decide)]
          show se.1 4 = m2.1 15
          rw [s2.1 15 (by decide) (by decide), s4]
          exact i15.symm
        · show MGo FL (m4.2.1 19) (m4.2.1 20) (m4.2.1 21) rest
          rw [s4'.2.1 19 (by decide), s4'.2.1 20 (by decide), s4'.2.1 21 (by decide)]
          show MGo FL (m2.2.1 19) (m2.2.1 20) (m2.2.1 21) rest
          rw [e192, e202, s2.2.1 21 (by decide)]
          exact q3
        · show m4.1 18 = _
          rw [s4'.1 18 (by decide) (by decide)]
          exact e182
        · show PA (m4.2.1 15) (m4.2.1 16) s
          rw [x15, x16]; exact c18
        · show Lo FL (m4.2.1 19 _) (m4.2.1 20 _) g
          rw [s4'.2.1 19 (by decide), s4'.2.1 20 (by decide)]
          show Lo FL (m2.2.1 19 _) (m2.2.1 20 _) g
          rw [e192, e202]; exact q1
      have key := sp_candS (Cs := Cs) (NL := NL) (Q := Q) (AL := AL) (k0 := c' + 1) (p := m1.2.1 19 (rest.length : Int)) (f := m1.2.1 20 (rest.length : Int)) (g := g) (m := sA m2 18 (chs.length : Int) (c' : Int)) (K := fun r_5 m_4 => ((0 ≤ r_5 → R32 ((chs.length : Int) + 1) ∧ M_back_97 (chs.length : Int) (c' : Int) ((chs.length : Int) + 1) m_4 Kr) ∧ (¬ 0 ≤ r_5 → M_back_97 (chs.length : Int) (c' : Int) (chs.length : Int) m_4 Kr))) sS2 hM2 hB2 q1 hnv (by omega) (fun k2 m4 s4' j1 j2 j3 => ⟨fun _ => ⟨⟨by omega, by omega⟩, fin m4 _ s4' (fun e => ?_) (fun _ => rfl)⟩, fun z => absurd (by omega) z⟩) (fun m4 s4' hno => ⟨fun z => absurd z (by decide), fun _ => fin m4 _ s4' (fun _ => rfl) (fun e => ?_)⟩)
      · rw [show ((c' + 1 : Nat) : Int) - 1 = (c' : Int) by omega] at key
        exact key
      · rw [← hfe] at j1
        rcases hleft k2 j1 (by omega) with w | w
        · omega
        · rw [e] at w; exact absurd w (List.not_mem_nil)
      · rw [← hfe] at hno
        cases t with
        | nil => exact absurd rfl e
        | cons y t =>
          have := hcmin y List.mem_cons_self
          exact absurd (by omega) (hno y (htm y List.mem_cons_self))
    · rw [← hfe] at hno
      exact absurd (by omega) (hno c hcf)
  refine ⟨fun htz => ?_, fun htz => ?_⟩
  · have htn : t ≠ [] := fun e => htz (by show updI (ch.2.1 5) _ _ _ = 0; unfold updI; rw [if_pos rfl, e]; rfl)
    refine go2 _ ((s, FL, GLp, rpk, dpk, chlk, sfk, t) :: chs) (fun d' hd' => ?_) (fun mm n0 n1 n2 n3 n4 n5 n6 => ?_)
    · rcases List.mem_cons.mp hd' with w | w
      · rw [w]; exact Nat.le_refl _
      · exact Nat.le_of_lt (hold d' w).1
    · have rows : ∀ i, 0 ≤ i → i < (chs.length : Int) → ∀ j, j < 6 → (sA ch 5 (chs.length : Int) (bt2 t : Int)).2.1 j i = ch.2.1 j i := fun i i0 i1 j hj => by
        have up : ∀ (f : Int → Int) (v : Int), updI f (chs.length : Int) v i = f i := fun f v => if_neg (by omega)
        match j, hj with
        | 0, _ => rfl
        | 1, _ => rfl
        | 2, _ => rfl
        | 3, _ => rfl
        | 4, _ => rfl
        | 5, _ => exact up _ _
      refine ⟨⟨⟨hP, h60, ⟨g, k, rest, c, hstr, by rw [e31]; exact g2, n2, by omega, ?_⟩, ⟨c4, by rw [e30]; exact Int.le_refl _, c6⟩, c7, c8, c9, by rw [n1]; exact c10, ⟨[], (List.append_nil _).symm⟩, hTr1, c13, c14, c15, htn, ?_, by rw [n3, n4]; exact c18⟩, ⟨hold, hheld⟩, older _ mm (fun i i0 i1 => ⟨rows i i0 i1, n0 i i0 i1⟩) n3 n4⟩, ?_, ?_⟩
      · show t = (fits (fE FL) rpk Cs g).filter (fun d => decide (c < d))
        have e2 : (fits (fE FL) rpk Cs g).filter (fun d => decide (c < d)) = ((fits (fE FL) rpk Cs g).filter (fun d => decide (last < d))).filter (fun d => decide (c < d)) := by
          rw [List.filter_filter]
          refine List.filter_congr (fun x _ => ?_)
          by_cases h : c < x
          · rw [decide_eq_true h, decide_eq_true (show last < x by omega)]; rfl
          · rw [decide_eq_false h]; rfl
        rw [e2, ← g4, Inc_filter hinc]
      · show updI (ch.2.1 5) (chs.length : Int) (bt2 t : Int) (chs.length : Int) = _
        exact if_pos rfl
      · show ch.1 0 = ((chs.length + 1 : Nat) : Int); omega
      · rw [n6 htn]; show _ = ((chs.length + 1 : Nat) : Int); omega
  · have htn : t = [] := by
      have htz : updI (ch.2.1 5) (chs.length : Int) (bt2 t : Int) (chs.length : Int) = 0 := htz
      unfold updI at htz
      rw [if_pos rfl] at htz
      cases t with
      | nil => rfl
      | cons y t =>
        rw [bt2_cons] at htz
        have := Nat.two_pow_pos y
        omega
    refine go2 _ chs (fun d' hd' => Nat.le_of_lt (hold d' hd').1) (fun mm n0 n1 n2 n3 n4 n5 n6 => ⟨older _ mm (fun i i0 i1 => ⟨fun j hj => ?_, n0 i i0 i1⟩) n3 n4, rfl, n5 htn⟩)
    have up : ∀ (f : Int → Int) (v : Int), updI f (chs.length : Int) v i = f i := fun f v => if_neg (by omega)
    match j, hj with
    | 0, _ => rfl
    | 1, _ => rfl
    | 2, _ => rfl
    | 3, _ => rfl
    | 4, _ => rfl
    | 5, _ => exact up _ _
