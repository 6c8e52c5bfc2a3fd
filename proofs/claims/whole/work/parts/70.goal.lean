/-! the search: a goal is taken -/
theorem getD_at {Cs A C : List Part} {P : Part} (h : Cs = A ++ P :: C) : Cs.getD A.length ([], []) = P ∧ A.length < Cs.length := by
  rw [h]
  refine ⟨?_, by rw [List.length_append, List.length_cons]; omega⟩
  rw [List.getD_eq_getElem?_getD, List.getElem?_append_right (Nat.le_refl _), Nat.sub_self]
  rfl
section FW
variable {NL : List Nat} {Cs : List Part} {Q : Part} {AL : List Nat} {tx : Ob} {FL : List Frm} {BL : List (Nat × Nat)} {q : Nat × Nat} {rest : List (Nat × Nat)} {m : Ob} {Kr : Ob → Prop}
theorem sp_candS {k0 : Nat} {p f : Int} {g : Nat} {K : Int → Ob → Prop} (hS : Stc NL Cs Q AL tx m) (hM : MW FL m) (hB : BdOk FL m BL) (hL : Lo FL p f g) (hnv : ¬ isV (fE FL) g) (hk0 : k0 ≤ 24) (hK1 : ∀ (k : Nat) (m' : Ob), sfr m m' → k ∈ fits (fE FL) (fo (fE FL) (sl FL) BL) Cs g → k0 ≤ k → (∀ j ∈ fits (fE FL) (fo (fE FL) (sl FL) BL) Cs g, k0 ≤ j → k ≤ j) → K (k : Int) m') (hK0 : ∀ m', sfr m m' → (∀ j ∈ fits (fE FL) (fo (fE FL) (sl FL) BL) Cs g, ¬ k0 ≤ j) → K (-1) m') : wp_M_candidate p f ((k0 : Int) - 1) m K := by
  refine sp_candM hM hB hL hnv hS.2.2.2.2.2.1 hS.2.2.1 (fun A P C hA => ?_) (fun P hP => ?_) hk0 hK1 hK0
  · have := getD_at hA
    have h2 := hS.1 A.length this.2
    rw [this.1] at h2
    exact h2
  · have := hS.2.2.2.1 P hP
    refine ⟨this.1.1, fun e => ?_⟩
    obtain ⟨-, -, a, w, T, e2, -⟩ := this.2
    rw [e] at e2
    cases e2
theorem fw_cut (hM : MW FL m) (hG : GoM FL m (q :: rest)) (hl : rest.length ≤ 200) (he : en (fE FL) q.1 = (-2, 0)) (h17 : 0 ≤ m.1 17) (hK : Kr (sI (sI m 18 (rest.length : Int)) 17 (min (m.1 17) (q.2 : Int)))) : wp_M_forward m Kr := by
  obtain ⟨⟨g1, g2, g3⟩, g4⟩ := hG
  rw [List.length_cons] at g4
  have e : m.1 18 - 1 = (rest.length : Int) := by omega
  have lq := Lo_en hM g1
  unfold wp_M_forward
  rw [e]
  have hc := (Lo_cut hM g1).mpr he
  refine ⟨⟨by omega, by omega⟩, ⟨by omega, by omega⟩, ⟨by omega, by omega⟩, ⟨lq.1, lq.2.1⟩, fun z => absurd hc z, fun _ => ⟨⟨by omega, by omega⟩, fun z => ⟨⟨by omega, by omega⟩, ?_⟩, fun z => ?_⟩⟩
  · show Kr (sI (sI m 18 (rest.length : Int)) 17 (m.2.1 21 (rest.length : Int)))
    rw [g2]
    rw [g2] at z
    rw [show min (m.1 17) (q.2 : Int) = (q.2 : Int) by omega] at hK
    exact hK
  · show Kr (sI (sI m 18 (rest.length : Int)) 17 (m.1 17))
    rw [g2] at z
    rw [show min (m.1 17) (q.2 : Int) = m.1 17 by omega] at hK
    exact hK
theorem fw_true (hM : MW FL m) (hG : GoM FL m (q :: rest)) (hl : rest.length ≤ 200) (he : en (fE FL) q.1 = (0, 1702195828)) (hK : Kr (sI m 18 (rest.length : Int))) : wp_M_forward m Kr := by
  obtain ⟨⟨g1, g2, g3⟩, g4⟩ := hG
  rw [List.length_cons] at g4
  have e : m.1 18 - 1 = (rest.length : Int) := by omega
  have lq := Lo_en hM g1
  unfold wp_M_forward
  rw [e]
  have hM' : MW FL (sI m 18 (rest.length : Int)) := MW_rmf hM (rmf_I (Or.inr (Or.inr (Or.inr (Or.inr rfl)))))
  refine ⟨⟨by omega, by omega⟩, ⟨by omega, by omega⟩, ⟨by omega, by omega⟩, ⟨lq.1, lq.2.1⟩, fun _ => sp_alone hM' g1 (fun _ => ⟨fun z => absurd z (by decide), fun _ => hK⟩) (fun w => absurd he w), fun z => ?_⟩
  have := (Lo_cut hM g1).mp z
  rw [he] at this
  exact absurd this (by decide)
theorem fw_name (hS : Stc NL Cs Q AL tx m) (hM : MW FL m) (hB : BdOk FL m BL) (hG : GoM FL m (q :: rest)) (hl : rest.length ≤ 200) (hn : 0 ≤ (en (fE FL) q.1).1) (ht : en (fE FL) q.1 ≠ (0, 1702195828)) (h17 : 0 ≤ m.1 17 ∧ m.1 17 ≤ 60)
    (hfail : en (fE FL) q.1 = (0, 1818845542) ∨ fits (fE FL) (fo (fE FL) (sl FL) BL) Cs q.1 = [] → ∀ m', sfr (sI m 18 (rest.length : Int)) m' → Kr (sI m' 13 3))
    (hdeep : en (fE FL) q.1 ≠ (0, 1818845542) → fits (fE FL) (fo (fE FL) (sl FL) BL) Cs q.1 ≠ [] → m.1 16 = 60 → ∀ m', sfr (sI m 18 (rest.length : Int)) m' → Kr (sI (sI m' 13 4) 14 3))
    (hgo : en (fE FL) q.1 ≠ (0, 1818845542) → ∀ (c : Nat) (t : List Nat), fits (fE FL) (fo (fE FL) (sl FL) BL) Cs q.1 = c :: t → m.1 16 ≠ 60 → ∀ m', sfr (sI m 18 (rest.length : Int)) m' → (t = [] → wp_M_resolve (c : Int) (m.1 17) m' Kr) ∧ (t ≠ [] → wp_M_resolve (c : Int) (m.1 17) (sI (sA (sA m' 17 (m.1 17) (m.1 16)) 18 (m.1 17) (c : Int)) 17 (m.1 17 + 1)) Kr)) : wp_M_forward m Kr := by
  obtain ⟨⟨g1, g2, g3⟩, g4⟩ := hG
  rw [List.length_cons] at g4
  have e : m.1 18 - 1 = (rest.length : Int) := by omega
  have lq := Lo_en hM g1
  have rI : rmf m (sI m 18 (rest.length : Int)) := rmf_I (Or.inr (Or.inr (Or.inr (Or.inr rfl))))
  have hM' : MW FL (sI m 18 (rest.length : Int)) := MW_rmf hM rI
  have hS' := Stc_rmf hS rI
  have hB' : BdOk FL (sI m 18 (rest.length : Int)) BL := hB
  have hnv : ¬ isV (fE FL) q.1 := fun z => by unfold isV at z; omega
  have hinc := fits_inc (fE FL) (fo (fE FL) (sl FL) BL) Cs q.1
  unfold wp_M_forward
  rw [e]
  refine ⟨⟨by omega, by omega⟩, ⟨by omega, by omega⟩, ⟨by omega, by omega⟩, ⟨lq.1, lq.2.1⟩, fun _ => sp_alone hM' g1 (fun w => absurd w ht) (fun _ => ⟨fun _ => ?_, fun z => absurd rfl z⟩), fun z => ?_⟩
  · refine sp_alone hM' g1 (fun w => ⟨fun z => absurd z (by decide), fun _ => ⟨fun z => absurd z (by decide), fun _ => ?_⟩⟩) (fun w => ⟨fun _ => ?_, fun z => absurd rfl z⟩)
    · exact hfail (Or.inl w) _ (sfr_refl _)
    · refine sp_candS (k0 := 0) hS' hM' hB g1 hnv (Nat.zero_le _) (fun k m' s' k1 k2 k3 => ?_) (fun m' s' hno => ?_)
      · -- there is one
        cases hf : fits (fE FL) (fo (fE FL) (sl FL) BL) Cs q.1 with
        | nil => rw [hf] at k1; exact absurd k1 (List.not_mem_nil)
        | cons c t =>
          have hkc : k = c := by
            have h1 := k3 c (by rw [hf]; exact List.mem_cons_self) (Nat.zero_le _)
            rw [hf] at k1 hinc
            unfold Inc at hinc
            rw [List.pairwise_cons] at hinc
            rcases List.mem_cons.mp k1 with w2 | w2
            · exact w2
            · have := hinc.1 k w2; omega
          subst hkc
          have hk24 : k < 24 := by
            have := (fits_mem.mp (show k ∈ fits (fE FL) (fo (fE FL) (sl FL) BL) Cs q.1 by rw [hf]; exact List.mem_cons_self)).1
            have := hS.2.2.1
            omega
          have e16 : m'.1 16 = m.1 16 := s'.1 16 (by decide) (by decide)
          have e17 : m'.1 17 = m.1 17 := s'.1 17 (by decide) (by decide)
          refine ⟨fun _ => ⟨fun hd => ?_, fun hd => ?_⟩, fun z => absurd (by omega) z⟩
          · have hd : ¬ m'.1 16 = 60 := hd
            have := sp_candS (Cs := Cs) (NL := NL) (Q := Q) (AL := AL) (k0 := k + 1) (p := m.2.1 19 (rest.length : Int)) (f := m.2.1 20 (rest.length : Int)) (g := q.1) (m := m') (K := fun r_6 m_5 => ((r_6 < 0 → M_forward_187 (k : Int) (m'.1 17) m_5 Kr) ∧ (¬ r_6 < 0 → ((0 : Int) ≤ (m_5.1 17) ∧ (m_5.1 17) < (61 : Int)) ∧ ((0 : Int) ≤ (m_5.1 17) ∧ (m_5.1 17) < (61 : Int)) ∧ R32 ((m_5.1 17) + 1) ∧ M_forward_187 (k : Int) (m'.1 17) (sI (sA (sA m_5 17 (m_5.1 17) (m_5.1 16)) 18 (m_5.1 17) (k : Int)) 17 ((m_5.1 17) + 1)) Kr))) (Stc_rmf hS' (rmf_sfr s')) (MW_sfr hM' s') (BdOk_sfr hB' s') g1 hnv (by omega) (fun k2 m2 s2 j1 j2 j3 => ⟨fun z => by omega, fun _ => ?_⟩) (fun m2 s2 hno => ⟨fun _ => ?_, fun z => absurd (by decide) z⟩)
            · rw [show ((k + 1 : Nat) : Int) - 1 = (k : Int) by omega] at this
              exact this
            · have e17' : m2.1 17 = m.1 17 := (s2.1 17 (by decide) (by decide)).trans e17
              have e16' : m2.1 16 = m.1 16 := (s2.1 16 (by decide) (by decide)).trans e16
              have ht : t ≠ [] := fun w2 => by
                rw [hf, w2] at j1
                have := List.mem_singleton.mp j1
                omega
              rw [e17', e16']
              refine ⟨⟨by omega, by omega⟩, ⟨by omega, by omega⟩, ⟨by omega, by omega⟩, ?_⟩
              show wp_M_resolve (k : Int) (m'.1 17) _ Kr
              rw [e17]
              exact (hgo w k t hf (by omega) m2 (sfr_trans s' s2)).2 ht
            · have ht : t = [] := by
                cases t with
                | nil => rfl
                | cons y t =>
                  have hy : y ∈ fits (fE FL) (fo (fE FL) (sl FL) BL) Cs q.1 := by rw [hf]; exact List.mem_cons_of_mem _ List.mem_cons_self
                  rw [hf] at hinc
                  unfold Inc at hinc
                  rw [List.pairwise_cons] at hinc
                  exact absurd (hinc.1 y List.mem_cons_self) (hno y hy)
              show wp_M_resolve (k : Int) (m'.1 17) m2 Kr
              rw [e17]
              exact (hgo w k t hf (by omega) m2 (sfr_trans s' s2)).1 ht
          · have hd : m'.1 16 = 60 := hd
            exact hdeep w (by rw [hf]; exact List.cons_ne_nil _ _) (by omega) m' s'
      · refine ⟨fun z => absurd z (by decide), fun _ => hfail (Or.inr ?_) m' s'⟩
        cases hf : fits (fE FL) (fo (fE FL) (sl FL) BL) Cs q.1 with
        | nil => rfl
        | cons c t => exact absurd (Nat.zero_le _) (hno c (by rw [hf]; exact List.mem_cons_self))
  · have := (Lo_cut hM g1).mp z
    rw [this] at hn
    exact absurd hn (by decide)
end FW
theorem RefL_sfr {FL : List Frm} {GL : List (Nat × Nat)} {rp : Nat → Nat} {s : List (Nat × Nat)} {m m' : Ob} (h : RefL FL GL rp s m) (f : sfr m m') : RefL FL GL rp s m' := by
  obtain ⟨BL, h1, h2, h3, h4⟩ := h
  refine ⟨BL, BdOk_sfr h1 f, h2, ⟨?_, (f.1 18 (by decide) (by decide)).trans h3.2⟩, ?_⟩
  · rw [f.2.1 19 (by decide), f.2.1 20 (by decide), f.2.1 21 (by decide)]; exact h3.1
  · rw [f.2.1 15 (by decide), f.2.1 16 (by decide)]; exact h4
theorem goal_sim {NL : List Nat} {Cs : List Part} {Q : Part} {AL : List Nat} {tx : Ob} {b : Int} {E : List Sy} {chl : List Nat} {rp dp : Nat → Nat} {chs : List ChD} {q : Nat × Nat} {rest : List (Nat × Nat)} {nm pr te go ch se m : Ob} {K : Ob → Ob → Ob → Ob → Prop} (hnm : nmKp nm NL) (hPr : PrOk NL Cs pr) (hne : ∀ p ∈ Cs, p.1 ≠ []) (hS : SCom NL Cs Q AL tx b E chl rp dp chs te go ch se m) (hLv : SLiv Cs Q AL E rp chs (q :: rest) go se m) (h1 : se.1 1 = 2) (h13 : m.1 13 = 1) (hb : b ≤ 900000)
    (hK : ∀ te1 go1 ch1 se1, (∀ Kr : Ob → Prop, (∀ m2, SRel NL Cs Q AL tx (b + 2) te1 go1 ch1 se1 m2 → Kr m2) → wp_M_step m Kr) → K te1 go1 ch1 se1) : wp_Sea_step nm pr te go ch se K := by
  obtain ⟨h2, s, FL, GLp, pre, hP, rfl, hpre, hsg, hGo, hR, h3, hs60, hcs, hgo8, hAT⟩ := hLv
  have hS0 := hS
  obtain ⟨sT, sCh, sn, sn', sS, sM, sA0, sAs, s3, s4, s40, s41, sg0, sg1⟩ := hS
  obtain ⟨f1, f2, f3, ⟨⟨D0, hD0, hGl⟩, gC, gV, gA, gr, g120, gn⟩⟩ := Path_fr hP
  have hqm : ∀ r ∈ q :: rest, r ∈ GLp := fun r hr => by rw [hpre]; exact List.mem_append_right _ hr
  have hq := (hGl q (hqm q List.mem_cons_self)).1
  have hrl : rest.length ≤ 120 := by
    have : GLp.length = pre.length + (rest.length + 1) := by rw [hpre, List.length_append, List.length_cons]
    omega
  have hM := MW_path sS hP hs60
  have hW := fE_WE hM
  have hO := Path_ok sS hP
  have hR0 := hR
  obtain ⟨BL, hB, hI, hG, hPA⟩ := hR
  have hfe : fits (fE FL) rp Cs q.1 = fits (fE FL) (fo (fE FL) (sl FL) BL) Cs q.1 := fits_eq hW hI gC gV gr hq
  have hcl : chs.length ≤ s.length := ChOk_len sCh hcs
  have hT0 := sT.1.1
  have hT1 := sT.1.2.1
  have r18 : rmf m (sI m 18 (rest.length : Int)) := rmf_I (Or.inr (Or.inr (Or.inr (Or.inr rfl))))
  have hRr : RefL FL rest rp s (sI m 18 (rest.length : Int)) := ⟨BL, hB, hI, ⟨hG.1.2.2, rfl⟩, hPA⟩
  have b2 : TeM (b + 2) te := ⟨sM.1, by have := sM.2.1; omega, sM.2.2⟩
  refine ⟨fun _ => ?_, fun z => absurd h2 z⟩
  unfold wp_Sea_takeGoal wp_Goa_first
  refine sp_termOf hGo.1 (by omega) ?_
  refine sp_takeFirst hGo (by omega) (fun go3 hGo3 e30 e31 => ?_)
  have hGoq : GoL (go3.2.1 0) (go3.2.1 1) (go3.2.1 2) (go3.1 0) (go.1 1) (q :: rest) := by rw [e31, e30]; exact hGo.1
  refine ⟨fun w => by omega, fun _ => ⟨fun w => by omega, fun _ => ⟨⟨by omega, by omega⟩, ?_⟩⟩⟩
  rw [(sT.1.2.2 q.1 hq).1]
  -- choices over the new row of goals
  have chk : ∀ (ch' m' : Ob) (l : List ChD), (∀ i, 0 ≤ i → i < (l.length : Int) → (∀ j, j < 6 → ch'.2.1 j i = ch.2.1 j i) ∧ m'.2.1 17 i = m.2.1 17 i ∧ m'.2.1 18 i = m.2.1 18 i) → m'.2.1 15 = m.2.1 15 → m'.2.1 16 = m.2.1 16 → ChOk NL Cs Q (fE FL) chl (te.2.1 2) go ch m l → ChOk NL Cs Q (fE FL) chl (te.2.1 2) go3 ch' m' l := fun ch' m' l hi e15 e16 h => ChOk_mono ⟨[], (List.append_nil _).symm⟩ (TrU_refl _ _ _) (by rw [e30]; exact Int.le_refl _) (fun x _ _ => by rw [e31]; exact ⟨rfl, rfl, rfl⟩) hi (fun d _ y _ _ => ⟨by rw [e15], by rw [e16]⟩) h
  -- no clause is needed, or none fits
  have noclause : ∀ (ch' se' : Ob), (∀ Kr : Ob → Prop, (∀ m1, SPre NL Cs Q AL tx (b + 2) te go3 ch' se' m1 → Kr m1) → wp_M_forward m Kr) → Sea_step_18 (-1) nm pr te go3 ch' se' K := fun ch' se' hev => ⟨fun _ => fin_sim hev (fun se2 hev2 => hK te go3 ch' se2 (fun Kr hKr => ⟨fun z => absurd h13 z, fun _ => hev2 Kr hKr⟩)), fun z => absurd rfl z⟩
  have com : ∀ (ch' se' m' : Ob) (l : List ChD), ChOk NL Cs Q (fE FL) chl (te.2.1 2) go3 ch' m' l → ch'.1 0 = (l.length : Int) → m'.1 17 = (l.length : Int) → Stc NL Cs Q AL tx m' → se'.1 0 = se.1 0 → se'.2 = se.2 → se'.1 3 = se.1 3 → se'.1 4 = se.1 4 → m'.1 16 = m.1 16 → m'.1 15 = m.1 15 → SCom NL Cs Q AL tx (b + 2) (fE FL) chl rp dp l te go3 ch' se' m' := fun ch' se' m' l k1 k2 k3 k4 e0 e2 e3 e4 g16 g15 => ⟨sT, k1, k2, k3, k4, b2, by rw [e0]; exact sA0, fun v hv => by rw [e2]; exact sAs v hv, by rw [e3, g16]; exact s3, by rw [e4, g15]; exact s4, by rw [e4]; exact s40, by rw [e4]; omega, by rw [e30]; exact sg0, by rw [e30]; exact sg1⟩
  rcases gn q (hqm q List.mem_cons_self) with hcut | ⟨n1, n2, n3⟩
  · -- a cut
    have ecs : cs NL (en (fE FL) q.1) = 16 := by rw [hcut]; exact sC_c NL
    rw [ecs]
    refine ⟨fun w => absurd rfl w, fun _ => sp_cutOf hGoq (by omega) (noclause _ _ (fun Kr hKr => ?_))⟩
    refine fw_cut hM hG (by omega) hcut (by omega) (hKr _ ?_)
    have hlen : (chs.drop (chs.length - min chs.length q.2)).length = min chs.length q.2 := by rw [List.length_drop]; omega
    refine ⟨fE FL, chl, rp, dp, chs.drop (chs.length - min chs.length q.2), com _ _ _ _ (chk _ _ _ (fun i _ _ => ⟨fun _ _ => rfl, rfl, rfl⟩) rfl rfl (ChOk_drop _ sCh)) ?_ ?_ sS rfl rfl rfl rfl rfl rfl, Or.inr (Or.inl ⟨rest, ⟨h2, s, FL, GLp, pre ++ [q], hP, rfl, ?_, fun r hr => ?_, hGo3, RefL_I hRr (by decide), h3, hs60, fun d hd => hcs d (List.mem_of_mem_drop hd), ?_, hAT⟩, h1, h13⟩)⟩
    · show min (ch.1 0) (max (q.2 : Int) 0) = _
      rw [hlen, sn]; omega
    · show min (m.1 17) (q.2 : Int) = _
      rw [hlen, sn']; omega
    · rw [hpre, List.append_assoc]; rfl
    · rcases List.mem_append.mp hr with w | w
      · exact hsg r w
      · rw [List.mem_singleton.mp w]; exact Or.inl hcut
    · rw [e30]; exact hgo8
  · -- a name
    have hog := hO q.1 hq
    have hmm := hog.2.2 n1 n2 n3
    have ecs : cs NL (en (fE FL) q.1) = (3 + (idx NL (en (fE FL) q.1).2 : Int)) * 8 + (en (fE FL) q.1).1 := by
      unfold cs sC
      rw [if_neg (by omega), if_neg (by omega), if_neg (by omega), if_neg n2, if_neg n3]
    refine ⟨fun _ => ?_, fun w => by rw [ecs] at w; omega⟩
    refine sp_argumentsOf ?_
    rw [cs_ar hog.1 hog.2.1]
    -- fails
    have fl0 : (en (fE FL) q.1 ≠ (0, 1702195828)) → (en (fE FL) q.1 = (0, 1818845542) ∨ fits (fE FL) rp Cs q.1 = []) → Sea_takeGoal_124 (go.1 1) 0 nm pr te go3 ch (sI se 5 (q.1 : Int)) (fun r_4 go_1 ch_2 se_3 => Sea_step_18 r_4 nm pr te go_1 ch_2 se_3 K) := fun ht hfl => by
      refine ⟨fun z => absurd rfl z, fun _ => noclause _ _ (fun Kr hKr => ?_)⟩
      refine fw_name sS hM hB hG (by omega) n1 ht ⟨by omega, by omega⟩ (fun _ m' s' => hKr _ ?_) (fun w1 w2 => ?_) (fun w1 c t w2 => ?_)
      · refine ⟨fE FL, chl, rp, dp, chs, com _ _ _ _ (chk _ _ _ (fun i _ _ => ⟨fun _ _ => rfl, ?_, ?_⟩) ?_ ?_ sCh) sn ?_ (Stc_rmf sS (rmf_trans r18 (rmf_trans (rmf_sfr s') (rmf_I (Or.inl rfl))))) rfl rfl rfl rfl ?_ ?_, Or.inl ⟨rfl, h1, rfl⟩⟩
        · show m'.2.1 17 i = _; rw [s'.2.1 17 (by decide)]; rfl
        · show m'.2.1 18 i = _; rw [s'.2.1 18 (by decide)]; rfl
        · show m'.2.1 15 = _; rw [s'.2.1 15 (by decide)]; rfl
        · show m'.2.1 16 = _; rw [s'.2.1 16 (by decide)]; rfl
        · show m'.1 17 = _; rw [s'.1 17 (by decide) (by decide)]; exact sn'
        · show m'.1 16 = _; rw [s'.1 16 (by decide) (by decide)]; rfl
        · show m'.1 15 = _; rw [s'.1 15 (by decide) (by decide)]; rfl
      · rcases hfl with w | w
        · exact absurd w w1
        · rw [← hfe] at w2; exact absurd w w2
      · rcases hfl with w | w
        · exact absurd w w1
        · rw [← hfe, w] at w2; cases w2
    -- with the clauses
    have f119 : (en (fE FL) q.1 ≠ (0, 1702195828)) → (en (fE FL) q.1 ≠ (0, 1818845542)) → Sea_takeGoal_119 (go.1 1) (cs NL (en (fE FL) q.1)) nm pr te go3 ch (sI se 5 (q.1 : Int)) (fun r_4 go_1 ch_2 se_3 => Sea_step_18 r_4 nm pr te go_1 ch_2 se_3 K) := fun ht hf => by
      refine sp_candidates hW hO sT hPr hne hq rfl ⟨n1, n2, n3⟩ ?_
      cases hL : fits (fE FL) rp Cs q.1 with
      | nil => exact fl0 ht (Or.inr hL)
      | cons c t =>
        have hinc := fits_inc (fE FL) rp Cs q.1
        rw [hL] at hinc
        have hc : c < Cs.length := (fits_mem.mp (show c ∈ fits (fE FL) rp Cs q.1 by rw [hL]; exact List.mem_cons_self)).1
        have h24 := sS.2.2.1
        have hpos : bt2 (c :: t) ≠ 0 := by rw [bt2_cons]; have := Nat.two_pow_pos c; omega
        have hlt : bt2 (c :: t) < 2 ^ 24 := by
          have h3' := bt2_lt Cs.length (fun c => fitB (fE FL) rp (Cs.getD c ([], [])) q.1)
          have h4' : fits (fE FL) rp Cs q.1 = (List.range Cs.length).filter (fun c => fitB (fE FL) rp (Cs.getD c ([], [])) q.1) := rfl
          rw [← h4', hL] at h3'
          have := Nat.pow_le_pow_right (show 0 < 2 by decide) h24
          omega
        have hLf : fits (fE FL) (fo (fE FL) (sl FL) BL) Cs q.1 = c :: t := by rw [← hfe]; exact hL
        refine ⟨fun _ => ⟨fun hd => ?_, fun hd => ?_⟩, fun z => by omega⟩
        · -- a clause is taken
          have hd : ¬ se.1 3 = 60 := hd
          have h60 : s.length < 60 := by omega
          have hstr : stripG (fE FL) GLp = (q.1, q.2) :: rest := by
            rw [hpre, strip_pre hsg]
            exact stripG_id (fun w => by
              rcases w with w | w
              · rw [w] at n1; exact absurd n1 (by decide)
              · exact ht w)
          -- the choices from now on
          have go2 : ∀ (ch5 : Ob) (chs5 : List ChD), (∀ d ∈ chs5, d.1.length ≤ s.length) → (∀ m', sfr (sI m 18 (rest.length : Int)) m' → (t = [] → ChOk NL Cs Q (fE FL) chl (te.2.1 2) go3 ch5 m' chs5 ∧ ch5.1 0 = (chs5.length : Int) ∧ m'.1 17 = (chs5.length : Int)) ∧ (t ≠ [] → ChOk NL Cs Q (fE FL) chl (te.2.1 2) go3 ch5 (sI (sA (sA m' 17 (m.1 17) (m.1 16)) 18 (m.1 17) (c : Int)) 17 (m.1 17 + 1)) chs5 ∧ ch5.1 0 = (chs5.length : Int) ∧ m.1 17 + 1 = (chs5.length : Int))) → Sea_choose_44 (bt2 (c :: t) : Int) te go3 ch5 (sI (sI se 5 (q.1 : Int)) 6 (ch.1 0)) (fun r_9 ch_7 se_8 => Sea_step_18 r_9 nm pr te go3 ch_7 se_8 K) := fun ch5 chs5 hcs5 hch5 => by
            refine sp_first hinc (by omega) ⟨fun z => by omega, fun _ => ?_⟩
            refine resolve_sim (ch := ch5) (cut := chs.length) (chs := chs5) (k := q.2) (s := s) (GLp := GLp) (rest := rest) (g := q.1) (m := m) (b := b) hPr hne sT sS sM sA0 sAs s40 s41 (by rw [e30]; exact sg0) (by rw [e30]; exact sg1) hP hstr hGo3 hc h60 h3 rfl sn h2 h1 hcs5 (by rw [e30]; exact hgo8) hb (fun te1 go1 se1 hev => ?_)
            refine fin_sim (REF := fun Kr => wp_M_forward m Kr) (fun Kr hKr => ?_) (fun se2 hev2 => hK te1 go1 ch5 se2 (fun Kr hKr => ⟨fun z => absurd h13 z, fun _ => hev2 Kr hKr⟩))
            refine fw_name sS hM hB hG (by omega) n1 ht ⟨by omega, by omega⟩ (fun w => ?_) (fun _ _ w => by omega) (fun _ c' t' w _ m' s' => ?_)
            · rcases w with w | w
              · exact absurd w hf
              · rw [hLf] at w; cases w
            · rw [hLf] at w
              obtain ⟨rfl, rfl⟩ : c = c' ∧ t = t' := by injection w with a b; exact ⟨a, b⟩
              have e19 : m'.2.1 19 = m.2.1 19 := s'.2.1 19 (by decide)
              have e20 : m'.2.1 20 = m.2.1 20 := s'.2.1 20 (by decide)
              have e16 : m'.1 16 = m.1 16 := s'.1 16 (by decide) (by decide)
              have e15 : m'.1 15 = m.1 15 := s'.1 15 (by decide) (by decide)
              have hSm := Stc_rmf sS (rmf_trans r18 (rmf_sfr s'))
              refine ⟨fun htn => ?_, fun htn => ?_⟩
              · obtain ⟨k1, k2, k3⟩ := (hch5 m' s').1 htn
                rw [sn']
                exact hev m' Kr k1 k2 k3 hSm (by rw [e16]; exact s3) (by rw [e15]; exact s4) (RefL_sfr hRr s') (by rw [e19, e20]; exact hG.1.1) (fun m1 hr => hKr m1 (SRes_Pre hr))
              · obtain ⟨k1, k2, k3⟩ := (hch5 m' s').2 htn
                have key := hev (sI (sA (sA m' 17 (m.1 17) (m.1 16)) 18 (m.1 17) (c : Int)) 17 (m.1 17 + 1)) Kr k1 k2 k3 hSm (by show se.1 3 = m'.1 16; rw [e16]; exact s3) (by show se.1 4 = m'.1 15; rw [e15]; exact s4) (by obtain ⟨BL', b1, b2', b3, b4⟩ := RefL_sfr hRr s'; exact ⟨BL', b1, b2', b3, b4⟩) (by show Lo FL (m'.2.1 19 _) (m'.2.1 20 _) q.1; rw [e19, e20]; exact hG.1.1) (fun m1 hr => hKr m1 (SRes_Pre hr))
                rw [← sn'] at key
                exact key
          have sfrc : ∀ (m' : Ob), sfr (sI m 18 (rest.length : Int)) m' → m'.2.1 15 = m.2.1 15 ∧ m'.2.1 16 = m.2.1 16 ∧ m'.2.1 17 = m.2.1 17 ∧ m'.2.1 18 = m.2.1 18 ∧ m'.1 17 = m.1 17 := fun m' s' => ⟨s'.2.1 15 (by decide), s'.2.1 16 (by decide), s'.2.1 17 (by decide), s'.2.1 18 (by decide), s'.1 17 (by decide) (by decide)⟩
          unfold wp_Sea_choose wp_Cho_count
          refine sp_without hinc hlt ⟨fun htz => ?_, fun htz => ?_⟩
          · have htn : t = [] := by
              cases t with
              | nil => rfl
              | cons y t =>
                have htz : ((bt2 (y :: t) : Nat) : Int) = 0 := htz
                rw [bt2_cons] at htz
                have := Nat.two_pow_pos y
                omega
            refine go2 ch chs (fun d hd => Nat.le_of_lt (hcs d hd)) (fun m' s' => ⟨fun _ => ?_, fun w => absurd htn w⟩)
            obtain ⟨k1, k2, k3, k4, k5⟩ := sfrc m' s'
            exact ⟨chk _ _ _ (fun i _ _ => ⟨fun _ _ => rfl, by rw [k3], by rw [k4]⟩) k1 k2 sCh, sn, by rw [k5]; exact sn'⟩
          · have htn : t ≠ [] := fun e => htz (by rw [e]; rfl)
            have hcount : ch.1 0 < 60 := by omega
            refine ⟨fun z => by omega, fun _ => ⟨⟨by omega, by omega⟩, ⟨by omega, by omega⟩, ⟨by omega, by omega⟩, ⟨by omega, by omega⟩, ⟨by omega, by omega⟩, ⟨by omega, by omega⟩, ⟨by omega, by omega⟩, ?_⟩⟩
            refine go2 _ ((s, FL, GLp, rp, dp, chl, te.2.1 2, t) :: chs) (fun d hd => ?_) (fun m' s' => ⟨fun w => absurd w htn, fun _ => ?_⟩)
            · rcases List.mem_cons.mp hd with w | w
              · rw [w]; exact Nat.le_refl _
              · exact Nat.le_of_lt (hcs d w)
            · obtain ⟨k1, k2, k3, k4, k5⟩ := sfrc m' s'
              refine ⟨⟨⟨hP, h60, ⟨q.1, q.2, rest, c, hstr, ?_, ?_, by omega, ?_⟩, ⟨?_, ?_, ?_⟩, ?_, ?_, ?_, ?_, ⟨[], (List.append_nil _).symm⟩, TrU_refl _ _ _, sT.2.1, sT.2.2.2.2.1, sT.2.2.2.2.2, htn, ?_, ?_⟩, ⟨fun d' hd' => ⟨hcs d' hd', ChOk_mem sCh d' hd'⟩, fun j j0 j1 => ?_⟩, ?_⟩, ?_, ?_⟩
              · show GoL _ _ _ (updI (ch.2.1 1) (ch.1 0) (go3.1 0) (chs.length : Int)) (updI (ch.2.1 0) (ch.1 0) (go.1 1) (chs.length : Int)) _
                unfold updI
                rw [if_pos sn.symm, if_pos sn.symm]
                exact hGoq
              · show updI (m'.2.1 18) (m.1 17) (c : Int) (chs.length : Int) = _
                unfold updI; rw [if_pos sn'.symm]
              · show t = (fits (fE FL) rp Cs q.1).filter (fun d => decide (c < d))
                rw [hL, Inc_filter hinc]
              · show 0 ≤ updI (ch.2.1 1) (ch.1 0) (go3.1 0) (chs.length : Int)
                unfold updI; rw [if_pos sn.symm, e30]; exact sg0
              · show updI (ch.2.1 1) (ch.1 0) (go3.1 0) (chs.length : Int) ≤ go3.1 0
                unfold updI; rw [if_pos sn.symm]; exact Int.le_refl _
              · show updI (ch.2.1 1) (ch.1 0) (go3.1 0) (chs.length : Int) ≤ _
                unfold updI; rw [if_pos sn.symm, e30]; exact hgo8
              · show updI (ch.2.1 2) (ch.1 0) (te.1 0) (chs.length : Int) = _
                unfold updI; rw [if_pos sn.symm]; exact hT0
              · show updI (ch.2.1 3) (ch.1 0) (te.1 1) (chs.length : Int) = _
                unfold updI; rw [if_pos sn.symm]; exact sT.2.2.1
              · show updI (ch.2.1 4) (ch.1 0) (se.1 3) (chs.length : Int) = _
                unfold updI; rw [if_pos sn.symm]; exact h3
              · show updI (m'.2.1 17) (m.1 17) (m.1 16) (chs.length : Int) = _
                unfold updI; rw [if_pos sn'.symm, ← s3]; exact h3
              · show updI (ch.2.1 5) (ch.1 0) (bt2 t : Int) (chs.length : Int) = _
                unfold updI; rw [if_pos sn.symm]
              · show PA (m'.2.1 15) (m'.2.1 16) s
                rw [k1, k2]; exact hPA
              · show updI (ch.2.1 1) (ch.1 0) (go3.1 0) j ≤ updI (ch.2.1 1) (ch.1 0) (go3.1 0) (chs.length : Int)
                unfold updI
                rw [if_neg (by omega), if_pos sn.symm, e30]
                exact ChOk_held sCh j j0 j1
              · refine chk _ _ _ (fun i i0 i1 => ⟨fun j hj => ?_, ?_, ?_⟩) k1 k2 sCh
                · have up : ∀ (f : Int → Int) (v : Int), updI f (ch.1 0) v i = f i := fun f v => if_neg (by omega)
                  match j, hj with
                  | 0, _ => exact up _ _
                  | 1, _ => exact up _ _
                  | 2, _ => exact up _ _
                  | 3, _ => exact up _ _
                  | 4, _ => exact up _ _
                  | 5, _ => exact up _ _
                · show updI (m'.2.1 17) (m.1 17) (m.1 16) i = _
                  unfold updI; rw [if_neg (by omega), k3]
                · show updI (m'.2.1 18) (m.1 17) (c : Int) i = _
                  unfold updI; rw [if_neg (by omega), k4]
              · show ch.1 0 + 1 = ((chs.length + 1 : Nat) : Int); omega
              · show m.1 17 + 1 = ((chs.length + 1 : Nat) : Int); omega
        · -- the branch is at its longest
          have hd : se.1 3 = 60 := hd
          refine noclause _ _ (fun Kr hKr => ?_)
          refine fw_name sS hM hB hG (by omega) n1 ht ⟨by omega, by omega⟩ (fun w => ?_) (fun _ _ _ m' s' => hKr _ ?_) (fun _ _ _ _ w => by omega)
          · rcases w with w | w
            · exact absurd w hf
            · rw [hLf] at w; cases w
          · refine ⟨fE FL, chl, rp, dp, chs, com _ _ _ _ (chk _ _ _ (fun i _ _ => ⟨fun _ _ => rfl, ?_, ?_⟩) ?_ ?_ sCh) sn ?_ (Stc_rmf sS (rmf_trans r18 (rmf_trans (rmf_sfr s') (rmf_trans (rmf_I (Or.inl rfl)) (rmf_I (Or.inr (Or.inl rfl))))))) rfl rfl rfl rfl ?_ ?_, Or.inr (Or.inr ⟨h2, rfl, Or.inl ⟨rfl, rfl⟩, rest, hGo3, ?_, by omega⟩)⟩
            · show m'.2.1 17 i = _; rw [s'.2.1 17 (by decide)]; rfl
            · show m'.2.1 18 i = _; rw [s'.2.1 18 (by decide)]; rfl
            · show m'.2.1 15 = _; rw [s'.2.1 15 (by decide)]; rfl
            · show m'.2.1 16 = _; rw [s'.2.1 16 (by decide)]; rfl
            · show m'.1 17 = _; rw [s'.1 17 (by decide) (by decide)]; exact sn'
            · show m'.1 16 = _; rw [s'.1 16 (by decide) (by decide)]; rfl
            · show m'.1 15 = _; rw [s'.1 15 (by decide) (by decide)]; rfl
            · show m'.1 18 = _; rw [s'.1 18 (by decide) (by decide)]; rfl
    -- true goes by
    have ftrue : en (fE FL) q.1 = (0, 1702195828) → Sea_step_18 (-1) nm pr te go3 ch (sI se 5 (q.1 : Int)) K := fun ht => noclause _ _ (fun Kr hKr => by
      refine fw_true hM hG (by omega) ht (hKr _ ?_)
      refine ⟨fE FL, chl, rp, dp, chs, com _ _ _ _ (chk _ _ _ (fun i _ _ => ⟨fun _ _ => rfl, rfl, rfl⟩) rfl rfl sCh) sn sn' sS rfl rfl rfl rfl rfl rfl, Or.inr (Or.inl ⟨rest, ⟨h2, s, FL, GLp, pre ++ [q], hP, rfl, by rw [hpre, List.append_assoc]; rfl, fun r hr => ?_, hGo3, hRr, h3, hs60, hcs, by rw [e30]; exact hgo8, hAT⟩, h1, h13⟩)⟩
      rcases List.mem_append.mp hr with w | w
      · exact hsg r w
      · rw [List.mem_singleton.mp w]; exact Or.inr ht)
    have ena : (((en (fE FL) q.1).1.toNat : Nat) : Int) = (nA (fE FL) q.1 : Int) := rfl
    rw [ena]
    refine ⟨fun hz => ?_, fun hz => ?_⟩
    · have hnz : (en (fE FL) q.1).1 ≠ 0 := fun e => hz (by unfold nA; rw [e]; rfl)
      have nt : en (fE FL) q.1 ≠ (0, 1702195828) := fun e => hnz (by rw [e])
      have nf : en (fE FL) q.1 ≠ (0, 1818845542) := fun e => hnz (by rw [e])
      exact ⟨fun _ => ⟨fun _ => f119 nt nf, fun w => absurd rfl w⟩, fun w => absurd rfl w⟩
    · have e0 : (en (fE FL) q.1).1 = 0 := by unfold nA at hz; omega
      refine ⟨fun w => absurd w (by decide), fun _ => sp_wordOf hnm e0 n2 n3 hmm ⟨fun ht => ?_, fun ht => ?_⟩⟩
      · have nt : en (fE FL) q.1 ≠ (0, 1702195828) := fun e => ht (by rw [e])
        refine ⟨fun w => absurd w (by decide), fun _ => sp_wordOf hnm e0 n2 n3 hmm ⟨fun hf => ?_, fun hf => ?_⟩⟩
        · exact f119 nt (fun e => hf (by rw [e]))
        · exact fl0 nt (Or.inl (Prod.ext e0 hf))
      · exact ftrue (Prod.ext e0 ht)
